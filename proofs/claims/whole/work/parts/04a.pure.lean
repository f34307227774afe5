noncomputable def lp_X5_append_3 (a1 : Int32) : Nat → Int32 → (Nat → Int32) → Int32 → Option ((Nat → Int32) × Int32)
  | 0, _, _, _ => none
  | n + 1, x1, f2, x3 =>
    if x1 < 0 then
      some (f2, x3)
    else
      if 400 ≤ x3 then
        nm (x1 + (-8)) fun x4 =>
        lp_X5_append_3 a1 n x4 f2 x3
      else
        nm (((a1).toUInt32 >>> ((x1 : Int32).toUInt32 &&& Int32.toUInt32 31)).toInt32 &&& 255) fun x5 =>
        ckI x3 400 <|
        nm (x3 + 1) fun x6 =>
        nm (x1 + (-8)) fun x7 =>
        lp_X5_append_3 a1 n x7 (upd f2 x3.toNatClampNeg x5) x6
noncomputable def pf_X5_append (a1 : Int32) (t_bytes : Nat → Int32) (t_count : Int32) : Option ((Nat → Int32) × Int32) :=
lp_X5_append_3 a1 FU 24 t_bytes t_count

noncomputable def pf_X5_rewind : Option (Int32 × Int32) :=
some (0, (-1))

noncomputable def pf_X5_goesOn (t_count : Int32) (t_at : Int32) (t_fault : Int32) : Option (Int32 × Unit) :=
if t_fault = (-1) then
  if t_count ≤ t_at then
    some (0, ())
  else
    some (1, ())
else
  some (0, ())

noncomputable def pf_X5_peek (t_bytes : Nat → Int32) (t_count : Int32) (t_at : Int32) : Option (Int32 × Unit) :=
if t_at < 0 then
  some ((-1), ())
else
  if t_count ≤ t_at then
    some ((-1), ())
  else
    ckI t_at 400 <|
    some ((t_bytes t_at.toNatClampNeg), ())

noncomputable def pf_X5_blame (a1 : Int32) (t_fault : Int32) : Option (Int32) :=
if t_fault = (-1) then
  some a1
else
  some t_fault

noncomputable def pf_X5_takes (a1 : Int32) (t_bytes : Nat → Int32) (t_count : Int32) (t_at : Int32) (t_fault : Int32) : Option (Int32 × Int32) :=
if t_fault = (-1) then
  bi_0 (pf_X5_peek t_bytes t_count t_at) fun r1 =>
  if r1 = a1 then
    nm (t_at + 1) fun x2 =>
    some (1, x2)
  else
    some (0, t_at)
else
  some (0, t_at)

noncomputable def pf_X5_needs (a1 : Int32) (t_bytes : Nat → Int32) (t_count : Int32) (t_at : Int32) (t_fault : Int32) : Option (Int32 × Int32) :=
bi_1 (pf_X5_takes a1 t_bytes t_count t_at t_fault) fun r1 x2 =>
if r1 = 0 then
  bv_1 (pf_X5_blame x2 t_fault) fun x3 =>
  some (x2, x3)
else
  some (x2, t_fault)

noncomputable def pf_X5_isAtDigit (t_bytes : Nat → Int32) (t_count : Int32) (t_at : Int32) : Option (Int32 × Unit) :=
bi_0 (pf_X5_peek t_bytes t_count t_at) fun r1 =>
if r1 < 48 then
  some (0, ())
else
  bi_0 (pf_X5_peek t_bytes t_count t_at) fun r2 =>
  if 57 < r2 then
    some (0, ())
  else
    some (1, ())

noncomputable def lp_X5_number_21 (t_count : Int32) (t_bytes : Nat → Int32) (J62 : Int32 → Int32 → Option (Int32 × Int32 × Int32)) : Nat → Int32 → Int32 → Int32 → Option (Int32 × Int32 × Int32)
  | 0, _, _, _ => none
  | n + 1, x6, x7, x8 =>
    if 4 ≤ x7 then
      J62 x6 x8
    else
      bi_0 (pf_X5_isAtDigit t_bytes t_count x8) fun r9 =>
      if r9 = 0 then
        J62 x6 x8
      else
        bi_0 (pf_X5_peek t_bytes t_count x8) fun r10 =>
        nm (((x6 * 10) + r10) - 48) fun x11 =>
        nm (x8 + 1) fun x12 =>
        nm (x7 + 1) fun x13 =>
        lp_X5_number_21 t_count t_bytes J62 n x11 x13 x12
noncomputable def pf_X5_number (t_bytes : Nat → Int32) (t_count : Int32) (t_at : Int32) (t_fault : Int32) : Option (Int32 × Int32 × Int32) :=
bi_0 (pf_X5_isAtDigit t_bytes t_count t_at) fun r1 =>
if r1 = 0 then
  bv_1 (pf_X5_blame t_at t_fault) fun x14 =>
  some (0, t_at, x14)
else
  jn (fun (x2 : Int32) (x3 : Int32) =>
  bi_0 (pf_X5_isAtDigit t_bytes t_count x3) fun r4 =>
  if r4 = 0 then
    some (x2, x3, t_fault)
  else
    bv_1 (pf_X5_blame x3 t_fault) fun x5 =>
    some (x2, x3, x5)) fun J62 =>
  lp_X5_number_21 t_count t_bytes J62 FU 0 0 t_at

noncomputable def pf_X5_signedNumber (t_bytes : Nat → Int32) (t_count : Int32) (t_at : Int32) (t_fault : Int32) : Option (Int32 × Int32 × Int32) :=
bi_1 (pf_X5_takes 45 t_bytes t_count t_at t_fault) fun r1 x2 =>
bi_2 (pf_X5_number t_bytes t_count x2 t_fault) fun r3 x4 x5 =>
if r1 = 0 then
  some (r3, x4, x5)
else
  some ((-r3), x4, x5)

noncomputable def pf_X5_holds (a1 : Int32) (a2 : Int32) (t_fault : Int32) : Option (Int32 × Int32) :=
jn (fun (x1 : Int32) =>
if x1 = (-1) then
  some (1, x1)
else
  some (0, x1)) fun J9 =>
if a1 = 0 then
  bv_1 (pf_X5_blame a2 t_fault) fun x2 =>
  J9 x2
else
  J9 t_fault

noncomputable def pf_X3_add (a1 : Int32) (a2 : Int32) (t_kind : Nat → Int32) (t_value : Nat → Int32) (t_steps : Int32) : Option ((Nat → Int32) × (Nat → Int32) × Int32) :=
if 80 ≤ t_steps then
  some (t_kind, t_value, t_steps)
else
  ckI t_steps 80 <|
  ckI t_steps 80 <|
  nm (t_steps + 1) fun x1 =>
  some ((upd t_kind t_steps.toNatClampNeg a1), (upd t_value t_steps.toNatClampNeg a2), x1)

noncomputable def lp_X3_readProduct_8 (TT : Int32 → (Nat → Int32) → (Nat → Int32) → Int32 → Int32 → (Nat → Int32) → Int32 → Int32 → Int32 → Option ((Nat → Int32) × (Nat → Int32) × Int32 × Int32 × Int32 × Int32)) (a2 : Int32) (p1_count : Int32) (p1_bytes : Nat → Int32) : Nat → Int32 → (Nat → Int32) → (Nat → Int32) → Int32 → Int32 → Int32 → Int32 → Option ((Nat → Int32) × (Nat → Int32) × Int32 × Int32 × Int32 × Int32)
  | 0, _, _, _, _, _, _, _ => none
  | n + 1, x7, f8, f9, x10, x11, x12, x13 =>
    if 400 ≤ x7 then
      some (f8, f9, x10, x11, x12, x13)
    else
      bi_0 (pf_X5_goesOn p1_count x12 x13) fun r14 =>
      if r14 = 0 then
        some (f8, f9, x10, x11, x12, x13)
      else
        bi_0 (pf_X5_peek p1_bytes p1_count x12) fun r15 =>
        jn (nm (x12 + 1) fun x16 =>
        bv_6 (TT a2 f8 f9 x10 x11 p1_bytes p1_count x16 x13) fun f17 f18 x19 x20 x21 x22 =>
        bv_3 (pf_X3_add r15 0 f17 f18 x19) fun f23 f24 x25 =>
        nm (x7 + 1) fun x26 =>
        lp_X3_readProduct_8 TT a2 p1_count p1_bytes n x26 f23 f24 x25 x20 x21 x22) fun J50 =>
        if r15 = 42 then
          J50
        else
          if r15 = 47 then
            J50
          else
            if r15 = 37 then
              J50
            else
              some (f8, f9, x10, x11, x12, x13)
noncomputable def pf_X3_readProduct (TT : Int32 → (Nat → Int32) → (Nat → Int32) → Int32 → Int32 → (Nat → Int32) → Int32 → Int32 → Int32 → Option ((Nat → Int32) × (Nat → Int32) × Int32 × Int32 × Int32 × Int32)) (a2 : Int32) (t_kind : Nat → Int32) (t_value : Nat → Int32) (t_steps : Int32) (t_things : Int32) (p1_bytes : Nat → Int32) (p1_count : Int32) (p1_at : Int32) (p1_fault : Int32) : Option ((Nat → Int32) × (Nat → Int32) × Int32 × Int32 × Int32 × Int32) :=
bv_6 (TT a2 t_kind t_value t_steps t_things p1_bytes p1_count p1_at p1_fault) fun f1 f2 x3 x4 x5 x6 =>
lp_X3_readProduct_8 TT a2 p1_count p1_bytes FU 0 f1 f2 x3 x4 x5 x6
noncomputable def lp_X3_readSum_8 (TT : Int32 → (Nat → Int32) → (Nat → Int32) → Int32 → Int32 → (Nat → Int32) → Int32 → Int32 → Int32 → Option ((Nat → Int32) × (Nat → Int32) × Int32 × Int32 × Int32 × Int32)) (a2 : Int32) (p1_count : Int32) (p1_bytes : Nat → Int32) : Nat → Int32 → (Nat → Int32) → (Nat → Int32) → Int32 → Int32 → Int32 → Int32 → Option ((Nat → Int32) × (Nat → Int32) × Int32 × Int32 × Int32 × Int32)
  | 0, _, _, _, _, _, _, _ => none
  | n + 1, x7, f8, f9, x10, x11, x12, x13 =>
    if 400 ≤ x7 then
      some (f8, f9, x10, x11, x12, x13)
    else
      bi_0 (pf_X5_goesOn p1_count x12 x13) fun r14 =>
      if r14 = 0 then
        some (f8, f9, x10, x11, x12, x13)
      else
        bi_0 (pf_X5_peek p1_bytes p1_count x12) fun r15 =>
        jn (nm (x12 + 1) fun x16 =>
        bv_6 (pf_X3_readProduct TT a2 f8 f9 x10 x11 p1_bytes p1_count x16 x13) fun f17 f18 x19 x20 x21 x22 =>
        bv_3 (pf_X3_add r15 0 f17 f18 x19) fun f23 f24 x25 =>
        nm (x7 + 1) fun x26 =>
        lp_X3_readSum_8 TT a2 p1_count p1_bytes n x26 f23 f24 x25 x20 x21 x22) fun J43 =>
        if r15 = 43 then
          J43
        else
          if r15 = 45 then
            J43
          else
            some (f8, f9, x10, x11, x12, x13)
noncomputable def pf_X3_readSum (TT : Int32 → (Nat → Int32) → (Nat → Int32) → Int32 → Int32 → (Nat → Int32) → Int32 → Int32 → Int32 → Option ((Nat → Int32) × (Nat → Int32) × Int32 × Int32 × Int32 × Int32)) (a2 : Int32) (t_kind : Nat → Int32) (t_value : Nat → Int32) (t_steps : Int32) (t_things : Int32) (p1_bytes : Nat → Int32) (p1_count : Int32) (p1_at : Int32) (p1_fault : Int32) : Option ((Nat → Int32) × (Nat → Int32) × Int32 × Int32 × Int32 × Int32) :=
bv_6 (pf_X3_readProduct TT a2 t_kind t_value t_steps t_things p1_bytes p1_count p1_at p1_fault) fun f1 f2 x3 x4 x5 x6 =>
lp_X3_readSum_8 TT a2 p1_count p1_bytes FU 0 f1 f2 x3 x4 x5 x6
noncomputable def pf_X3_readChoice (TT : Int32 → (Nat → Int32) → (Nat → Int32) → Int32 → Int32 → (Nat → Int32) → Int32 → Int32 → Int32 → Option ((Nat → Int32) × (Nat → Int32) × Int32 × Int32 × Int32 × Int32)) (a2 : Int32) (t_kind : Nat → Int32) (t_value : Nat → Int32) (t_steps : Int32) (t_things : Int32) (p1_bytes : Nat → Int32) (p1_count : Int32) (p1_at : Int32) (p1_fault : Int32) : Option ((Nat → Int32) × (Nat → Int32) × Int32 × Int32 × Int32 × Int32) :=
bv_6 (pf_X3_readSum TT a2 t_kind t_value t_steps t_things p1_bytes p1_count p1_at p1_fault) fun f1 f2 x3 x4 x5 x6 =>
bi_0 (pf_X5_peek p1_bytes p1_count x5) fun r7 =>
bi_1 (pf_X5_takes 60 p1_bytes p1_count x5 x6) fun r8 x9 =>
jn (fun (x10 : Int32) (x11 : Int32) =>
bv_6 (pf_X3_readSum TT a2 f1 f2 x3 x4 p1_bytes p1_count x10 x11) fun f12 f13 x14 x15 x16 x17 =>
bv_2 (pf_X5_needs 63 p1_bytes p1_count x16 x17) fun x18 x19 =>
bv_6 (pf_X3_readSum TT a2 f12 f13 x14 x15 p1_bytes p1_count x18 x19) fun f20 f21 x22 x23 x24 x25 =>
bv_2 (pf_X5_needs 58 p1_bytes p1_count x24 x25) fun x26 x27 =>
bv_6 (pf_X3_readSum TT a2 f20 f21 x22 x23 p1_bytes p1_count x26 x27) fun f28 f29 x30 x31 x32 x33 =>
bv_2 (pf_X5_needs 93 p1_bytes p1_count x32 x33) fun x34 x35 =>
bv_3 (pf_X3_add r7 0 f28 f29 x30) fun f36 f37 x38 =>
some (f36, f37, x38, x31, x34, x35)) fun J26 =>
if r8 = 0 then
  bv_2 (pf_X5_needs 61 p1_bytes p1_count x9 x6) fun x39 x40 =>
  J26 x39 x40
else
  J26 x9 x6
noncomputable def pf_X3_readThing : Nat → Int32 → (Nat → Int32) → (Nat → Int32) → Int32 → Int32 → (Nat → Int32) → Int32 → Int32 → Int32 → Option ((Nat → Int32) × (Nat → Int32) × Int32 × Int32 × Int32 × Int32)
  | 0, _, _, _, _, _, _, _, _, _ => none
  | n + 1, a2, t_kind, t_value, t_steps, t_things, p1_bytes, p1_count, p1_at, p1_fault =>
    bi_0 (pf_X5_goesOn p1_count p1_at p1_fault) fun r1 =>
    if r1 = 0 then
      bv_1 (pf_X5_blame p1_at p1_fault) fun x2 =>
      some (t_kind, t_value, t_steps, t_things, p1_at, x2)
    else
      if 40 ≤ t_things then
        bv_1 (pf_X5_blame p1_at p1_fault) fun x3 =>
        some (t_kind, t_value, t_steps, t_things, p1_at, x3)
      else
        if a2 ≤ 8 then
          nm (t_things + 1) fun x4 =>
          bi_0 (pf_X5_isAtDigit p1_bytes p1_count p1_at) fun r5 =>
          if r5 = 0 then
            bi_0 (pf_X5_peek p1_bytes p1_count p1_at) fun r6 =>
            jn (nm (p1_at + 1) fun x7 =>
            bv_3 (pf_X3_add r6 0 t_kind t_value t_steps) fun f8 f9 x10 =>
            some (f8, f9, x10, x4, x7, p1_fault)) fun J94 =>
            if r6 = 105 then
              J94
            else
              if r6 = 115 then
                J94
              else
                if r6 = 119 then
                  J94
                else
                  if r6 = 104 then
                    J94
                  else
                    if r6 = 116 then
                      J94
                    else
                      bi_1 (pf_X5_takes 40 p1_bytes p1_count p1_at p1_fault) fun r11 x12 =>
                      if r11 = 0 then
                        bi_1 (pf_X5_takes 45 p1_bytes p1_count x12 p1_fault) fun r13 x14 =>
                        if r13 = 0 then
                          bi_1 (pf_X5_takes 91 p1_bytes p1_count x14 p1_fault) fun r15 x16 =>
                          if r15 = 0 then
                            bv_1 (pf_X5_blame x16 p1_fault) fun x17 =>
                            some (t_kind, t_value, t_steps, x4, x16, x17)
                          else
                            bv_6 (pf_X3_readChoice (pf_X3_readThing n) (a2 + 1) t_kind t_value t_steps x4 p1_bytes p1_count x16 p1_fault) fun f18 f19 x20 x21 x22 x23 =>
                            some (f18, f19, x20, x21, x22, x23)
                        else
                          bv_6 ((pf_X3_readThing n) (a2 + 1) t_kind t_value t_steps x4 p1_bytes p1_count x14 p1_fault) fun f24 f25 x26 x27 x28 x29 =>
                          bv_3 (pf_X3_add 110 0 f24 f25 x26) fun f30 f31 x32 =>
                          some (f30, f31, x32, x27, x28, x29)
                      else
                        bv_6 (pf_X3_readSum (pf_X3_readThing n) (a2 + 1) t_kind t_value t_steps x4 p1_bytes p1_count x12 p1_fault) fun f33 f34 x35 x36 x37 x38 =>
                        bv_2 (pf_X5_needs 41 p1_bytes p1_count x37 x38) fun x39 x40 =>
                        some (f33, f34, x35, x36, x39, x40)
          else
            bi_2 (pf_X5_number p1_bytes p1_count p1_at p1_fault) fun r41 x42 x43 =>
            bv_3 (pf_X3_add 48 r41 t_kind t_value t_steps) fun f44 f45 x46 =>
            some (f44, f45, x46, x4, x42, x43)
        else
          bv_1 (pf_X5_blame p1_at p1_fault) fun x47 =>
          some (t_kind, t_value, t_steps, t_things, p1_at, x47)

noncomputable def pf_X3_read (t_kind : Nat → Int32) (t_value : Nat → Int32) (t_steps : Int32) (t_things : Int32) (p1_bytes : Nat → Int32) (p1_count : Int32) : Option ((Nat → Int32) × (Nat → Int32) × Int32 × Int32 × Int32 × Int32) :=
bv_2 (pf_X5_rewind) fun x1 x2 =>
if p1_count = 0 then
  some (t_kind, t_value, t_steps, t_things, x1, x2)
else
  bv_6 (pf_X3_readSum (pf_X3_readThing 12) 1 t_kind t_value t_steps t_things p1_bytes p1_count x1 x2) fun f3 f4 x5 x6 x7 x8 =>
  if p1_count ≤ x7 then
    some (f3, f4, x5, x6, x7, x8)
  else
    bv_1 (pf_X5_blame x7 x8) fun x9 =>
    some (f3, f4, x5, x6, x7, x9)

noncomputable def pf_X0_isAct (a0 : Int32) : Option (Int32 × Unit) :=
if a0 = 61 then
  some (1, ())
else
if a0 = 99 then
  some (1, ())
else
if a0 = 102 then
  some (1, ())
else
if a0 = 104 then
  some (1, ())
else
if a0 = 108 then
  some (1, ())
else
if a0 = 111 then
  some (1, ())
else
if a0 = 112 then
  some (1, ())
else
if a0 = 115 then
  some (1, ())
else
if a0 = 120 then
  some (1, ())
else
some (0, ())

noncomputable def pf_X0_readAct (t_count : Int32) (t_kind : Nat → Int32) (t_one : Nat → Int32) (t_two : Nat → Int32) (p1_bytes : Nat → Int32) (p1_count : Int32) (p1_at : Int32) (p1_fault : Int32) : Option (Int32 × (Nat → Int32) × (Nat → Int32) × (Nat → Int32) × Int32 × Int32) :=
bi_0 (pf_X5_peek p1_bytes p1_count p1_at) fun r1 =>
if 40 ≤ t_count then
  bv_1 (pf_X5_blame p1_at p1_fault) fun x2 =>
  some (t_count, t_kind, t_one, t_two, p1_at, x2)
else
  bi_0 (pf_X0_isAct r1) fun r3 =>
  if r3 = 0 then
    bv_1 (pf_X5_blame p1_at p1_fault) fun x31 =>
    some (t_count, t_kind, t_one, t_two, p1_at, x31)
  else
    nm (p1_at + 1) fun x4 =>
    ckI t_count 40 <|
    ckI t_count 40 <|
    ckI t_count 40 <|
    jn (fun (f5 : Nat → Int32) (x6 : Int32) (x7 : Int32) =>
    jn (fun (f8 : Nat → Int32) (x9 : Int32) (x10 : Int32) =>
    bv_2 (pf_X5_needs 59 p1_bytes p1_count x9 x10) fun x11 x12 =>
    nm (t_count + 1) fun x13 =>
    some (x13, (upd t_kind t_count.toNatClampNeg r1), f5, f8, x11, x12)) fun J173 =>
    jn (bv_2 (pf_X5_needs 44 p1_bytes p1_count x6 x7) fun x14 x15 =>
    jn (fun (x16 : Int32) (x17 : Int32) (x18 : Int32) =>
    ckI t_count 40 <|
    J173 (upd (upd t_two t_count.toNatClampNeg 0) t_count.toNatClampNeg x16) x17 x18) fun J172 =>
    if r1 = 108 then
      bi_2 (pf_X5_number p1_bytes p1_count x14 x15) fun r22 x23 x24 =>
      J172 r22 x23 x24
    else
      bi_2 (pf_X5_signedNumber p1_bytes p1_count x14 x15) fun r19 x20 x21 =>
      J172 r19 x20 x21) fun J141 =>
    if r1 = 108 then
      J141
    else
      if r1 = 115 then
        J141
      else
        if r1 = 111 then
          J141
        else
          J173 (upd t_two t_count.toNatClampNeg 0) x6 x7) fun J123 =>
    jn (bi_2 (pf_X5_signedNumber p1_bytes p1_count x4 p1_fault) fun r25 x26 x27 =>
    ckI t_count 40 <|
    J123 (upd (upd t_one t_count.toNatClampNeg 0) t_count.toNatClampNeg r25) x26 x27) fun J88 =>
    if r1 = 99 then
      J88
    else
      if r1 = 120 then
        J88
      else
        if r1 = 61 then
          J88
        else
          if r1 = 102 then
            J123 (upd t_one t_count.toNatClampNeg 0) x4 p1_fault
          else
            bi_2 (pf_X5_number p1_bytes p1_count x4 p1_fault) fun r28 x29 x30 =>
            ckI t_count 40 <|
            J123 (upd (upd t_one t_count.toNatClampNeg 0) t_count.toNatClampNeg r28) x29 x30

noncomputable def lp_X0_read_11 (p1_count : Int32) (p1_bytes : Nat → Int32) : Nat → Int32 → Int32 → (Nat → Int32) → (Nat → Int32) → (Nat → Int32) → Int32 → Int32 → Option (Int32 × (Nat → Int32) × (Nat → Int32) × (Nat → Int32) × Int32 × Int32)
  | 0, _, _, _, _, _, _, _ => none
  | n + 1, x3, x4, f5, f6, f7, x8, x9 =>
    if 40 < x3 then
      some (x4, f5, f6, f7, x8, x9)
    else
      bi_0 (pf_X5_goesOn p1_count x8 x9) fun r10 =>
      if r10 = 0 then
        some (x4, f5, f6, f7, x8, x9)
      else
        bv_6 (pf_X0_readAct x4 f5 f6 f7 p1_bytes p1_count x8 x9) fun x11 f12 f13 f14 x15 x16 =>
        nm (x3 + 1) fun x17 =>
        lp_X0_read_11 p1_count p1_bytes n x17 x11 f12 f13 f14 x15 x16
noncomputable def pf_X0_read (t_kind : Nat → Int32) (t_one : Nat → Int32) (t_two : Nat → Int32) (p1_bytes : Nat → Int32) (p1_count : Int32) : Option (Int32 × (Nat → Int32) × (Nat → Int32) × (Nat → Int32) × Int32 × Int32) :=
bv_2 (pf_X5_rewind) fun x1 x2 =>
lp_X0_read_11 p1_count p1_bytes FU 0 0 t_kind t_one t_two x1 x2

noncomputable def pf_X0_begin : Option (Int32 × Int32) :=
some (0, (-1))

noncomputable def pf_X0_note (a1 : Int32) (t_done : Int32) (t_told : Nat → Int32) : Option (Int32 × (Nat → Int32)) :=
if 40 ≤ t_done then
  some (t_done, t_told)
else
  ckI t_done 40 <|
  nm (t_done + 1) fun x1 =>
  some (x1, (upd t_told t_done.toNatClampNeg a1))

noncomputable def pf_X1_begin (a1 : Int32) : Option (Int32 × Int32 × Int32 × Int32 × Int32) :=
some (a1, 0, 0, 0, 0)

noncomputable def pf_X1_sign (a1 : Int32) (t_one : Nat → Int32) (t_late : Nat → Int32) : Option (Int32 × Unit) :=
ckI a1 12 <|
if (t_late a1.toNatClampNeg) = 1 then
  ckI a1 12 <|
  if (t_one a1.toNatClampNeg) = 1 then
    some (43, ())
  else
    some (45, ())
else
  ckI a1 12 <|
  if (t_one a1.toNatClampNeg) = 1 then
    some (49, ())
  else
    some (48, ())

noncomputable def pf_X2_clear : Option (Int32 × Int32 × Int32 × Int32 × Int32 × Int32) :=
some (0, 0, 0, 3, 0, 1)

noncomputable def pf_X2_addBit (a1 : Int32) (a2 : Int32) (t_bits : Int32) (t_size : Nat → Int32) (t_off : Nat → Int32) (t_worth : Nat → Int32) (t_stuck : Nat → Int32) : Option (Int32 × (Nat → Int32) × (Nat → Int32) × (Nat → Int32) × (Nat → Int32)) :=
if 12 ≤ t_bits then
  some (t_bits, t_size, t_off, t_worth, t_stuck)
else
  ckI t_bits 12 <|
  ckI t_bits 12 <|
  ckI t_bits 12 <|
  ckI t_bits 12 <|
  nm (t_bits + 1) fun x1 =>
  some (x1, (upd t_size t_bits.toNatClampNeg a1), (upd t_off t_bits.toNatClampNeg a2), (upd t_worth t_bits.toNatClampNeg a1), (upd t_stuck t_bits.toNatClampNeg (-1)))

noncomputable def pf_X2_takeForm (t_size : Nat → Int32) (t_off : Nat → Int32) (t_worth : Nat → Int32) (t_stuck : Nat → Int32) (p1_bits : Int32) (p1_size : Nat → Int32) (p1_off : Nat → Int32) (p1_worth : Nat → Int32) (p1_stuck : Nat → Int32) (p1_offset : Int32) (p1_band : Int32) (p1_rule : Int32) (p1_noise : Int32) (p1_step : Int32) : Option (Int32 × (Nat → Int32) × (Nat → Int32) × (Nat → Int32) × (Nat → Int32) × Int32 × Int32 × Int32 × Int32 × Int32) :=
some (p1_bits, (va_cpy p1_size t_size 0 0 12), (va_cpy p1_off t_off 0 0 12), (va_cpy p1_worth t_worth 0 0 12), (va_cpy p1_stuck t_stuck 0 0 12), p1_offset, p1_band, p1_rule, p1_noise, p1_step)

noncomputable def pf_X2_copyFrom (t_size : Nat → Int32) (t_off : Nat → Int32) (t_worth : Nat → Int32) (t_stuck : Nat → Int32) (t_seenX : Nat → Int32) (t_seenCode : Nat → Int32) (p1_bits : Int32) (p1_size : Nat → Int32) (p1_off : Nat → Int32) (p1_worth : Nat → Int32) (p1_stuck : Nat → Int32) (p1_offset : Int32) (p1_band : Int32) (p1_rule : Int32) (p1_noise : Int32) (p1_step : Int32) (p1_draws : Int32) (p1_heat : Int32) (p1_hour : Int32) (p1_seenX : Nat → Int32) (p1_seenCode : Nat → Int32) (p1_seenCount : Int32) : Option (Int32 × (Nat → Int32) × (Nat → Int32) × (Nat → Int32) × (Nat → Int32) × Int32 × Int32 × Int32 × Int32 × Int32 × Int32 × Int32 × Int32 × (Nat → Int32) × (Nat → Int32) × Int32) :=
bv_10 (pf_X2_takeForm t_size t_off t_worth t_stuck p1_bits p1_size p1_off p1_worth p1_stuck p1_offset p1_band p1_rule p1_noise p1_step) fun x1 f2 f3 f4 f5 x6 x7 x8 x9 x10 =>
some (x1, f2, f3, f4, f5, x6, x7, x8, x9, x10, p1_draws, p1_heat, p1_hour, (va_cpy p1_seenX t_seenX 0 0 8), (va_cpy p1_seenCode t_seenCode 0 0 8), p1_seenCount)

noncomputable def pf_X7_within (a0 : Int32) (a1 : Int32) (a2 : Int32) : Option (Int32 × Unit) :=
if a0 < a1 then
  some (0, ())
else
  if a2 < a0 then
    some (0, ())
  else
    some (1, ())

noncomputable def pf_X2_mayBeSet (a0 : Int32) (a1 : Int32) : Option (Int32 × Unit) :=
if a0 = 0 then
  bi_0 (pf_X7_within a1 (-99) 99) fun r1 =>
  ckZ r1 <|
  some (r1, ())
else
if a0 = 1 then
  bi_0 (pf_X7_within a1 0 50) fun r2 =>
  ckZ r2 <|
  some (r2, ())
else
if a0 = 2 then
  bi_0 (pf_X7_within a1 0 3) fun r3 =>
  ckZ r3 <|
  some (r3, ())
else
if a0 = 3 then
  bi_0 (pf_X7_within a1 0 20) fun r4 =>
  ckZ r4 <|
  some (r4, ())
else
if a0 = 4 then
  bi_0 (pf_X7_within a1 1 64) fun r5 =>
  ckZ r5 <|
  some (r5, ())
else
some (0, ())

noncomputable def pf_X2_put (a1 : Int32) (a2 : Int32) (t_offset : Int32) (t_band : Int32) (t_rule : Int32) (t_noise : Int32) (t_step : Int32) : Option (Int32 × Int32 × Int32 × Int32 × Int32) :=
if a1 = 0 then
  some (a2, t_band, t_rule, t_noise, t_step)
else
if a1 = 1 then
  some (t_offset, a2, t_rule, t_noise, t_step)
else
if a1 = 2 then
  some (t_offset, t_band, a2, t_noise, t_step)
else
if a1 = 3 then
  some (t_offset, t_band, t_rule, a2, t_step)
else
if a1 = 4 then
  some (t_offset, t_band, t_rule, t_noise, a2)
else
some (t_offset, t_band, t_rule, t_noise, t_step)

noncomputable def pf_X2_weight (a1 : Int32) (t_size : Nat → Int32) (t_off : Nat → Int32) : Option (Int32 × Unit) :=
ckI a1 12 <|
ckI a1 12 <|
some (((t_size a1.toNatClampNeg) + (t_off a1.toNatClampNeg)), ())

noncomputable def lp_X2_weightsBelow_4 (a1 : Int32) (t_bits : Int32) (t_off : Nat → Int32) (t_size : Nat → Int32) : Nat → Int32 → Int32 → Option (Int32 × Unit)
  | 0, _, _ => none
  | n + 1, x1, x2 =>
    if a1 ≤ x2 then
      some (x1, ())
    else
      if t_bits ≤ x2 then
        some (x1, ())
      else
        bi_0 (pf_X2_weight x2 t_size t_off) fun r3 =>
        nm (x1 + r3) fun x4 =>
        nm (x2 + 1) fun x5 =>
        lp_X2_weightsBelow_4 a1 t_bits t_off t_size n x4 x5
noncomputable def pf_X2_weightsBelow (a1 : Int32) (t_bits : Int32) (t_size : Nat → Int32) (t_off : Nat → Int32) : Option (Int32 × Unit) :=
lp_X2_weightsBelow_4 a1 t_bits t_off t_size FU 0 0

noncomputable def lp_X2_allSizes_4 (t_bits : Int32) (t_size : Nat → Int32) : Nat → Int32 → Int32 → Option (Int32 × Unit)
  | 0, _, _ => none
  | n + 1, x1, x2 =>
    if t_bits ≤ x2 then
      some (x1, ())
    else
      ckI x2 12 <|
      nm (x1 + (t_size x2.toNatClampNeg)) fun x3 =>
      nm (x2 + 1) fun x4 =>
      lp_X2_allSizes_4 t_bits t_size n x3 x4
noncomputable def pf_X2_allSizes (t_bits : Int32) (t_size : Nat → Int32) : Option (Int32 × Unit) :=
lp_X2_allSizes_4 t_bits t_size FU 0 0

noncomputable def lp_X2_allWorths_4 (t_bits : Int32) (t_worth : Nat → Int32) : Nat → Int32 → Int32 → Option (Int32 × Unit)
  | 0, _, _ => none
  | n + 1, x1, x2 =>
    if t_bits ≤ x2 then
      some (x1, ())
    else
      ckI x2 12 <|
      nm (x1 + (t_worth x2.toNatClampNeg)) fun x3 =>
      nm (x2 + 1) fun x4 =>
      lp_X2_allWorths_4 t_bits t_worth n x3 x4
noncomputable def pf_X2_allWorths (t_bits : Int32) (t_worth : Nat → Int32) : Option (Int32 × Unit) :=
lp_X2_allWorths_4 t_bits t_worth FU 0 0

noncomputable def pf_X2_isShort (a1 : Int32) (t_bits : Int32) (t_size : Nat → Int32) (t_off : Nat → Int32) : Option (Int32 × Unit) :=
bi_0 (pf_X2_weight a1 t_size t_off) fun r1 =>
bi_0 (pf_X2_weightsBelow a1 t_bits t_size t_off) fun r2 =>
if r1 ≤ r2 then
  some (0, ())
else
  some (1, ())

noncomputable def pf_X2_drawOf (a1 : Int32) (t_draws : Int32) : Option (Int32 × Int32) :=
nm ((t_draws * 1103515245) + 12345) fun x1 =>
if 1 ≤ a1 then
  ckD a1 <|
  some ((((x1).toUInt32 >>> ((16 : Int32).toUInt32 &&& Int32.toUInt32 31)).toInt32 - ((x1).toUInt32 >>> ((16 : Int32).toUInt32 &&& Int32.toUInt32 31)).toInt32 / a1 * a1), x1)
else
  some (0, x1)

noncomputable def pf_X2_isLate (a1 : Int32) (a2 : Int32) (t_stuck : Nat → Int32) (t_band : Int32) : Option (Int32 × Unit) :=
ckI a1 12 <|
if (t_stuck a1.toNatClampNeg) = (-1) then
  if a2 ≤ (-t_band) then
    some (0, ())
  else
    if t_band ≤ a2 then
      some (0, ())
    else
      some (1, ())
else
  some (0, ())

noncomputable def pf_X2_decide (a1 : Int32) (a2 : Int32) (a3 : Int32) (t_stuck : Nat → Int32) (t_rule : Int32) (t_draws : Int32) : Option (Int32 × Int32) :=
ckI a1 12 <|
if (t_stuck a1.toNatClampNeg) = (-1) then
  jn (if a2 < 0 then
    some (0, t_draws)
  else
    some (1, t_draws)) fun J52 =>
  if a3 = 0 then
    J52
  else
    if 3 ≤ t_rule then
      J52
    else
      if t_rule = 2 then
        bi_1 (pf_X2_drawOf 2 t_draws) fun r1 x2 =>
        some (r1, x2)
      else
        some ((1 - t_rule), t_draws)
else
  ckI a1 12 <|
  some ((t_stuck a1.toNatClampNeg), t_draws)

noncomputable def pf_X2_codeOf (a1 : Int32) (t_step : Int32) : Option (Int32 × Unit) :=
if 1 ≤ t_step then
  ckD (t_step * 2) <|
  some ((((a1 * 2) + t_step) / (t_step * 2)), ())
else
  some (0, ())

noncomputable def lp_X2_run_11 (a1 : Int32) (a2 : Int32) (t_band : Int32) (t_rule : Int32) (t_noise : Int32) (t_off : Nat → Int32) (t_size : Nat → Int32) (t_stuck : Nat → Int32) (t_worth : Nat → Int32) (J235 : Int32 → (Nat → Int32) → (Nat → Int32) → (Nat → Int32) → (Nat → Int32) → Int32 → Int32 → Int32 → Int32 → Option (Int32 × Int32 × (Nat → Int32) × (Nat → Int32) × (Nat → Int32) × (Nat → Int32) × Int32 × Int32 × Int32 × Int32 × Int32 × Int32)) : Nat → Int32 → Int32 → (Nat → Int32) → (Nat → Int32) → (Nat → Int32) → (Nat → Int32) → Int32 → Int32 → Int32 → Int32 → Option (Int32 × Int32 × (Nat → Int32) × (Nat → Int32) × (Nat → Int32) × (Nat → Int32) × Int32 × Int32 × Int32 × Int32 × Int32 × Int32)
  | 0, _, _, _, _, _, _, _, _, _, _ => none
  | n + 1, x18, x19, f20, f21, f22, f23, x24, x25, x26, x27 =>
    if x18 < 0 then
      J235 x19 f20 f21 f22 f23 x24 x25 x26 x27
    else
      jn (fun (x28 : Int32) (x29 : Int32) =>
      bi_0 (pf_X2_weight x18 t_size t_off) fun r30 =>
      nm ((((a1 + a2) + x28) - x25) - r30) fun x31 =>
      ckI x18 12 <|
      ckI x18 12 <|
      bi_0 (pf_X2_isLate x18 ((upd f22 x18.toNatClampNeg x31) x18.toNatClampNeg) t_stuck t_band) fun r32 =>
      jn (fun (x33 : Int32) =>
      ckI x18 12 <|
      ckI x18 12 <|
      ckI x18 12 <|
      jn (fun (x34 : Int32) =>
      bi_1 (pf_X2_decide x18 ((upd f22 x18.toNatClampNeg x31) x18.toNatClampNeg) x34 t_stuck t_rule x29) fun r35 x36 =>
      ckI x18 12 <|
      ckI x18 12 <|
      jn (fun (x37 : Int32) (x38 : Int32) (x39 : Int32) =>
      ckI x18 12 <|
      nm (x26 + ((upd f21 x18.toNatClampNeg x33) x18.toNatClampNeg)) fun x40 =>
      ckI x18 12 <|
      nm (x18 + (-1)) fun x41 =>
      lp_X2_run_11 a1 a2 t_band t_rule t_noise t_off t_size t_stuck t_worth J235 n x41 x36 (upd f20 x18.toNatClampNeg r35) (upd f21 x18.toNatClampNeg x33) (upd f22 x18.toNatClampNeg x31) (upd f23 x18.toNatClampNeg x38) x37 x38 x40 x39) fun J198 =>
      if ((upd f20 x18.toNatClampNeg r35) x18.toNatClampNeg) = 1 then
        bi_0 (pf_X2_weight x18 t_size t_off) fun r42 =>
        nm (x25 + r42) fun x43 =>
        ckI x18 12 <|
        nm (x24 + (t_worth x18.toNatClampNeg)) fun x44 =>
        nm (x27 + 1) fun x45 =>
        J198 x44 x43 x45
      else
        J198 x24 x25 x27) fun J138 =>
      if ((upd f21 x18.toNatClampNeg x33) x18.toNatClampNeg) = 1 then
        J138 1
      else
        J138 0) fun J102 =>
      if r32 = 0 then
        J102 0
      else
        J102 1) fun J44 =>
      if t_noise ≤ 0 then
        J44 0 x19
      else
        bi_1 (pf_X2_drawOf ((t_noise * 2) + 1) x19) fun r46 x47 =>
        J44 (r46 - t_noise) x47
noncomputable def pf_X2_run (a1 : Int32) (a2 : Int32) (a3 : Int32) (t_size : Nat → Int32) (t_off : Nat → Int32) (t_worth : Nat → Int32) (t_stuck : Nat → Int32) (t_band : Int32) (t_rule : Int32) (t_noise : Int32) (t_step : Int32) (t_draws : Int32) (p4_one : Nat → Int32) (p4_late : Nat → Int32) (p4_apart : Nat → Int32) (p4_held : Nat → Int32) : Option (Int32 × Int32 × (Nat → Int32) × (Nat → Int32) × (Nat → Int32) × (Nat → Int32) × Int32 × Int32 × Int32 × Int32 × Int32 × Int32) :=
bv_5 (pf_X1_begin a3) fun x1 x2 x3 x4 x5 =>
nm (a3 - 1) fun x6 =>
jn (fun (x7 : Int32) (f8 : Nat → Int32) (f9 : Nat → Int32) (f10 : Nat → Int32) (f11 : Nat → Int32) (x12 : Int32) (x13 : Int32) (x14 : Int32) (x15 : Int32) =>
nm ((a1 + a2) - x13) fun x16 =>
bi_0 (pf_X2_codeOf x12 t_step) fun r17 =>
some (x7, x1, f8, f9, f10, f11, x12, x13, x16, x14, x15, r17)) fun J235 =>
lp_X2_run_11 a1 a2 t_band t_rule t_noise t_off t_size t_stuck t_worth J235 FU x6 t_draws p4_one p4_late p4_apart p4_held x2 x3 x4 x5

noncomputable def lp_X2_paperSum_18 (a2 : Int32) (t_off : Nat → Int32) (t_size : Nat → Int32) (t_stuck : Nat → Int32) (t_worth : Nat → Int32) : Nat → Int32 → Int32 → Int32 → Option (Int32 × Unit)
  | 0, _, _, _ => none
  | n + 1, x3, x4, x5 =>
    if x5 < 0 then
      some (x4, ())
    else
      ckI x5 12 <|
      jn (fun (x6 : Int32) =>
      jn (fun (x7 : Int32) =>
      if x7 = 1 then
        bi_0 (pf_X2_weight x5 t_size t_off) fun r9 =>
        nm (x3 - r9) fun x10 =>
        ckI x5 12 <|
        nm (x4 + (t_worth x5.toNatClampNeg)) fun x11 =>
        nm (x5 + (-1)) fun x12 =>
        lp_X2_paperSum_18 a2 t_off t_size t_stuck t_worth n x10 x11 x12
      else
        nm (x5 + (-1)) fun x8 =>
        lp_X2_paperSum_18 a2 t_off t_size t_stuck t_worth n x3 x4 x8) fun J73 =>
      if x5 = a2 then
        nm (1 - x6) fun x13 =>
        J73 x13
      else
        J73 x6) fun J59 =>
      if (t_stuck x5.toNatClampNeg) = (-1) then
        bi_0 (pf_X2_weight x5 t_size t_off) fun r14 =>
        if x3 < r14 then
          J59 0
        else
          J59 1
      else
        ckI x5 12 <|
        J59 (t_stuck x5.toNatClampNeg)
noncomputable def pf_X2_paperSum (a1 : Int32) (a2 : Int32) (t_bits : Int32) (t_size : Nat → Int32) (t_off : Nat → Int32) (t_worth : Nat → Int32) (t_stuck : Nat → Int32) (t_offset : Int32) : Option (Int32 × Unit) :=
nm (a1 + t_offset) fun x1 =>
nm (t_bits - 1) fun x2 =>
lp_X2_paperSum_18 a2 t_off t_size t_stuck t_worth FU x1 0 x2

noncomputable def pf_X2_paperCode (a1 : Int32) (t_bits : Int32) (t_size : Nat → Int32) (t_off : Nat → Int32) (t_worth : Nat → Int32) (t_stuck : Nat → Int32) (t_offset : Int32) (t_step : Int32) : Option (Int32 × Unit) :=
bi_0 (pf_X2_paperSum a1 (-1) t_bits t_size t_off t_worth t_stuck t_offset) fun r1 =>
bi_0 (pf_X2_codeOf r1 t_step) fun r2 =>
some (r2, ())

noncomputable def pf_X2_forgives (a1 : Int32) (a2 : Int32) (t_bits : Int32) (t_size : Nat → Int32) (t_off : Nat → Int32) (t_worth : Nat → Int32) (t_stuck : Nat → Int32) (t_offset : Int32) (t_step : Int32) : Option (Int32 × Unit) :=
bi_0 (pf_X2_paperSum a1 a2 t_bits t_size t_off t_worth t_stuck t_offset) fun r1 =>
bi_0 (pf_X2_codeOf r1 t_step) fun r2 =>
bi_0 (pf_X2_paperCode a1 t_bits t_size t_off t_worth t_stuck t_offset t_step) fun r3 =>
if r2 = r3 then
  some (1, ())
else
  some (0, ())

noncomputable def lp_X2_slackOf_13 (a1 : Int32) (t_bits : Int32) (t_offset : Int32) (t_step : Int32) (t_off : Nat → Int32) (t_size : Nat → Int32) (t_stuck : Nat → Int32) (t_worth : Nat → Int32) (x2 : Int32) : Nat → Int32 → Option (Int32 × Unit)
  | 0, _ => none
  | n + 1, x3 =>
    if 2000 < x3 then
      some (2000, ())
    else
      bi_0 (pf_X2_forgives (x2 - x3) a1 t_bits t_size t_off t_worth t_stuck t_offset t_step) fun r4 =>
      if r4 = 0 then
        some ((x3 - 1), ())
      else
        bi_0 (pf_X2_forgives (x2 + x3) a1 t_bits t_size t_off t_worth t_stuck t_offset t_step) fun r5 =>
        if r5 = 0 then
          some ((x3 - 1), ())
        else
          nm (x3 + 1) fun x6 =>
          lp_X2_slackOf_13 a1 t_bits t_offset t_step t_off t_size t_stuck t_worth x2 n x6
noncomputable def pf_X2_slackOf (a1 : Int32) (t_bits : Int32) (t_size : Nat → Int32) (t_off : Nat → Int32) (t_worth : Nat → Int32) (t_stuck : Nat → Int32) (t_offset : Int32) (t_step : Int32) : Option (Int32 × Unit) :=
bi_0 (pf_X2_weight a1 t_size t_off) fun r1 =>
nm (r1 - t_offset) fun x2 =>
lp_X2_slackOf_13 a1 t_bits t_offset t_step t_off t_size t_stuck t_worth x2 FU 0

noncomputable def pf_X7_nearest (a0 : Int64) (a2 : Int32) : Option (Int32 × Unit) :=
if 1 ≤ a2 then
  ckL (a2.toInt64 * 2) <|
  some ((((a0 * 2) + a2.toInt64) / (a2.toInt64 * 2)).toInt32, ())
else
  some (0, ())

noncomputable def lp_X2_learnFrom_56 (a2 : Int32) (t_offset : Int32) (t_band : Int32) (t_rule : Int32) (t_noise : Int32) (t_step : Int32) (t_off : Nat → Int32) (t_size : Nat → Int32) (t_stuck : Nat → Int32) (x2 : Int32) (f3 : Nat → Int32) (J123 : Int64 → Int32 → Int32 → (Nat → Int32) → (Nat → Int32) → (Nat → Int32) → (Nat → Int32) → Int32 → Int32 → Int32 → Int32 → Int32 → Int32 → Option ((Nat → Int32) × Int32 × Int32 × (Nat → Int32) × (Nat → Int32) × (Nat → Int32) × (Nat → Int32) × Int32 × Int32 × Int32 × Int32 × Int32 × Int32)) : Nat → Int64 → Int32 → Int32 → Int32 → (Nat → Int32) → (Nat → Int32) → (Nat → Int32) → (Nat → Int32) → Int32 → Int32 → Int32 → Int32 → Int32 → Int32 → Option ((Nat → Int32) × Int32 × Int32 × (Nat → Int32) × (Nat → Int32) × (Nat → Int32) × (Nat → Int32) × Int32 × Int32 × Int32 × Int32 × Int32 × Int32)
  | 0, _, _, _, _, _, _, _, _, _, _, _, _, _, _ => none
  | n + 1, x31, x32, x33, x34, f35, f36, f37, f38, x39, x40, x41, x42, x43, x44 =>
    if a2 ≤ x32 then
      J123 x31 x33 x34 f35 f36 f37 f38 x39 x40 x41 x42 x43 x44
    else
      bi_0 (pf_X2_weight x2 t_size t_off) fun r45 =>
      bv_12 (pf_X2_run r45 t_offset x2 t_size t_off f3 t_stuck t_band t_rule t_noise t_step x33 f35 f36 f37 f38) fun x46 x47 f48 f49 f50 f51 x52 x53 x54 x55 x56 x57 =>
      nm (x31 + x52.toInt64) fun x58 =>
      bi_0 (pf_X2_weight x2 t_size t_off) fun r59 =>
      bv_12 (pf_X2_run r59 (-t_offset) x2 t_size t_off f3 t_stuck t_band t_rule t_noise t_step x46 f48 f49 f50 f51) fun x60 x61 f62 f63 f64 f65 x66 x67 x68 x69 x70 x71 =>
      nm (x58 + x66.toInt64) fun x72 =>
      nm (x32 + 1) fun x73 =>
      lp_X2_learnFrom_56 a2 t_offset t_band t_rule t_noise t_step t_off t_size t_stuck x2 f3 J123 n x72 x73 x60 x61 f62 f63 f64 f65 x66 x67 x68 x69 x70 x71
noncomputable def lp_X2_learnFrom_41 (a2 : Int32) (t_bits : Int32) (t_offset : Int32) (t_band : Int32) (t_rule : Int32) (t_noise : Int32) (t_step : Int32) (t_off : Nat → Int32) (t_size : Nat → Int32) (t_stuck : Nat → Int32) : Nat → Int32 → (Nat → Int32) → Int32 → Int32 → (Nat → Int32) → (Nat → Int32) → (Nat → Int32) → (Nat → Int32) → Int32 → Int32 → Int32 → Int32 → Int32 → Int32 → Option ((Nat → Int32) × Int32 × Int32 × (Nat → Int32) × (Nat → Int32) × (Nat → Int32) × (Nat → Int32) × Int32 × Int32 × Int32 × Int32 × Int32 × Int32)
  | 0, _, _, _, _, _, _, _, _, _, _, _, _, _, _ => none
  | n + 1, x2, f3, x4, x5, f6, f7, f8, f9, x10, x11, x12, x13, x14, x15 =>
    if t_bits ≤ x2 then
      some (f3, x4, x5, f6, f7, f8, f9, x10, x11, x12, x13, x14, x15)
    else
      jn (fun (x16 : Int64) (x17 : Int32) (x18 : Int32) (f19 : Nat → Int32) (f20 : Nat → Int32) (f21 : Nat → Int32) (f22 : Nat → Int32) (x23 : Int32) (x24 : Int32) (x25 : Int32) (x26 : Int32) (x27 : Int32) (x28 : Int32) =>
      bi_0 (pf_X7_nearest x16 (a2 * 2)) fun r29 =>
      ckI x2 12 <|
      nm (x2 + 1) fun x30 =>
      lp_X2_learnFrom_41 a2 t_bits t_offset t_band t_rule t_noise t_step t_off t_size t_stuck n x30 (upd f3 x2.toNatClampNeg r29) x17 x18 f19 f20 f21 f22 x23 x24 x25 x26 x27 x28) fun J123 =>
      lp_X2_learnFrom_56 a2 t_offset t_band t_rule t_noise t_step t_off t_size t_stuck x2 f3 J123 FU 0 0 x4 x5 f6 f7 f8 f9 x10 x11 x12 x13 x14 x15
noncomputable def lp_X2_learnFrom_3 (a1 : Int32) (t_bits : Int32) (t_size : Nat → Int32) (J38 : (Nat → Int32) → Option ((Nat → Int32) × Int32 × Int32 × (Nat → Int32) × (Nat → Int32) × (Nat → Int32) × (Nat → Int32) × Int32 × Int32 × Int32 × Int32 × Int32 × Int32)) : Nat → Int32 → (Nat → Int32) → Option ((Nat → Int32) × Int32 × Int32 × (Nat → Int32) × (Nat → Int32) × (Nat → Int32) × (Nat → Int32) × Int32 × Int32 × Int32 × Int32 × Int32 × Int32)
  | 0, _, _ => none
  | n + 1, x74, f75 =>
    if a1 ≤ x74 then
      J38 f75
    else
      if t_bits ≤ x74 then
        J38 f75
      else
        ckI x74 12 <|
        nm (t_size x74.toNatClampNeg) fun x76 =>
        ckI x74 12 <|
        nm (x74 + 1) fun x77 =>
        lp_X2_learnFrom_3 a1 t_bits t_size J38 n x77 (upd f75 x74.toNatClampNeg x76)
noncomputable def pf_X2_learnFrom (a1 : Int32) (a2 : Int32) (t_bits : Int32) (t_size : Nat → Int32) (t_off : Nat → Int32) (t_worth : Nat → Int32) (t_stuck : Nat → Int32) (t_offset : Int32) (t_band : Int32) (t_rule : Int32) (t_noise : Int32) (t_step : Int32) (t_draws : Int32) (p3_bits : Int32) (p3_one : Nat → Int32) (p3_late : Nat → Int32) (p3_apart : Nat → Int32) (p3_held : Nat → Int32) (p3_sum : Int32) (p3_heldAtEnd : Int32) (p3_left : Int32) (p3_lates : Int32) (p3_ones : Int32) (p3_code : Int32) : Option ((Nat → Int32) × Int32 × Int32 × (Nat → Int32) × (Nat → Int32) × (Nat → Int32) × (Nat → Int32) × Int32 × Int32 × Int32 × Int32 × Int32 × Int32) :=
jn (fun (f1 : Nat → Int32) =>
lp_X2_learnFrom_41 a2 t_bits t_offset t_band t_rule t_noise t_step t_off t_size t_stuck FU a1 f1 t_draws p3_bits p3_one p3_late p3_apart p3_held p3_sum p3_heldAtEnd p3_left p3_lates p3_ones p3_code) fun J38 =>
lp_X2_learnFrom_3 a1 t_bits t_size J38 FU 0 t_worth

noncomputable def pf_X3_isLeaf (a0 : Int32) : Option (Int32 × Unit) :=
if a0 = 48 then
  some (1, ())
else
  if a0 = 105 then
    some (1, ())
  else
    if a0 = 115 then
      some (1, ())
    else
      if a0 = 119 then
        some (1, ())
      else
        if a0 = 104 then
          some (1, ())
        else
          if a0 = 116 then
            some (1, ())
          else
            some (0, ())

noncomputable def pf_X3_leaf (a0 : Int32) (a1 : Int32) (a3 : Int32) (p2_size : Nat → Int32) (p2_off : Nat → Int32) (p2_heat : Int32) (p2_hour : Int32) : Option (Int32 × Unit) :=
if a0 = 104 then
  some (p2_heat, ())
else
if a0 = 105 then
  some (a3, ())
else
if a0 = 115 then
  ckI a3 12 <|
  some ((p2_size a3.toNatClampNeg), ())
else
if a0 = 116 then
  some (p2_hour, ())
else
if a0 = 119 then
  bi_0 (pf_X2_weight a3 p2_size p2_off) fun r1 =>
  some (r1, ())
else
some (a1, ())

noncomputable def pf_X3_push (a1 : Int32) (t_stack : Nat → Int32) (t_height : Int32) : Option ((Nat → Int32) × Int32) :=
if 40 ≤ t_height then
  some (t_stack, t_height)
else
  ckI t_height 40 <|
  nm (t_height + 1) fun x1 =>
  some ((upd t_stack t_height.toNatClampNeg a1), x1)

noncomputable def pf_X3_pop (t_stack : Nat → Int32) (t_height : Int32) : Option (Int32 × Int32) :=
if 1 ≤ t_height then
  nm (t_height - 1) fun x1 =>
  ckI x1 40 <|
  some ((t_stack x1.toNatClampNeg), x1)
else
  some (0, t_height)

noncomputable def pf_X3_joined (a0 : Int32) (a1 : Int32) (a2 : Int32) : Option (Int32 × Unit) :=
if a0 = 37 then
  if a2 = 0 then
    some (0, ())
  else
    ckD a2 <|
    some ((a1 - a1 / a2 * a2), ())
else
if a0 = 38 then
  some (0, ())
else
if a0 = 39 then
  some (0, ())
else
if a0 = 40 then
  some (0, ())
else
if a0 = 41 then
  some (0, ())
else
if a0 = 42 then
  some ((a1 * a2), ())
else
if a0 = 43 then
  some ((a1 + a2), ())
else
if a0 = 44 then
  some (0, ())
else
if a0 = 45 then
  some ((a1 - a2), ())
else
if a0 = 46 then
  some (0, ())
else
if a0 = 47 then
  if a2 = 0 then
    some (0, ())
  else
    ckD a2 <|
    some ((a1 / a2), ())
else
some (0, ())

noncomputable def pf_X3_reckon (a1 : Int32) (t_stack : Nat → Int32) (t_height : Int32) : Option ((Nat → Int32) × Int32) :=
bi_1 (pf_X3_pop t_stack t_height) fun r1 x2 =>
if a1 = 110 then
  bv_2 (pf_X3_push (-r1) t_stack x2) fun f20 x21 =>
  some (f20, x21)
else
  bi_1 (pf_X3_pop t_stack x2) fun r3 x4 =>
  jn (bi_1 (pf_X3_pop t_stack x4) fun r5 x6 =>
  bi_1 (pf_X3_pop t_stack x6) fun r7 x8 =>
  if a1 = 60 then
    if r5 ≤ r7 then
      bv_2 (pf_X3_push r1 t_stack x8) fun f13 x14 =>
      some (f13, x14)
    else
      bv_2 (pf_X3_push r3 t_stack x8) fun f15 x16 =>
      some (f15, x16)
  else
    if r7 = r5 then
      bv_2 (pf_X3_push r3 t_stack x8) fun f11 x12 =>
      some (f11, x12)
    else
      bv_2 (pf_X3_push r1 t_stack x8) fun f9 x10 =>
      some (f9, x10)) fun J35 =>
  if a1 = 60 then
    J35
  else
    if a1 = 61 then
      J35
    else
      bi_0 (pf_X3_joined a1 r3 r1) fun r17 =>
      bv_2 (pf_X3_push r17 t_stack x4) fun f18 x19 =>
      some (f18, x19)

noncomputable def lp_X3_ask_7 (a2 : Int32) (t_steps : Int32) (p1_heat : Int32) (p1_hour : Int32) (t_kind : Nat → Int32) (t_value : Nat → Int32) (p1_off : Nat → Int32) (p1_size : Nat → Int32) : Nat → Int32 → (Nat → Int32) → Int32 → Option (Int32 × (Nat → Int32) × Int32)
  | 0, _, _, _ => none
  | n + 1, x1, f2, x3 =>
    if t_steps ≤ x1 then
      bi_1 (pf_X3_pop f2 x3) fun r4 x5 =>
      some (r4, f2, x5)
    else
      ckI x1 80 <|
      bi_0 (pf_X3_isLeaf (t_kind x1.toNatClampNeg)) fun r6 =>
      if r6 = 0 then
        ckI x1 80 <|
        bv_2 (pf_X3_reckon (t_kind x1.toNatClampNeg) f2 x3) fun f7 x8 =>
        nm (x1 + 1) fun x9 =>
        lp_X3_ask_7 a2 t_steps p1_heat p1_hour t_kind t_value p1_off p1_size n x9 f7 x8
      else
        ckI x1 80 <|
        ckI x1 80 <|
        bi_0 (pf_X3_leaf (t_kind x1.toNatClampNeg) (t_value x1.toNatClampNeg) a2 p1_size p1_off p1_heat p1_hour) fun r10 =>
        bv_2 (pf_X3_push r10 f2 x3) fun f11 x12 =>
        nm (x1 + 1) fun x13 =>
        lp_X3_ask_7 a2 t_steps p1_heat p1_hour t_kind t_value p1_off p1_size n x13 f11 x12
noncomputable def pf_X3_ask (a2 : Int32) (t_kind : Nat → Int32) (t_value : Nat → Int32) (t_stack : Nat → Int32) (t_steps : Int32) (p1_size : Nat → Int32) (p1_off : Nat → Int32) (p1_heat : Int32) (p1_hour : Int32) : Option (Int32 × (Nat → Int32) × Int32) :=
lp_X3_ask_7 a2 t_steps p1_heat p1_hour t_kind t_value p1_off p1_size FU 0 t_stack 0

noncomputable def lp_X2_passHour_4 (t_bits : Int32) (t_heat : Int32) (t_hour : Int32) (t_drift_steps : Int32) (t_drift_kind : Nat → Int32) (t_drift_value : Nat → Int32) (t_size : Nat → Int32) (J95 : Int32 → (Nat → Int32) → (Nat → Int32) → Int32 → Option (Int32 × (Nat → Int32) × Int32 × (Nat → Int32) × Int32)) : Nat → Int32 → Int32 → (Nat → Int32) → (Nat → Int32) → Int32 → Option (Int32 × (Nat → Int32) × Int32 × (Nat → Int32) × Int32)
  | 0, _, _, _, _, _ => none
  | n + 1, x6, x7, f8, f9, x10 =>
    if t_bits ≤ x7 then
      J95 x6 f8 f9 x10
    else
      bi_2 (pf_X3_ask x7 t_drift_kind t_drift_value f9 t_drift_steps t_size f8 t_heat t_hour) fun r11 f12 x13 =>
      nm (if r11 < 9 then r11 else 9) fun x14 =>
      nm (if (-9) < x14 then x14 else (-9)) fun x15 =>
      ckI x7 12 <|
      nm (if ((f8 x7.toNatClampNeg) + x15) < 99 then ((f8 x7.toNatClampNeg) + x15) else 99) fun x16 =>
      nm (if (-99) < x16 then x16 else (-99)) fun x17 =>
      ckI x7 12 <|
      nm (if x17 < (1 - (t_size x7.toNatClampNeg)) then (1 - (t_size x7.toNatClampNeg)) else x17) fun x18 =>
      ckI x7 12 <|
      jn (fun (x19 : Int32) =>
      ckI x7 12 <|
      nm (x7 + 1) fun x20 =>
      lp_X2_passHour_4 t_bits t_heat t_hour t_drift_steps t_drift_kind t_drift_value t_size J95 n x19 x20 (upd f8 x7.toNatClampNeg x18) f12 x13) fun J81 =>
      if x18 = (f8 x7.toNatClampNeg) then
        J81 x6
      else
        nm (x6 + 1) fun x21 =>
        J81 x21
noncomputable def pf_X2_passHour (t_bits : Int32) (t_size : Nat → Int32) (t_off : Nat → Int32) (t_heat : Int32) (t_hour : Int32) (t_drift_kind : Nat → Int32) (t_drift_value : Nat → Int32) (t_drift_stack : Nat → Int32) (t_drift_steps : Int32) (t_drift_height : Int32) : Option (Int32 × (Nat → Int32) × Int32 × (Nat → Int32) × Int32) :=
jn (fun (x1 : Int32) (f2 : Nat → Int32) (f3 : Nat → Int32) (x4 : Int32) =>
nm (t_hour + 1) fun x5 =>
some (x1, f2, x5, f3, x4)) fun J95 =>
lp_X2_passHour_4 t_bits t_heat t_hour t_drift_steps t_drift_kind t_drift_value t_size J95 FU 0 0 t_off t_drift_stack t_drift_height

noncomputable def lp_X2_drawOffs_2 (a1 : Int32) (t_bits : Int32) (t_size : Nat → Int32) : Nat → Int32 → (Nat → Int32) → (Nat → Int32) → (Nat → Int32) → Int32 → Option ((Nat → Int32) × (Nat → Int32) × (Nat → Int32) × Int32)
  | 0, _, _, _, _, _ => none
  | n + 1, x1, f2, f3, f4, x5 =>
    if t_bits ≤ x1 then
      some (f2, f3, f4, x5)
    else
      bi_1 (pf_X2_drawOf ((2 * a1) + 1) x5) fun r6 x7 =>
      ckI x1 12 <|
      nm (if (r6 - a1) < (1 - (t_size x1.toNatClampNeg)) then (1 - (t_size x1.toNatClampNeg)) else (r6 - a1)) fun x8 =>
      ckI x1 12 <|
      ckI x1 12 <|
      ckI x1 12 <|
      nm (t_size x1.toNatClampNeg) fun x9 =>
      ckI x1 12 <|
      nm (x1 + 1) fun x10 =>
      lp_X2_drawOffs_2 a1 t_bits t_size n x10 (upd f2 x1.toNatClampNeg x8) (upd f3 x1.toNatClampNeg x9) (upd f4 x1.toNatClampNeg (-1)) x7
noncomputable def pf_X2_drawOffs (a1 : Int32) (t_bits : Int32) (t_size : Nat → Int32) (t_off : Nat → Int32) (t_worth : Nat → Int32) (t_stuck : Nat → Int32) (t_draws : Int32) : Option ((Nat → Int32) × (Nat → Int32) × (Nat → Int32) × Int32) :=
lp_X2_drawOffs_2 a1 t_bits t_size FU 0 t_off t_worth t_stuck t_draws

noncomputable def lp_X2_drawWeights_10 (a1 : Int32) (a2 : Int32) : Nat → Int32 → Int32 → Int32 → (Nat → Int32) → (Nat → Int32) → (Nat → Int32) → (Nat → Int32) → Option (Int32 × (Nat → Int32) × (Nat → Int32) × (Nat → Int32) × (Nat → Int32))
  | 0, _, _, _, _, _, _, _ => none
  | n + 1, x1, x2, x3, f4, f5, f6, f7 =>
    if a1 ≤ x2 then
      some (x3, f4, f5, f6, f7)
    else
      jn (fun (x8 : Int32) =>
      bv_5 (pf_X2_addBit x8 0 x3 f4 f5 f6 f7) fun x9 f10 f11 f12 f13 =>
      nm (x1 + x8) fun x14 =>
      nm (x2 + 1) fun x15 =>
      lp_X2_drawWeights_10 a1 a2 n x14 x15 x9 f10 f11 f12 f13) fun J33 =>
      if x2 = 0 then
        J33 1
      else
        J33 (1 + ((a2 * x1) / 100))
noncomputable def pf_X2_drawWeights (a1 : Int32) (a2 : Int32) (t_size : Nat → Int32) (t_off : Nat → Int32) (t_worth : Nat → Int32) (t_stuck : Nat → Int32) : Option (Int32 × (Nat → Int32) × (Nat → Int32) × (Nat → Int32) × (Nat → Int32)) :=
lp_X2_drawWeights_10 a1 a2 FU 0 0 0 t_size t_off t_worth t_stuck

noncomputable def lp_X2_agreesWithSeen_2 (t_bits : Int32) (t_offset : Int32) (t_step : Int32) (t_seenCount : Int32) (t_off : Nat → Int32) (t_seenCode : Nat → Int32) (t_seenX : Nat → Int32) (t_size : Nat → Int32) (t_stuck : Nat → Int32) (t_worth : Nat → Int32) : Nat → Int32 → Option (Int32 × Unit)
  | 0, _ => none
  | n + 1, x1 =>
    if t_seenCount ≤ x1 then
      some (1, ())
    else
      ckI x1 8 <|
      bi_0 (pf_X2_paperCode (t_seenX x1.toNatClampNeg) t_bits t_size t_off t_worth t_stuck t_offset t_step) fun r2 =>
      ckI x1 8 <|
      if r2 = (t_seenCode x1.toNatClampNeg) then
        nm (x1 + 1) fun x3 =>
        lp_X2_agreesWithSeen_2 t_bits t_offset t_step t_seenCount t_off t_seenCode t_seenX t_size t_stuck t_worth n x3
      else
        some (0, ())
noncomputable def pf_X2_agreesWithSeen (t_bits : Int32) (t_size : Nat → Int32) (t_off : Nat → Int32) (t_worth : Nat → Int32) (t_stuck : Nat → Int32) (t_offset : Int32) (t_step : Int32) (t_seenX : Nat → Int32) (t_seenCode : Nat → Int32) (t_seenCount : Int32) : Option (Int32 × Unit) :=
lp_X2_agreesWithSeen_2 t_bits t_offset t_step t_seenCount t_off t_seenCode t_seenX t_size t_stuck t_worth FU 0

noncomputable def lp_X4_measure_43 (a2 : Int32) (a4 : Int32) (p1_bits : Int32) (p1_offset : Int32) (p1_step : Int32) (p1_off : Nat → Int32) (p1_size : Nat → Int32) (p1_stuck : Nat → Int32) (p1_worth : Nat → Int32) (x1 : Int32) : Nat → Int32 → (Nat → Int32) → Int32 → Int32 → Int32 → Int32 → Option ((Nat → Int32) × Int32 × Int32 × Int32 × Int32)
  | 0, _, _, _, _, _, _ => none
  | n + 1, x2, f3, x4, x5, x6, x7 =>
    if x1 ≤ x2 then
      some (f3, x4, x5, x6, x7)
    else
      if 4096 ≤ x2 then
        some (f3, x4, x5, x6, x7)
      else
        nm (a2 + (x2 * a4)) fun x8 =>
        bi_0 (pf_X2_paperCode x8 p1_bits p1_size p1_off p1_worth p1_stuck p1_offset p1_step) fun r9 =>
        jn (fun (x10 : Int32) =>
        nm (if 0 ≤ ((r9 * p1_step) - x8) then ((r9 * p1_step) - x8) else 0 - ((r9 * p1_step) - x8)) fun x11 =>
        jn (fun (x12 : Int32) (x13 : Int32) =>
        ckI x2 4096 <|
        nm (x4 + 1) fun x14 =>
        nm (x2 + 1) fun x15 =>
        lp_X4_measure_43 a2 a4 p1_bits p1_offset p1_step p1_off p1_size p1_stuck p1_worth x1 n x15 (upd f3 x2.toNatClampNeg r9) x14 x10 x12 x13) fun J140 =>
        if x11 ≤ x6 then
          J140 x6 x7
        else
          J140 x11 x8) fun J104 =>
        if x2 ≤ 0 then
          J104 x5
        else
          ckI (x2 - 1) 4096 <|
          if (f3 (x2 - 1).toNatClampNeg) ≤ r9 then
            J104 x5
          else
            nm (x5 + 1) fun x16 =>
            J104 x16
noncomputable def pf_X4_measure (a2 : Int32) (a3 : Int32) (a4 : Int32) (t_entry : Nat → Int32) (p1_bits : Int32) (p1_size : Nat → Int32) (p1_off : Nat → Int32) (p1_worth : Nat → Int32) (p1_stuck : Nat → Int32) (p1_offset : Int32) (p1_step : Int32) : Option ((Nat → Int32) × Int32 × Int32 × Int32 × Int32) :=
jn (fun (x1 : Int32) =>
lp_X4_measure_43 a2 a4 p1_bits p1_offset p1_step p1_off p1_size p1_stuck p1_worth x1 FU 0 t_entry 0 0 (-1) a2) fun J38 =>
if 1 ≤ a4 then
  ckD a4 <|
  J38 (((a3 - a2) / a4) + 1)
else
  J38 0

noncomputable def lp_X4_addUp_36 (p1_worth : Nat → Int32) (x1 : Int32) (x3 : Int32) (J74 : (Nat → Int32) → Option ((Nat → Int32) × Int32)) : Nat → Int32 → (Nat → Int32) → Option ((Nat → Int32) × Int32)
  | 0, _, _ => none
  | n + 1, x7, f8 =>
    if x3 ≤ x7 then
      J74 f8
    else
      ckI x7 4096 <|
      ckI x1 12 <|
      nm ((f8 x7.toNatClampNeg) + (p1_worth x1.toNatClampNeg)) fun x9 =>
      ckI (x3 + x7) 4096 <|
      nm (x7 + 1) fun x10 =>
      lp_X4_addUp_36 p1_worth x1 x3 J74 n x10 (upd f8 (x3 + x7).toNatClampNeg x9)
noncomputable def lp_X4_addUp_14 (p1_bits : Int32) (p1_worth : Nat → Int32) : Nat → Int32 → (Nat → Int32) → Int32 → Option ((Nat → Int32) × Int32)
  | 0, _, _, _ => none
  | n + 1, x1, f2, x3 =>
    if p1_bits ≤ x1 then
      some (f2, x3)
    else
      if 4096 < (x3 * 2) then
        some (f2, x3)
      else
        jn (fun (f4 : Nat → Int32) =>
        nm (x3 * 2) fun x5 =>
        nm (x1 + 1) fun x6 =>
        lp_X4_addUp_14 p1_bits p1_worth n x6 f4 x5) fun J74 =>
        lp_X4_addUp_36 p1_worth x1 x3 J74 FU 0 f2
noncomputable def pf_X4_addUp (t_entry : Nat → Int32) (p1_bits : Int32) (p1_worth : Nat → Int32) : Option ((Nat → Int32) × Int32) :=
ckI 0 4096 <|
lp_X4_addUp_14 p1_bits p1_worth FU 0 (upd t_entry (0 : Int32).toNatClampNeg 0) 1

noncomputable def lp_X4_howOften_4 (a1 : Int32) (t_count : Int32) (t_entry : Nat → Int32) : Nat → Int32 → Int32 → Option (Int32 × Unit)
  | 0, _, _ => none
  | n + 1, x1, x2 =>
    if t_count ≤ x2 then
      some (x1, ())
    else
      ckI x2 4096 <|
      if (t_entry x2.toNatClampNeg) = a1 then
        nm (x1 + 1) fun x4 =>
        nm (x2 + 1) fun x5 =>
        lp_X4_howOften_4 a1 t_count t_entry n x4 x5
      else
        nm (x2 + 1) fun x3 =>
        lp_X4_howOften_4 a1 t_count t_entry n x1 x3
noncomputable def pf_X4_howOften (a1 : Int32) (t_entry : Nat → Int32) (t_count : Int32) : Option (Int32 × Unit) :=
lp_X4_howOften_4 a1 t_count t_entry FU 0 0

noncomputable def lp_X4_sort_37 (x3 : Int32) (x7 : Int32) (J82 : Int32 → (Nat → Int32) → Option ((Nat → Int32))) : Nat → Int32 → (Nat → Int32) → Option ((Nat → Int32))
  | 0, _, _ => none
  | n + 1, x11, f12 =>
    if x11 < x3 then
      J82 x11 f12
    else
      ckI (x11 - x3) 4096 <|
      if (f12 (x11 - x3).toNatClampNeg) ≤ x7 then
        J82 x11 f12
      else
        ckI (x11 - x3) 4096 <|
        nm (f12 (x11 - x3).toNatClampNeg) fun x13 =>
        ckI x11 4096 <|
        nm (x11 - x3) fun x14 =>
        lp_X4_sort_37 x3 x7 J82 n x14 (upd f12 x11.toNatClampNeg x13)
noncomputable def lp_X4_sort_18 (t_count : Int32) (x1 : Int32) (x3 : Int32) (B2 : Int32 → (Nat → Int32) → Option ((Nat → Int32))) : Nat → Int32 → (Nat → Int32) → Option ((Nat → Int32))
  | 0, _, _ => none
  | n + 1, x4, f5 =>
    if t_count ≤ x4 then
      nm (x1 + 1) fun x6 =>
      B2 x6 f5
    else
      ckI x4 4096 <|
      nm (f5 x4.toNatClampNeg) fun x7 =>
      jn (fun (x8 : Int32) (f9 : Nat → Int32) =>
      ckI x8 4096 <|
      nm (x4 + 1) fun x10 =>
      lp_X4_sort_18 t_count x1 x3 B2 n x10 (upd f9 x8.toNatClampNeg x7)) fun J82 =>
      lp_X4_sort_37 x3 x7 J82 FU x4 f5
noncomputable def lp_X4_sort_2 (t_count : Int32) : Nat → Int32 → (Nat → Int32) → Option ((Nat → Int32))
  | 0, _, _ => none
  | n + 1, x1, f2 =>
    if 9 ≤ x1 then
      some f2
    else
      ckI x1 9 <|
      nm (hm_strides x1.toNatClampNeg) fun x3 =>
      jn (fun (x1' : Int32) (f2' : Nat → Int32) => lp_X4_sort_2 t_count n x1' f2') fun B2 =>
      lp_X4_sort_18 t_count x1 x3 B2 FU x3 f2
noncomputable def pf_X4_sort (t_entry : Nat → Int32) (t_count : Int32) : Option ((Nat → Int32)) :=
lp_X4_sort_2 t_count FU 0 t_entry

noncomputable def lp_X4_sortOut_75 (t_count : Int32) (f1 : Nat → Int32) (J196 : Int32 → Int32 → Int32 → Int32 → Option ((Nat → Int32) × Int32 × Int32 × Int32 × Int32 × Int32 × Int32 × Int32)) : Nat → Int32 → Int32 → Int32 → Int32 → Int32 → Int32 → Option ((Nat → Int32) × Int32 × Int32 × Int32 × Int32 × Int32 × Int32 × Int32)
  | 0, _, _, _, _, _, _ => none
  | n + 1, x9, x10, x11, x12, x13, x14 =>
    if t_count ≤ x10 then
      J196 x11 x12 x13 x14
    else
      jn (fun (x15 : Int32) (x16 : Int32) (x17 : Int32) =>
      if x15 ≤ x12 then
        nm (x10 + 1) fun x18 =>
        lp_X4_sortOut_75 t_count f1 J196 n x15 x18 x16 x12 x13 x17
      else
        ckI x10 4096 <|
        nm (f1 x10.toNatClampNeg) fun x19 =>
        nm (x10 + 1) fun x20 =>
        lp_X4_sortOut_75 t_count f1 J196 n x15 x20 x16 x15 x19 x17) fun J167 =>
      jn (nm (x11 + 1) fun x21 =>
      if x10 ≤ 0 then
        J167 1 x21 x14
      else
        if x14 = (-1) then
          ckI x10 4096 <|
          ckI (x10 - 1) 4096 <|
          if (f1 x10.toNatClampNeg) ≤ ((f1 (x10 - 1).toNatClampNeg) + 1) then
            J167 1 x21 x14
          else
            ckI (x10 - 1) 4096 <|
            nm ((f1 (x10 - 1).toNatClampNeg) + 1) fun x22 =>
            J167 1 x21 x22
        else
          J167 1 x21 x14) fun J110 =>
      if x10 ≤ 0 then
        J110
      else
        ckI x10 4096 <|
        ckI (x10 - 1) 4096 <|
        if (f1 x10.toNatClampNeg) = (f1 (x10 - 1).toNatClampNeg) then
          nm (x9 + 1) fun x23 =>
          J167 x23 x11 x14
        else
          J110
noncomputable def pf_X4_sortOut (t_entry : Nat → Int32) (t_count : Int32) : Option ((Nat → Int32) × Int32 × Int32 × Int32 × Int32 × Int32 × Int32 × Int32) :=
bv_1 (pf_X4_sort t_entry t_count) fun f1 =>
jn (fun (x2 : Int32) =>
jn (fun (x3 : Int32) =>
jn (fun (x4 : Int32) (x5 : Int32) (x6 : Int32) (x7 : Int32) =>
nm (((x3 - x2) + 1) - x4) fun x8 =>
some (f1, x4, x5, x6, x2, x3, x8, x7)) fun J196 =>
lp_X4_sortOut_75 t_count f1 J196 FU 0 0 0 0 0 (-1)) fun J68 =>
if t_count ≤ 0 then
  J68 0
else
  ckI (t_count - 1) 4096 <|
  J68 (f1 (t_count - 1).toNatClampNeg)) fun J42 =>
if t_count ≤ 0 then
  J42 0
else
  ckI 0 4096 <|
  J42 (f1 (0 : Int32).toNatClampNeg)

noncomputable def pf_X4_isWhole (t_entry : Nat → Int32) (p1_bits : Int32) (p1_size : Nat → Int32) (p1_off : Nat → Int32) (p1_worth : Nat → Int32) (p1_stuck : Nat → Int32) (p1_offset : Int32) (p1_step : Int32) : Option (Int32 × (Nat → Int32) × Int32 × Int32 × Int32 × Int32 × Int32 × Int32 × Int32 × Int32 × Int32 × Int32 × Int32) :=
bi_0 (pf_X2_allSizes p1_bits p1_size) fun r1 =>
bv_5 (pf_X4_measure 0 r1 p1_step t_entry p1_bits p1_size p1_off p1_worth p1_stuck p1_offset p1_step) fun f2 x3 x4 x5 x6 =>
bv_8 (pf_X4_sortOut f2 x3) fun f7 x8 x9 x10 x11 x12 x13 x14 =>
if x13 = 0 then
  some (1, f7, x3, x4, x5, x6, x8, x9, x10, x11, x12, x13, x14)
else
  some (0, f7, x3, x4, x5, x6, x8, x9, x10, x11, x12, x13, x14)

noncomputable def pf_X4_tell (a1 : Int32) (t_falls : Int32) (t_offBy : Int32) (t_offAt : Int32) (t_unlike : Int32) (t_most : Int32) (t_mostCome : Int32) (t_least : Int32) (t_greatest : Int32) (t_missing : Int32) (t_firstMissing : Int32) : Option (Int32 × Unit) :=
if a1 = 0 then
  some (t_unlike, ())
else
if a1 = 1 then
  some (t_missing, ())
else
if a1 = 2 then
  some (t_falls, ())
else
if a1 = 3 then
  some (t_offBy, ())
else
if a1 = 4 then
  some (t_offAt, ())
else
if a1 = 5 then
  some (t_mostCome, ())
else
if a1 = 6 then
  some (t_most, ())
else
if a1 = 7 then
  some (t_least, ())
else
if a1 = 8 then
  some (t_greatest, ())
else
some (t_firstMissing, ())

noncomputable def pf_X6_readBit (t_bytes : Nat → Int32) (t_count : Int32) (t_at : Int32) (t_fault : Int32) (p1_bits : Int32) (p1_size : Nat → Int32) (p1_off : Nat → Int32) (p1_worth : Nat → Int32) (p1_stuck : Nat → Int32) : Option (Int32 × Int32 × Int32 × (Nat → Int32) × (Nat → Int32) × (Nat → Int32) × (Nat → Int32)) :=
if p1_bits < 12 then
  nm (t_at + 1) fun x1 =>
  bi_2 (pf_X5_number t_bytes t_count x1 t_fault) fun r2 x3 x4 =>
  jn (fun (x5 : Int32) =>
  bi_1 (pf_X5_holds x5 x1 x4) fun r6 x7 =>
  if r6 = 0 then
    some (x3, x7, p1_bits, p1_size, p1_off, p1_worth, p1_stuck)
  else
    bi_1 (pf_X5_takes 58 t_bytes t_count x3 x7) fun r8 x9 =>
    jn (fun (x10 : Int32) (x11 : Int32) (x12 : Int32) =>
    bv_2 (pf_X5_needs 59 t_bytes t_count x11 x12) fun x13 x14 =>
    jn (fun (x15 : Int32) =>
    bi_1 (pf_X5_holds x15 t_at x14) fun r16 x17 =>
    if r16 = 0 then
      some (x13, x17, p1_bits, p1_size, p1_off, p1_worth, p1_stuck)
    else
      bv_5 (pf_X2_addBit r2 x10 p1_bits p1_size p1_off p1_worth p1_stuck) fun x18 f19 f20 f21 f22 =>
      some (x13, x17, x18, f19, f20, f21, f22)) fun J120 =>
    if (r2 + x10) < 1 then
      J120 0
    else
      J120 1) fun J99 =>
    if r8 = 0 then
      J99 0 x9 x7
    else
      bi_2 (pf_X5_signedNumber t_bytes t_count x9 x7) fun r23 x24 x25 =>
      bi_0 (pf_X7_within r23 (-99) 99) fun r26 =>
      bi_1 (pf_X5_holds r26 x9 x25) fun r27 x28 =>
      J99 r23 x24 x28) fun J53 =>
  if r2 < 1 then
    J53 0
  else
    J53 1
else
  bv_1 (pf_X5_blame t_at t_fault) fun x29 =>
  some (t_at, x29, p1_bits, p1_size, p1_off, p1_worth, p1_stuck)

noncomputable def lp_X6_settingOf_2 (a0 : Int32) : Nat → Int32 → Option (Int32 × Unit)
  | 0, _ => none
  | n + 1, x1 =>
    if 5 ≤ x1 then
      some ((-1), ())
    else
      ckI x1 5 <|
      if (hm_letters x1.toNatClampNeg) = a0 then
        some (x1, ())
      else
        nm (x1 + 1) fun x2 =>
        lp_X6_settingOf_2 a0 n x2
noncomputable def pf_X6_settingOf (a0 : Int32) : Option (Int32 × Unit) :=
lp_X6_settingOf_2 a0 FU 0

noncomputable def pf_X6_readSetting (a2 : Int32) (t_bytes : Nat → Int32) (t_count : Int32) (t_at : Int32) (t_fault : Int32) (p1_offset : Int32) (p1_band : Int32) (p1_rule : Int32) (p1_noise : Int32) (p1_step : Int32) : Option (Int32 × Int32 × Int32 × Int32 × Int32 × Int32 × Int32 × Int32) :=
bi_0 (pf_X5_peek t_bytes t_count t_at) fun r1 =>
bi_0 (pf_X6_settingOf r1) fun r2 =>
if r2 = (-1) then
  bv_1 (pf_X5_blame t_at t_fault) fun x3 =>
  some (0, t_at, x3, p1_offset, p1_band, p1_rule, p1_noise, p1_step)
else
  if (a2 &&& (1 <<< (r2 &&& 31))) = 0 then
    nm (t_at + 1) fun x4 =>
    jn (fun (x5 : Int32) (x6 : Int32) (x7 : Int32) =>
    bi_0 (pf_X2_mayBeSet r2 x5) fun r8 =>
    bi_1 (pf_X5_holds r8 x4 x7) fun r9 x10 =>
    bv_2 (pf_X5_needs 59 t_bytes t_count x6 x10) fun x11 x12 =>
    if x12 = (-1) then
      bv_5 (pf_X2_put r2 x5 p1_offset p1_band p1_rule p1_noise p1_step) fun x13 x14 x15 x16 x17 =>
      some ((1 <<< (r2 &&& 31)), x11, x12, x13, x14, x15, x16, x17)
    else
      some ((1 <<< (r2 &&& 31)), x11, x12, p1_offset, p1_band, p1_rule, p1_noise, p1_step)) fun J62 =>
    if r2 = 0 then
      bi_2 (pf_X5_signedNumber t_bytes t_count x4 t_fault) fun r21 x22 x23 =>
      J62 r21 x22 x23
    else
      bi_2 (pf_X5_number t_bytes t_count x4 t_fault) fun r18 x19 x20 =>
      J62 r18 x19 x20
  else
    bv_1 (pf_X5_blame t_at t_fault) fun x24 =>
    some (0, t_at, x24, p1_offset, p1_band, p1_rule, p1_noise, p1_step)

noncomputable def lp_X6_read_8 (t_count : Int32) (t_bytes : Nat → Int32) (J54 : Int32 → Int32 → Int32 → (Nat → Int32) → (Nat → Int32) → (Nat → Int32) → (Nat → Int32) → Int32 → Int32 → Int32 → Int32 → Int32 → Option (Int32 × Int32 × Int32 × (Nat → Int32) × (Nat → Int32) × (Nat → Int32) × (Nat → Int32) × Int32 × Int32 × Int32 × Int32 × Int32)) : Nat → Int32 → Int32 → Int32 → Int32 → Int32 → (Nat → Int32) → (Nat → Int32) → (Nat → Int32) → (Nat → Int32) → Int32 → Int32 → Int32 → Int32 → Int32 → Option (Int32 × Int32 × Int32 × (Nat → Int32) × (Nat → Int32) × (Nat → Int32) × (Nat → Int32) × Int32 × Int32 × Int32 × Int32 × Int32)
  | 0, _, _, _, _, _, _, _, _, _, _, _, _, _, _ => none
  | n + 1, x16, x17, x18, x19, x20, f21, f22, f23, f24, x25, x26, x27, x28, x29 =>
    if 400 ≤ x17 then
      J54 x18 x19 x20 f21 f22 f23 f24 x25 x26 x27 x28 x29
    else
      bi_0 (pf_X5_goesOn t_count x18 x19) fun r30 =>
      if r30 = 0 then
        J54 x18 x19 x20 f21 f22 f23 f24 x25 x26 x27 x28 x29
      else
        bi_0 (pf_X5_peek t_bytes t_count x18) fun r31 =>
        if r31 = 98 then
          bv_7 (pf_X6_readBit t_bytes t_count x18 x19 x20 f21 f22 f23 f24) fun x42 x43 x44 f45 f46 f47 f48 =>
          nm (x17 + 1) fun x49 =>
          lp_X6_read_8 t_count t_bytes J54 n x16 x49 x42 x43 x44 f45 f46 f47 f48 x25 x26 x27 x28 x29
        else
          bi_7 (pf_X6_readSetting x16 t_bytes t_count x18 x19 x25 x26 x27 x28 x29) fun r32 x33 x34 x35 x36 x37 x38 x39 =>
          nm (x16 ||| r32) fun x40 =>
          nm (x17 + 1) fun x41 =>
          lp_X6_read_8 t_count t_bytes J54 n x40 x41 x33 x34 x20 f21 f22 f23 f24 x35 x36 x37 x38 x39
noncomputable def pf_X6_read (t_bytes : Nat → Int32) (t_count : Int32) (p1_bits : Int32) (p1_size : Nat → Int32) (p1_off : Nat → Int32) (p1_worth : Nat → Int32) (p1_stuck : Nat → Int32) (p1_offset : Int32) (p1_band : Int32) (p1_rule : Int32) (p1_noise : Int32) (p1_step : Int32) : Option (Int32 × Int32 × Int32 × (Nat → Int32) × (Nat → Int32) × (Nat → Int32) × (Nat → Int32) × Int32 × Int32 × Int32 × Int32 × Int32) :=
bv_2 (pf_X5_rewind) fun x1 x2 =>
jn (fun (x3 : Int32) (x4 : Int32) (x5 : Int32) (f6 : Nat → Int32) (f7 : Nat → Int32) (f8 : Nat → Int32) (f9 : Nat → Int32) (x10 : Int32) (x11 : Int32) (x12 : Int32) (x13 : Int32) (x14 : Int32) =>
if 2 ≤ x5 then
  some (x3, x4, x5, f6, f7, f8, f9, x10, x11, x12, x13, x14)
else
  bv_1 (pf_X5_blame x3 x4) fun x15 =>
  some (x3, x15, x5, f6, f7, f8, f9, x10, x11, x12, x13, x14)) fun J54 =>
lp_X6_read_8 t_count t_bytes J54 FU 0 0 x1 x2 p1_bits p1_size p1_off p1_worth p1_stuck p1_offset p1_band p1_rule p1_noise p1_step

noncomputable def pf_X7_feed (a1 : Int32) (a2 : Int32) (a3 : Int32) (a4 : Int32) (a5 : Int32) (t_tape_bytes : Nat → Int32) (t_tape_count : Int32) : Option (Int32 × (Nat → Int32) × Int32) :=
if (t_tape_count + 20) ≤ 400 then
  bv_2 (pf_X5_append a1 t_tape_bytes t_tape_count) fun f1 x2 =>
  bv_2 (pf_X5_append a2 f1 x2) fun f3 x4 =>
  bv_2 (pf_X5_append a3 f3 x4) fun f5 x6 =>
  bv_2 (pf_X5_append a4 f5 x6) fun f7 x8 =>
  bv_2 (pf_X5_append a5 f7 x8) fun f9 x10 =>
  some (x10, f9, x10)
else
  some ((-1), t_tape_bytes, t_tape_count)

noncomputable def pf_X7_end (a1 : Int32) (t_tape_count : Int32) : Option (Int32 × Int32) :=
if a1 < 0 then
  some ((-1), t_tape_count)
else
  if a1 ≤ t_tape_count then
    some (a1, a1)
  else
    some ((-1), t_tape_count)

noncomputable def pf_X7_leaveTape (t_tape_fault : Int32) : Option (Int32 × Int32 × Int32) :=
if t_tape_fault = (-1) then
  some (1, t_tape_fault, 0)
else
  some (0, t_tape_fault, 0)

noncomputable def pf_X7_text (t_aside_size : Nat → Int32) (t_aside_off : Nat → Int32) (t_aside_worth : Nat → Int32) (t_aside_stuck : Nat → Int32) (t_latest_bits : Int32) (t_now_bits : Int32) (t_now_size : Nat → Int32) (t_now_off : Nat → Int32) (t_now_worth : Nat → Int32) (t_now_stuck : Nat → Int32) (t_now_offset : Int32) (t_now_band : Int32) (t_now_rule : Int32) (t_now_noise : Int32) (t_now_step : Int32) (t_now_seenCount : Int32) (t_tape_bytes : Nat → Int32) (t_tape_count : Int32) : Option (Int32 × Int32 × Int32 × (Nat → Int32) × (Nat → Int32) × (Nat → Int32) × (Nat → Int32) × Int32 × Int32 × Int32 × Int32 × Int32 × Int32 × Int32 × (Nat → Int32) × (Nat → Int32) × (Nat → Int32) × (Nat → Int32) × Int32 × Int32 × Int32 × Int32 × Int32 × Int32 × Int32 × Int32 × Int32) :=
bv_6 (pf_X2_clear) fun x1 x2 x3 x4 x5 x6 =>
bv_12 (pf_X6_read t_tape_bytes t_tape_count x1 t_aside_size t_aside_off t_aside_worth t_aside_stuck x2 x3 x4 x5 x6) fun x7 x8 x9 f10 f11 f12 f13 x14 x15 x16 x17 x18 =>
bi_2 (pf_X7_leaveTape x8) fun r19 x20 x21 =>
if r19 = 0 then
  some ((-1), x20, x9, f10, f11, f12, f13, x14, x15, x16, x17, x18, t_latest_bits, t_now_bits, t_now_size, t_now_off, t_now_worth, t_now_stuck, t_now_offset, t_now_band, t_now_rule, t_now_noise, t_now_step, t_now_seenCount, x21, x7, x8)
else
  bv_10 (pf_X2_takeForm t_now_size t_now_off t_now_worth t_now_stuck x9 f10 f11 f12 f13 x14 x15 x16 x17 x18) fun x22 f23 f24 f25 f26 x27 x28 x29 x30 x31 =>
  some (x22, x20, x9, f10, f11, f12, f13, x14, x15, x16, x17, x18, 0, x22, f23, f24, f25, f26, x27, x28, x29, x30, x31, 0, x21, x7, x8)

noncomputable def pf_X7_isNear (a0 : Int32) : Option (Int32 × Unit) :=
bi_0 (pf_X7_within a0 (-100000) 100000) fun r1 =>
ckZ r1 <|
some (r1, ())

noncomputable def pf_X7_convert (a1 : Int32) (t_latest_bits : Int32) (t_latest_one : Nat → Int32) (t_latest_late : Nat → Int32) (t_latest_apart : Nat → Int32) (t_latest_held : Nat → Int32) (t_latest_sum : Int32) (t_latest_heldAtEnd : Int32) (t_latest_left : Int32) (t_latest_lates : Int32) (t_latest_ones : Int32) (t_latest_code : Int32) (t_now_bits : Int32) (t_now_size : Nat → Int32) (t_now_off : Nat → Int32) (t_now_worth : Nat → Int32) (t_now_stuck : Nat → Int32) (t_now_offset : Int32) (t_now_band : Int32) (t_now_rule : Int32) (t_now_noise : Int32) (t_now_step : Int32) (t_now_draws : Int32) : Option (Int32 × Int32 × (Nat → Int32) × (Nat → Int32) × (Nat → Int32) × (Nat → Int32) × Int32 × Int32 × Int32 × Int32 × Int32 × Int32 × Int32) :=
if t_now_bits = 0 then
  some ((-1000000), t_latest_bits, t_latest_one, t_latest_late, t_latest_apart, t_latest_held, t_latest_sum, t_latest_heldAtEnd, t_latest_left, t_latest_lates, t_latest_ones, t_latest_code, t_now_draws)
else
  bi_0 (pf_X7_isNear a1) fun r1 =>
  if r1 = 0 then
    some ((-1000000), t_latest_bits, t_latest_one, t_latest_late, t_latest_apart, t_latest_held, t_latest_sum, t_latest_heldAtEnd, t_latest_left, t_latest_lates, t_latest_ones, t_latest_code, t_now_draws)
  else
    bv_12 (pf_X2_run a1 t_now_offset t_now_bits t_now_size t_now_off t_now_worth t_now_stuck t_now_band t_now_rule t_now_noise t_now_step t_now_draws t_latest_one t_latest_late t_latest_apart t_latest_held) fun x2 x3 f4 f5 f6 f7 x8 x9 x10 x11 x12 x13 =>
    some (x13, x3, f4, f5, f6, f7, x8, x9, x10, x11, x12, x13, x2)

noncomputable def pf_X7_toldUnless (a0 : Int32) (a1 : Int32) : Option (Int32 × Unit) :=
if a0 = a1 then
  some ((-1), ())
else
  some (a0, ())

noncomputable def lp_X7_learn_45 (t_now_bits : Int32) (t_now_off : Nat → Int32) (t_now_size : Nat → Int32) (f3 : Nat → Int32) (x4 : Int32) (x5 : Int32) (f6 : Nat → Int32) (f7 : Nat → Int32) (f8 : Nat → Int32) (f9 : Nat → Int32) (x10 : Int32) (x11 : Int32) (x12 : Int32) (x13 : Int32) (x14 : Int32) (x15 : Int32) : Nat → Int32 → Int32 → Option (Int32 × (Nat → Int32) × Int32 × Int32 × (Nat → Int32) × (Nat → Int32) × (Nat → Int32) × (Nat → Int32) × Int32 × Int32 × Int32 × Int32 × Int32 × Int32)
  | 0, _, _ => none
  | n + 1, x16, x17 =>
    if t_now_bits ≤ x17 then
      some (x16, f3, x4, x5, f6, f7, f8, f9, x10, x11, x12, x13, x14, x15)
    else
      bi_0 (pf_X2_isShort x17 t_now_bits t_now_size t_now_off) fun r18 =>
      if r18 = 0 then
        nm (x17 + 1) fun x19 =>
        lp_X7_learn_45 t_now_bits t_now_off t_now_size f3 x4 x5 f6 f7 f8 f9 x10 x11 x12 x13 x14 x15 n x16 x19
      else
        nm (x16 + 1) fun x20 =>
        nm (x17 + 1) fun x21 =>
        lp_X7_learn_45 t_now_bits t_now_off t_now_size f3 x4 x5 f6 f7 f8 f9 x10 x11 x12 x13 x14 x15 n x20 x21
noncomputable def pf_X7_learn (a1 : Int32) (a2 : Int32) (t_now_bits : Int32) (t_now_size : Nat → Int32) (t_now_off : Nat → Int32) (t_now_worth : Nat → Int32) (t_now_stuck : Nat → Int32) (t_now_offset : Int32) (t_now_band : Int32) (t_now_rule : Int32) (t_now_noise : Int32) (t_now_step : Int32) (t_now_draws : Int32) (t_passing_bits : Int32) (t_passing_one : Nat → Int32) (t_passing_late : Nat → Int32) (t_passing_apart : Nat → Int32) (t_passing_held : Nat → Int32) (t_passing_sum : Int32) (t_passing_heldAtEnd : Int32) (t_passing_left : Int32) (t_passing_lates : Int32) (t_passing_ones : Int32) (t_passing_code : Int32) : Option (Int32 × (Nat → Int32) × Int32 × Int32 × (Nat → Int32) × (Nat → Int32) × (Nat → Int32) × (Nat → Int32) × Int32 × Int32 × Int32 × Int32 × Int32 × Int32) :=
bi_0 (pf_X7_within a1 1 t_now_bits) fun r1 =>
if r1 = 0 then
  some ((-1), t_now_worth, t_now_draws, t_passing_bits, t_passing_one, t_passing_late, t_passing_apart, t_passing_held, t_passing_sum, t_passing_heldAtEnd, t_passing_left, t_passing_lates, t_passing_ones, t_passing_code)
else
  bi_0 (pf_X7_within a2 1 8) fun r2 =>
  if r2 = 0 then
    some ((-1), t_now_worth, t_now_draws, t_passing_bits, t_passing_one, t_passing_late, t_passing_apart, t_passing_held, t_passing_sum, t_passing_heldAtEnd, t_passing_left, t_passing_lates, t_passing_ones, t_passing_code)
  else
    bv_13 (pf_X2_learnFrom a1 a2 t_now_bits t_now_size t_now_off t_now_worth t_now_stuck t_now_offset t_now_band t_now_rule t_now_noise t_now_step t_now_draws t_passing_bits t_passing_one t_passing_late t_passing_apart t_passing_held t_passing_sum t_passing_heldAtEnd t_passing_left t_passing_lates t_passing_ones t_passing_code) fun f3 x4 x5 f6 f7 f8 f9 x10 x11 x12 x13 x14 x15 =>
    lp_X7_learn_45 t_now_bits t_now_off t_now_size f3 x4 x5 f6 f7 f8 f9 x10 x11 x12 x13 x14 x15 FU 0 a1

noncomputable def lp_X7_pass_16 (a1 : Int32) (t_now_bits : Int32) (t_now_heat : Int32) (t_now_drift_steps : Int32) (t_now_drift_kind : Nat → Int32) (t_now_drift_value : Nat → Int32) (t_now_size : Nat → Int32) : Nat → Int32 → Int32 → (Nat → Int32) → Int32 → (Nat → Int32) → Int32 → Option (Int32 × (Nat → Int32) × Int32 × (Nat → Int32) × Int32)
  | 0, _, _, _, _, _, _ => none
  | n + 1, x2, x3, f4, x5, f6, x7 =>
    if a1 ≤ x3 then
      some (x2, f4, x5, f6, x7)
    else
      bi_4 (pf_X2_passHour t_now_bits t_now_size f4 t_now_heat x5 t_now_drift_kind t_now_drift_value f6 t_now_drift_steps x7) fun r8 f9 x10 f11 x12 =>
      nm (x2 + r8) fun x13 =>
      nm (x3 + 1) fun x14 =>
      lp_X7_pass_16 a1 t_now_bits t_now_heat t_now_drift_steps t_now_drift_kind t_now_drift_value t_now_size n x13 x14 f9 x10 f11 x12
noncomputable def pf_X7_pass (a1 : Int32) (t_now_bits : Int32) (t_now_size : Nat → Int32) (t_now_off : Nat → Int32) (t_now_heat : Int32) (t_now_hour : Int32) (t_now_drift_kind : Nat → Int32) (t_now_drift_value : Nat → Int32) (t_now_drift_stack : Nat → Int32) (t_now_drift_steps : Int32) (t_now_drift_height : Int32) : Option (Int32 × (Nat → Int32) × Int32 × (Nat → Int32) × Int32) :=
bi_0 (pf_X7_within a1 1 100) fun r1 =>
if r1 = 0 then
  some ((-1), t_now_off, t_now_hour, t_now_drift_stack, t_now_drift_height)
else
  lp_X7_pass_16 a1 t_now_bits t_now_heat t_now_drift_steps t_now_drift_kind t_now_drift_value t_now_size FU 0 0 t_now_off t_now_hour t_now_drift_stack t_now_drift_height

noncomputable def pf_X7_heat (a1 : Int32) (t_now_heat : Int32) : Option (Int32 × Int32) :=
bi_0 (pf_X7_within a1 0 99) fun r1 =>
if r1 = 0 then
  some (0, t_now_heat)
else
  some (1, a1)

noncomputable def pf_X7_hasBit (a1 : Int32) (t_now_bits : Int32) : Option (Int32 × Unit) :=
if a1 < 0 then
  some (0, ())
else
  if t_now_bits ≤ a1 then
    some (0, ())
  else
    some (1, ())

noncomputable def pf_X7_stick (a1 : Int32) (a2 : Int32) (t_now_bits : Int32) (t_now_stuck : Nat → Int32) : Option (Int32 × (Nat → Int32)) :=
bi_0 (pf_X7_hasBit a1 t_now_bits) fun r1 =>
if r1 = 0 then
  some (0, t_now_stuck)
else
  bi_0 (pf_X7_within a2 (-1) 1) fun r2 =>
  if r2 = 0 then
    some (0, t_now_stuck)
  else
    ckI a1 12 <|
    some (1, (upd t_now_stuck a1.toNatClampNeg a2))

noncomputable def pf_X7_off (a1 : Int32) (a2 : Int32) (t_now_bits : Int32) (t_now_size : Nat → Int32) (t_now_off : Nat → Int32) : Option (Int32 × (Nat → Int32)) :=
bi_0 (pf_X7_hasBit a1 t_now_bits) fun r1 =>
if r1 = 0 then
  some (0, t_now_off)
else
  bi_0 (pf_X7_within a2 (-99) 99) fun r2 =>
  if r2 = 0 then
    some (0, t_now_off)
  else
    ckI a1 12 <|
    if 1 ≤ ((t_now_size a1.toNatClampNeg) + a2) then
      ckI a1 12 <|
      some (1, (upd t_now_off a1.toNatClampNeg a2))
    else
      some (0, t_now_off)

noncomputable def lp_X7_forget_4 (t_now_bits : Int32) (t_now_size : Nat → Int32) : Nat → Int32 → Int32 → (Nat → Int32) → Option (Int32 × (Nat → Int32))
  | 0, _, _, _ => none
  | n + 1, x1, x2, f3 =>
    if t_now_bits ≤ x2 then
      some (x1, f3)
    else
      ckI x2 12 <|
      ckI x2 12 <|
      jn (fun (x4 : Int32) =>
      ckI x2 12 <|
      nm (t_now_size x2.toNatClampNeg) fun x5 =>
      ckI x2 12 <|
      nm (x2 + 1) fun x6 =>
      lp_X7_forget_4 t_now_bits t_now_size n x4 x6 (upd f3 x2.toNatClampNeg x5)) fun J39 =>
      if (f3 x2.toNatClampNeg) = (t_now_size x2.toNatClampNeg) then
        J39 x1
      else
        nm (x1 + 1) fun x7 =>
        J39 x7
noncomputable def pf_X7_forget (t_now_bits : Int32) (t_now_size : Nat → Int32) (t_now_worth : Nat → Int32) : Option (Int32 × (Nat → Int32)) :=
lp_X7_forget_4 t_now_bits t_now_size FU 0 0 t_now_worth

noncomputable def pf_X7_seed (a1 : Int32) (t_now_draws : Int32) : Option (Int32 × Int32) :=
some (t_now_draws, a1)

noncomputable def pf_X7_perform (a1 : Int32) (a2 : Int32) (a3 : Int32) (a4 : Int32) (t_latest_bits : Int32) (t_latest_one : Nat → Int32) (t_latest_late : Nat → Int32) (t_latest_apart : Nat → Int32) (t_latest_held : Nat → Int32) (t_latest_sum : Int32) (t_latest_heldAtEnd : Int32) (t_latest_left : Int32) (t_latest_lates : Int32) (t_latest_ones : Int32) (t_latest_code : Int32) (t_now_bits : Int32) (t_now_size : Nat → Int32) (t_now_off : Nat → Int32) (t_now_worth : Nat → Int32) (t_now_stuck : Nat → Int32) (t_now_offset : Int32) (t_now_band : Int32) (t_now_rule : Int32) (t_now_noise : Int32) (t_now_step : Int32) (t_now_draws : Int32) (t_now_heat : Int32) (t_now_hour : Int32) (t_now_drift_kind : Nat → Int32) (t_now_drift_value : Nat → Int32) (t_now_drift_stack : Nat → Int32) (t_now_drift_steps : Int32) (t_now_drift_height : Int32) (t_passing_bits : Int32) (t_passing_one : Nat → Int32) (t_passing_late : Nat → Int32) (t_passing_apart : Nat → Int32) (t_passing_held : Nat → Int32) (t_passing_sum : Int32) (t_passing_heldAtEnd : Int32) (t_passing_left : Int32) (t_passing_lates : Int32) (t_passing_ones : Int32) (t_passing_code : Int32) : Option (Int32 × Int32 × (Nat → Int32) × (Nat → Int32) × (Nat → Int32) × (Nat → Int32) × Int32 × Int32 × Int32 × Int32 × Int32 × Int32 × (Nat → Int32) × (Nat → Int32) × (Nat → Int32) × Int32 × Int32 × Int32 × (Nat → Int32) × Int32 × Int32 × (Nat → Int32) × (Nat → Int32) × (Nat → Int32) × (Nat → Int32) × Int32 × Int32 × Int32 × Int32 × Int32 × Int32) :=
if a1 = 61 then
  if a2 = a4 then
    some (a2, t_latest_bits, t_latest_one, t_latest_late, t_latest_apart, t_latest_held, t_latest_sum, t_latest_heldAtEnd, t_latest_left, t_latest_lates, t_latest_ones, t_latest_code, t_now_off, t_now_worth, t_now_stuck, t_now_draws, t_now_heat, t_now_hour, t_now_drift_stack, t_now_drift_height, t_passing_bits, t_passing_one, t_passing_late, t_passing_apart, t_passing_held, t_passing_sum, t_passing_heldAtEnd, t_passing_left, t_passing_lates, t_passing_ones, t_passing_code)
  else
    some ((-1), t_latest_bits, t_latest_one, t_latest_late, t_latest_apart, t_latest_held, t_latest_sum, t_latest_heldAtEnd, t_latest_left, t_latest_lates, t_latest_ones, t_latest_code, t_now_off, t_now_worth, t_now_stuck, t_now_draws, t_now_heat, t_now_hour, t_now_drift_stack, t_now_drift_height, t_passing_bits, t_passing_one, t_passing_late, t_passing_apart, t_passing_held, t_passing_sum, t_passing_heldAtEnd, t_passing_left, t_passing_lates, t_passing_ones, t_passing_code)
else
if a1 = 99 then
  bi_12 (pf_X7_convert a2 t_latest_bits t_latest_one t_latest_late t_latest_apart t_latest_held t_latest_sum t_latest_heldAtEnd t_latest_left t_latest_lates t_latest_ones t_latest_code t_now_bits t_now_size t_now_off t_now_worth t_now_stuck t_now_offset t_now_band t_now_rule t_now_noise t_now_step t_now_draws) fun r1 x2 f3 f4 f5 f6 x7 x8 x9 x10 x11 x12 x13 =>
  bi_0 (pf_X7_toldUnless r1 (-1000000)) fun r14 =>
  some (r14, x2, f3, f4, f5, f6, x7, x8, x9, x10, x11, x12, t_now_off, t_now_worth, t_now_stuck, x13, t_now_heat, t_now_hour, t_now_drift_stack, t_now_drift_height, t_passing_bits, t_passing_one, t_passing_late, t_passing_apart, t_passing_held, t_passing_sum, t_passing_heldAtEnd, t_passing_left, t_passing_lates, t_passing_ones, t_passing_code)
else
if a1 = 102 then
  bi_1 (pf_X7_forget t_now_bits t_now_size t_now_worth) fun r15 f16 =>
  some (r15, t_latest_bits, t_latest_one, t_latest_late, t_latest_apart, t_latest_held, t_latest_sum, t_latest_heldAtEnd, t_latest_left, t_latest_lates, t_latest_ones, t_latest_code, t_now_off, f16, t_now_stuck, t_now_draws, t_now_heat, t_now_hour, t_now_drift_stack, t_now_drift_height, t_passing_bits, t_passing_one, t_passing_late, t_passing_apart, t_passing_held, t_passing_sum, t_passing_heldAtEnd, t_passing_left, t_passing_lates, t_passing_ones, t_passing_code)
else
if a1 = 104 then
  bi_1 (pf_X7_heat a2 t_now_heat) fun r17 x18 =>
  if r17 = 0 then
    some ((-1), t_latest_bits, t_latest_one, t_latest_late, t_latest_apart, t_latest_held, t_latest_sum, t_latest_heldAtEnd, t_latest_left, t_latest_lates, t_latest_ones, t_latest_code, t_now_off, t_now_worth, t_now_stuck, t_now_draws, x18, t_now_hour, t_now_drift_stack, t_now_drift_height, t_passing_bits, t_passing_one, t_passing_late, t_passing_apart, t_passing_held, t_passing_sum, t_passing_heldAtEnd, t_passing_left, t_passing_lates, t_passing_ones, t_passing_code)
  else
    some (1, t_latest_bits, t_latest_one, t_latest_late, t_latest_apart, t_latest_held, t_latest_sum, t_latest_heldAtEnd, t_latest_left, t_latest_lates, t_latest_ones, t_latest_code, t_now_off, t_now_worth, t_now_stuck, t_now_draws, x18, t_now_hour, t_now_drift_stack, t_now_drift_height, t_passing_bits, t_passing_one, t_passing_late, t_passing_apart, t_passing_held, t_passing_sum, t_passing_heldAtEnd, t_passing_left, t_passing_lates, t_passing_ones, t_passing_code)
else
if a1 = 108 then
  bi_13 (pf_X7_learn a2 a3 t_now_bits t_now_size t_now_off t_now_worth t_now_stuck t_now_offset t_now_band t_now_rule t_now_noise t_now_step t_now_draws t_passing_bits t_passing_one t_passing_late t_passing_apart t_passing_held t_passing_sum t_passing_heldAtEnd t_passing_left t_passing_lates t_passing_ones t_passing_code) fun r19 f20 x21 x22 f23 f24 f25 f26 x27 x28 x29 x30 x31 x32 =>
  bi_0 (pf_X7_toldUnless r19 (-1)) fun r33 =>
  some (r33, t_latest_bits, t_latest_one, t_latest_late, t_latest_apart, t_latest_held, t_latest_sum, t_latest_heldAtEnd, t_latest_left, t_latest_lates, t_latest_ones, t_latest_code, t_now_off, f20, t_now_stuck, x21, t_now_heat, t_now_hour, t_now_drift_stack, t_now_drift_height, x22, f23, f24, f25, f26, x27, x28, x29, x30, x31, x32)
else
if a1 = 111 then
  bi_1 (pf_X7_off a2 a3 t_now_bits t_now_size t_now_off) fun r34 f35 =>
  if r34 = 0 then
    some ((-1), t_latest_bits, t_latest_one, t_latest_late, t_latest_apart, t_latest_held, t_latest_sum, t_latest_heldAtEnd, t_latest_left, t_latest_lates, t_latest_ones, t_latest_code, f35, t_now_worth, t_now_stuck, t_now_draws, t_now_heat, t_now_hour, t_now_drift_stack, t_now_drift_height, t_passing_bits, t_passing_one, t_passing_late, t_passing_apart, t_passing_held, t_passing_sum, t_passing_heldAtEnd, t_passing_left, t_passing_lates, t_passing_ones, t_passing_code)
  else
    some (1, t_latest_bits, t_latest_one, t_latest_late, t_latest_apart, t_latest_held, t_latest_sum, t_latest_heldAtEnd, t_latest_left, t_latest_lates, t_latest_ones, t_latest_code, f35, t_now_worth, t_now_stuck, t_now_draws, t_now_heat, t_now_hour, t_now_drift_stack, t_now_drift_height, t_passing_bits, t_passing_one, t_passing_late, t_passing_apart, t_passing_held, t_passing_sum, t_passing_heldAtEnd, t_passing_left, t_passing_lates, t_passing_ones, t_passing_code)
else
if a1 = 112 then
  bi_4 (pf_X7_pass a2 t_now_bits t_now_size t_now_off t_now_heat t_now_hour t_now_drift_kind t_now_drift_value t_now_drift_stack t_now_drift_steps t_now_drift_height) fun r36 f37 x38 f39 x40 =>
  bi_0 (pf_X7_toldUnless r36 (-1)) fun r41 =>
  some (r41, t_latest_bits, t_latest_one, t_latest_late, t_latest_apart, t_latest_held, t_latest_sum, t_latest_heldAtEnd, t_latest_left, t_latest_lates, t_latest_ones, t_latest_code, f37, t_now_worth, t_now_stuck, t_now_draws, t_now_heat, x38, f39, x40, t_passing_bits, t_passing_one, t_passing_late, t_passing_apart, t_passing_held, t_passing_sum, t_passing_heldAtEnd, t_passing_left, t_passing_lates, t_passing_ones, t_passing_code)
else
if a1 = 115 then
  bi_1 (pf_X7_stick a2 a3 t_now_bits t_now_stuck) fun r42 f43 =>
  if r42 = 0 then
    some ((-1), t_latest_bits, t_latest_one, t_latest_late, t_latest_apart, t_latest_held, t_latest_sum, t_latest_heldAtEnd, t_latest_left, t_latest_lates, t_latest_ones, t_latest_code, t_now_off, t_now_worth, f43, t_now_draws, t_now_heat, t_now_hour, t_now_drift_stack, t_now_drift_height, t_passing_bits, t_passing_one, t_passing_late, t_passing_apart, t_passing_held, t_passing_sum, t_passing_heldAtEnd, t_passing_left, t_passing_lates, t_passing_ones, t_passing_code)
  else
    some (1, t_latest_bits, t_latest_one, t_latest_late, t_latest_apart, t_latest_held, t_latest_sum, t_latest_heldAtEnd, t_latest_left, t_latest_lates, t_latest_ones, t_latest_code, t_now_off, t_now_worth, f43, t_now_draws, t_now_heat, t_now_hour, t_now_drift_stack, t_now_drift_height, t_passing_bits, t_passing_one, t_passing_late, t_passing_apart, t_passing_held, t_passing_sum, t_passing_heldAtEnd, t_passing_left, t_passing_lates, t_passing_ones, t_passing_code)
else
if a1 = 120 then
  bi_1 (pf_X7_seed a2 t_now_draws) fun r44 x45 =>
  some (1, t_latest_bits, t_latest_one, t_latest_late, t_latest_apart, t_latest_held, t_latest_sum, t_latest_heldAtEnd, t_latest_left, t_latest_lates, t_latest_ones, t_latest_code, t_now_off, t_now_worth, t_now_stuck, x45, t_now_heat, t_now_hour, t_now_drift_stack, t_now_drift_height, t_passing_bits, t_passing_one, t_passing_late, t_passing_apart, t_passing_held, t_passing_sum, t_passing_heldAtEnd, t_passing_left, t_passing_lates, t_passing_ones, t_passing_code)
else
some ((-1), t_latest_bits, t_latest_one, t_latest_late, t_latest_apart, t_latest_held, t_latest_sum, t_latest_heldAtEnd, t_latest_left, t_latest_lates, t_latest_ones, t_latest_code, t_now_off, t_now_worth, t_now_stuck, t_now_draws, t_now_heat, t_now_hour, t_now_drift_stack, t_now_drift_height, t_passing_bits, t_passing_one, t_passing_late, t_passing_apart, t_passing_held, t_passing_sum, t_passing_heldAtEnd, t_passing_left, t_passing_lates, t_passing_ones, t_passing_code)

noncomputable def lp_X7_bench_31 (t_now_bits : Int32) (t_now_offset : Int32) (t_now_band : Int32) (t_now_rule : Int32) (t_now_noise : Int32) (t_now_step : Int32) (t_now_drift_steps : Int32) (t_now_drift_kind : Nat → Int32) (t_now_drift_value : Nat → Int32) (t_now_size : Nat → Int32) (x1 : Int32) (f2 : Nat → Int32) (f3 : Nat → Int32) (f4 : Nat → Int32) (x5 : Int32) (x6 : Int32) (x8 : Int32) (x9 : Int32) (x11 : Int32) (J80 : Int32 → Int32 → (Nat → Int32) → Int32 → (Nat → Int32) → (Nat → Int32) → (Nat → Int32) → (Nat → Int32) → Int32 → Int32 → Int32 → Int32 → Int32 → Int32 → (Nat → Int32) → (Nat → Int32) → (Nat → Int32) → Int32 → Int32 → Int32 → (Nat → Int32) → Int32 → Int32 → (Nat → Int32) → (Nat → Int32) → (Nat → Int32) → (Nat → Int32) → Int32 → Int32 → Int32 → Int32 → Int32 → Int32 → Option (Int32 × Int32 × Int32 × (Nat → Int32) × (Nat → Int32) × (Nat → Int32) × Int32 × (Nat → Int32) × Int32 × Int32 × (Nat → Int32) × (Nat → Int32) × (Nat → Int32) × (Nat → Int32) × Int32 × Int32 × Int32 × Int32 × Int32 × Int32 × (Nat → Int32) × (Nat → Int32) × (Nat → Int32) × Int32 × Int32 × Int32 × (Nat → Int32) × Int32 × Int32 × (Nat → Int32) × (Nat → Int32) × (Nat → Int32) × (Nat → Int32) × Int32 × Int32 × Int32 × Int32 × Int32 × Int32 × Int32 × Int32 × Int32)) : Nat → Int32 → Int32 → Int32 → (Nat → Int32) → Int32 → (Nat → Int32) → (Nat → Int32) → (Nat → Int32) → (Nat → Int32) → Int32 → Int32 → Int32 → Int32 → Int32 → Int32 → (Nat → Int32) → (Nat → Int32) → (Nat → Int32) → Int32 → Int32 → Int32 → (Nat → Int32) → Int32 → Int32 → (Nat → Int32) → (Nat → Int32) → (Nat → Int32) → (Nat → Int32) → Int32 → Int32 → Int32 → Int32 → Int32 → Int32 → Option (Int32 × Int32 × Int32 × (Nat → Int32) × (Nat → Int32) × (Nat → Int32) × Int32 × (Nat → Int32) × Int32 × Int32 × (Nat → Int32) × (Nat → Int32) × (Nat → Int32) × (Nat → Int32) × Int32 × Int32 × Int32 × Int32 × Int32 × Int32 × (Nat → Int32) × (Nat → Int32) × (Nat → Int32) × Int32 × Int32 × Int32 × (Nat → Int32) × Int32 × Int32 × (Nat → Int32) × (Nat → Int32) × (Nat → Int32) × (Nat → Int32) × Int32 × Int32 × Int32 × Int32 × Int32 × Int32 × Int32 × Int32 × Int32)
  | 0, _, _, _, _, _, _, _, _, _, _, _, _, _, _, _, _, _, _, _, _, _, _, _, _, _, _, _, _, _, _, _, _, _, _ => none
  | n + 1, x45, x46, x47, f48, x49, f50, f51, f52, f53, x54, x55, x56, x57, x58, x59, f60, f61, f62, x63, x64, x65, f66, x67, x68, f69, f70, f71, f72, x73, x74, x75, x76, x77, x78 =>
    if x1 ≤ x46 then
      some (x47, x8, x1, f2, f3, f4, x47, f48, x11, x49, f50, f51, f52, f53, x54, x55, x56, x57, x58, x59, f60, f61, f62, x63, x64, x65, f66, x67, x68, f69, f70, f71, f72, x73, x74, x75, x76, x77, x78, x9, x5, x6)
    else
      ckI x46 40 <|
      ckI x46 40 <|
      ckI x46 40 <|
      bi_30 (pf_X7_perform (f2 x46.toNatClampNeg) (f3 x46.toNatClampNeg) (f4 x46.toNatClampNeg) x45 x49 f50 f51 f52 f53 x54 x55 x56 x57 x58 x59 t_now_bits t_now_size f60 f61 f62 t_now_offset t_now_band t_now_rule t_now_noise t_now_step x63 x64 x65 t_now_drift_kind t_now_drift_value f66 t_now_drift_steps x67 x68 f69 f70 f71 f72 x73 x74 x75 x76 x77 x78) fun r79 x80 f81 f82 f83 f84 x85 x86 x87 x88 x89 x90 f91 f92 f93 x94 x95 x96 f97 x98 x99 f100 f101 f102 f103 x104 x105 x106 x107 x108 x109 =>
      if r79 = (-1) then
        J80 x46 x47 f48 x80 f81 f82 f83 f84 x85 x86 x87 x88 x89 x90 f91 f92 f93 x94 x95 x96 f97 x98 x99 f100 f101 f102 f103 x104 x105 x106 x107 x108 x109
      else
        bv_2 (pf_X0_note r79 x47 f48) fun x110 f111 =>
        nm (x46 + 1) fun x112 =>
        lp_X7_bench_31 t_now_bits t_now_offset t_now_band t_now_rule t_now_noise t_now_step t_now_drift_steps t_now_drift_kind t_now_drift_value t_now_size x1 f2 f3 f4 x5 x6 x8 x9 x11 J80 n r79 x112 x110 f111 x80 f81 f82 f83 f84 x85 x86 x87 x88 x89 x90 f91 f92 f93 x94 x95 x96 f97 x98 x99 f100 f101 f102 f103 x104 x105 x106 x107 x108 x109
noncomputable def pf_X7_bench (t_acts_kind : Nat → Int32) (t_acts_one : Nat → Int32) (t_acts_two : Nat → Int32) (t_acts_done : Int32) (t_acts_told : Nat → Int32) (t_acts_ended : Int32) (t_latest_bits : Int32) (t_latest_one : Nat → Int32) (t_latest_late : Nat → Int32) (t_latest_apart : Nat → Int32) (t_latest_held : Nat → Int32) (t_latest_sum : Int32) (t_latest_heldAtEnd : Int32) (t_latest_left : Int32) (t_latest_lates : Int32) (t_latest_ones : Int32) (t_latest_code : Int32) (t_now_bits : Int32) (t_now_size : Nat → Int32) (t_now_off : Nat → Int32) (t_now_worth : Nat → Int32) (t_now_stuck : Nat → Int32) (t_now_offset : Int32) (t_now_band : Int32) (t_now_rule : Int32) (t_now_noise : Int32) (t_now_step : Int32) (t_now_draws : Int32) (t_now_heat : Int32) (t_now_hour : Int32) (t_now_drift_kind : Nat → Int32) (t_now_drift_value : Nat → Int32) (t_now_drift_stack : Nat → Int32) (t_now_drift_steps : Int32) (t_now_drift_height : Int32) (t_passing_bits : Int32) (t_passing_one : Nat → Int32) (t_passing_late : Nat → Int32) (t_passing_apart : Nat → Int32) (t_passing_held : Nat → Int32) (t_passing_sum : Int32) (t_passing_heldAtEnd : Int32) (t_passing_left : Int32) (t_passing_lates : Int32) (t_passing_ones : Int32) (t_passing_code : Int32) (t_tape_bytes : Nat → Int32) (t_tape_count : Int32) : Option (Int32 × Int32 × Int32 × (Nat → Int32) × (Nat → Int32) × (Nat → Int32) × Int32 × (Nat → Int32) × Int32 × Int32 × (Nat → Int32) × (Nat → Int32) × (Nat → Int32) × (Nat → Int32) × Int32 × Int32 × Int32 × Int32 × Int32 × Int32 × (Nat → Int32) × (Nat → Int32) × (Nat → Int32) × Int32 × Int32 × Int32 × (Nat → Int32) × Int32 × Int32 × (Nat → Int32) × (Nat → Int32) × (Nat → Int32) × (Nat → Int32) × Int32 × Int32 × Int32 × Int32 × Int32 × Int32 × Int32 × Int32 × Int32) :=
bv_6 (pf_X0_read t_acts_kind t_acts_one t_acts_two t_tape_bytes t_tape_count) fun x1 f2 f3 f4 x5 x6 =>
bi_2 (pf_X7_leaveTape x6) fun r7 x8 x9 =>
if r7 = 0 then
  some ((-1), x8, x1, f2, f3, f4, t_acts_done, t_acts_told, t_acts_ended, t_latest_bits, t_latest_one, t_latest_late, t_latest_apart, t_latest_held, t_latest_sum, t_latest_heldAtEnd, t_latest_left, t_latest_lates, t_latest_ones, t_latest_code, t_now_off, t_now_worth, t_now_stuck, t_now_draws, t_now_heat, t_now_hour, t_now_drift_stack, t_now_drift_height, t_passing_bits, t_passing_one, t_passing_late, t_passing_apart, t_passing_held, t_passing_sum, t_passing_heldAtEnd, t_passing_left, t_passing_lates, t_passing_ones, t_passing_code, x9, x5, x6)
else
  bv_2 (pf_X0_begin) fun x10 x11 =>
  jn (fun (x12 : Int32) (x13 : Int32) (f14 : Nat → Int32) (x15 : Int32) (f16 : Nat → Int32) (f17 : Nat → Int32) (f18 : Nat → Int32) (f19 : Nat → Int32) (x20 : Int32) (x21 : Int32) (x22 : Int32) (x23 : Int32) (x24 : Int32) (x25 : Int32) (f26 : Nat → Int32) (f27 : Nat → Int32) (f28 : Nat → Int32) (x29 : Int32) (x30 : Int32) (x31 : Int32) (f32 : Nat → Int32) (x33 : Int32) (x34 : Int32) (f35 : Nat → Int32) (f36 : Nat → Int32) (f37 : Nat → Int32) (f38 : Nat → Int32) (x39 : Int32) (x40 : Int32) (x41 : Int32) (x42 : Int32) (x43 : Int32) (x44 : Int32) =>
  some (x13, x8, x1, f2, f3, f4, x13, f14, x12, x15, f16, f17, f18, f19, x20, x21, x22, x23, x24, x25, f26, f27, f28, x29, x30, x31, f32, x33, x34, f35, f36, f37, f38, x39, x40, x41, x42, x43, x44, x9, x5, x6)) fun J80 =>
  lp_X7_bench_31 t_now_bits t_now_offset t_now_band t_now_rule t_now_noise t_now_step t_now_drift_steps t_now_drift_kind t_now_drift_value t_now_size x1 f2 f3 f4 x5 x6 x8 x9 x11 J80 FU (-1) 0 x10 t_acts_told t_latest_bits t_latest_one t_latest_late t_latest_apart t_latest_held t_latest_sum t_latest_heldAtEnd t_latest_left t_latest_lates t_latest_ones t_latest_code t_now_off t_now_worth t_now_stuck t_now_draws t_now_heat t_now_hour t_now_drift_stack t_now_drift_height t_passing_bits t_passing_one t_passing_late t_passing_apart t_passing_held t_passing_sum t_passing_heldAtEnd t_passing_left t_passing_lates t_passing_ones t_passing_code

noncomputable def pf_X7_fault (t_faultPlace : Int32) : Option (Int32 × Unit) :=
some (t_faultPlace, ())

noncomputable def pf_X7_stopped (t_acts_ended : Int32) : Option (Int32 × Unit) :=
some (t_acts_ended, ())

noncomputable def pf_X7_row (a1 : Int32) (t_acts_done : Int32) (t_acts_told : Nat → Int32) : Option (Int32 × Unit) :=
if a1 < 0 then
  some ((-1000000), ())
else
  if t_acts_done ≤ a1 then
    some ((-1000000), ())
  else
    ckI a1 40 <|
    some ((t_acts_told a1.toNatClampNeg), ())

noncomputable def pf_X7_is (a1 : Int32) (t_now_bits : Int32) (t_now_size : Nat → Int32) (t_now_off : Nat → Int32) (t_now_worth : Nat → Int32) (t_now_offset : Int32) (t_now_band : Int32) (t_now_rule : Int32) (t_now_noise : Int32) (t_now_step : Int32) (t_now_draws : Int32) (t_now_heat : Int32) (t_now_hour : Int32) (t_now_seenCount : Int32) (t_tape_count : Int32) : Option (Int32 × Unit) :=
if a1 = 0 then
  some (t_now_bits, ())
else
if a1 = 1 then
  some (t_now_offset, ())
else
if a1 = 2 then
  some (t_now_band, ())
else
if a1 = 3 then
  some (t_now_rule, ())
else
if a1 = 4 then
  some (t_now_noise, ())
else
if a1 = 5 then
  some (t_now_step, ())
else
if a1 = 6 then
  some (t_now_draws, ())
else
if a1 = 7 then
  some (t_now_seenCount, ())
else
if a1 = 8 then
  some (t_tape_count, ())
else
if a1 = 9 then
  bi_0 (pf_X2_weightsBelow t_now_bits t_now_bits t_now_size t_now_off) fun r1 =>
  some (r1, ())
else
if a1 = 10 then
  bi_0 (pf_X2_allWorths t_now_bits t_now_worth) fun r2 =>
  some (r2, ())
else
if a1 = 11 then
  some (t_now_heat, ())
else
if a1 = 12 then
  some (t_now_hour, ())
else
some ((-100000), ())

noncomputable def pf_X7_bit (a1 : Int32) (a2 : Int32) (t_now_bits : Int32) (t_now_size : Nat → Int32) (t_now_off : Nat → Int32) (t_now_worth : Nat → Int32) (t_now_stuck : Nat → Int32) : Option (Int32 × Unit) :=
bi_0 (pf_X7_hasBit a1 t_now_bits) fun r1 =>
if r1 = 0 then
  some ((-100000), ())
else
  if a2 = 0 then
    ckI a1 12 <|
    some ((t_now_size a1.toNatClampNeg), ())
  else
  if a2 = 1 then
    ckI a1 12 <|
    some ((t_now_off a1.toNatClampNeg), ())
  else
  if a2 = 2 then
    ckI a1 12 <|
    some ((t_now_worth a1.toNatClampNeg), ())
  else
  if a2 = 3 then
    ckI a1 12 <|
    some ((t_now_stuck a1.toNatClampNeg), ())
  else
  if a2 = 4 then
    bi_0 (pf_X2_weight a1 t_now_size t_now_off) fun r2 =>
    some (r2, ())
  else
  if a2 = 5 then
    bi_0 (pf_X2_isShort a1 t_now_bits t_now_size t_now_off) fun r3 =>
    if r3 = 0 then
      some (0, ())
    else
      some (1, ())
  else
  some ((-100000), ())

noncomputable def pf_X7_set (a1 : Int32) (a2 : Int32) (t_now_offset : Int32) (t_now_band : Int32) (t_now_rule : Int32) (t_now_noise : Int32) (t_now_step : Int32) : Option (Int32 × Int32 × Int32 × Int32 × Int32 × Int32) :=
bi_0 (pf_X2_mayBeSet a1 a2) fun r1 =>
if r1 = 0 then
  some (0, t_now_offset, t_now_band, t_now_rule, t_now_noise, t_now_step)
else
  bv_5 (pf_X2_put a1 a2 t_now_offset t_now_band t_now_rule t_now_noise t_now_step) fun x2 x3 x4 x5 x6 =>
  some (1, x2, x3, x4, x5, x6)

noncomputable def pf_X7_decision (a1 : Int32) (a2 : Int32) (t_latest_bits : Int32) (t_latest_one : Nat → Int32) (t_latest_late : Nat → Int32) (t_latest_apart : Nat → Int32) (t_latest_held : Nat → Int32) : Option (Int32 × Unit) :=
if a1 < 0 then
  some ((-1000000), ())
else
  if a1 < t_latest_bits then
    if a2 = 0 then
      ckI a1 12 <|
      some ((t_latest_one a1.toNatClampNeg), ())
    else
    if a2 = 1 then
      ckI a1 12 <|
      some ((t_latest_late a1.toNatClampNeg), ())
    else
    if a2 = 2 then
      ckI a1 12 <|
      some ((t_latest_apart a1.toNatClampNeg), ())
    else
    if a2 = 3 then
      ckI a1 12 <|
      some ((t_latest_held a1.toNatClampNeg), ())
    else
    some ((-1000000), ())
  else
    some ((-1000000), ())

noncomputable def pf_X7_converted (a1 : Int32) (t_latest_bits : Int32) (t_latest_sum : Int32) (t_latest_heldAtEnd : Int32) (t_latest_left : Int32) (t_latest_lates : Int32) (t_latest_ones : Int32) (t_latest_code : Int32) : Option (Int32 × Unit) :=
if t_latest_bits = 0 then
  some ((-1000000), ())
else
  if a1 = 0 then
    some (t_latest_sum, ())
  else
  if a1 = 1 then
    some (t_latest_heldAtEnd, ())
  else
  if a1 = 2 then
    some (t_latest_left, ())
  else
  if a1 = 3 then
    some (t_latest_lates, ())
  else
  if a1 = 4 then
    some (t_latest_ones, ())
  else
  if a1 = 5 then
    some (t_latest_code, ())
  else
  some ((-1000000), ())

noncomputable def lp_X7_write_27 (t_latest_late : Nat → Int32) (t_latest_one : Nat → Int32) : Nat → Int32 → (Nat → Int32) → Int32 → Option (Int32 × (Nat → Int32) × Int32)
  | 0, _, _, _ => none
  | n + 1, x2, f3, x4 =>
    if x2 < 0 then
      some (x4, f3, x4)
    else
      bi_0 (pf_X1_sign x2 t_latest_one t_latest_late) fun r5 =>
      ckI x4 12 <|
      nm (x4 + 1) fun x6 =>
      nm (x2 + (-1)) fun x7 =>
      lp_X7_write_27 t_latest_late t_latest_one n x7 (upd f3 x4.toNatClampNeg r5) x6
noncomputable def pf_X7_write (t_written : Nat → Int32) (t_writtenCount : Int32) (t_latest_bits : Int32) (t_latest_one : Nat → Int32) (t_latest_late : Nat → Int32) : Option (Int32 × (Nat → Int32) × Int32) :=
if t_latest_bits = 0 then
  some ((-1), t_written, t_writtenCount)
else
  nm (t_latest_bits - 1) fun x1 =>
  lp_X7_write_27 t_latest_late t_latest_one FU x1 t_written 0

noncomputable def pf_X7_octet (a1 : Int32) (t_written : Nat → Int32) (t_writtenCount : Int32) : Option (Int32 × Unit) :=
if a1 < 0 then
  some ((-1), ())
else
  if t_writtenCount ≤ a1 then
    some ((-1), ())
  else
    ckI a1 12 <|
    some ((t_written a1.toNatClampNeg), ())

noncomputable def lp_X7_mean_35 (a1 : Int32) (a2 : Int32) (t_now_bits : Int32) (t_now_offset : Int32) (t_now_band : Int32) (t_now_rule : Int32) (t_now_noise : Int32) (t_now_step : Int32) (t_now_off : Nat → Int32) (t_now_size : Nat → Int32) (t_now_stuck : Nat → Int32) (t_now_worth : Nat → Int32) : Nat → Int64 → Int32 → Int32 → Int32 → (Nat → Int32) → (Nat → Int32) → (Nat → Int32) → (Nat → Int32) → Int32 → Int32 → Int32 → Int32 → Int32 → Int32 → Option (Int32 × Int32 × Int32 × (Nat → Int32) × (Nat → Int32) × (Nat → Int32) × (Nat → Int32) × Int32 × Int32 × Int32 × Int32 × Int32 × Int32)
  | 0, _, _, _, _, _, _, _, _, _, _, _, _, _, _ => none
  | n + 1, x3, x4, x5, x6, f7, f8, f9, f10, x11, x12, x13, x14, x15, x16 =>
    if a2 ≤ x4 then
      bi_0 (pf_X7_nearest x3 a2) fun r17 =>
      some (r17, x5, x6, f7, f8, f9, f10, x11, x12, x13, x14, x15, x16)
    else
      bv_12 (pf_X2_run a1 t_now_offset t_now_bits t_now_size t_now_off t_now_worth t_now_stuck t_now_band t_now_rule t_now_noise t_now_step x5 f7 f8 f9 f10) fun x18 x19 f20 f21 f22 f23 x24 x25 x26 x27 x28 x29 =>
      nm (x3 + x29.toInt64) fun x30 =>
      nm (x4 + 1) fun x31 =>
      lp_X7_mean_35 a1 a2 t_now_bits t_now_offset t_now_band t_now_rule t_now_noise t_now_step t_now_off t_now_size t_now_stuck t_now_worth n x30 x31 x18 x19 f20 f21 f22 f23 x24 x25 x26 x27 x28 x29
noncomputable def pf_X7_mean (a1 : Int32) (a2 : Int32) (t_now_bits : Int32) (t_now_size : Nat → Int32) (t_now_off : Nat → Int32) (t_now_worth : Nat → Int32) (t_now_stuck : Nat → Int32) (t_now_offset : Int32) (t_now_band : Int32) (t_now_rule : Int32) (t_now_noise : Int32) (t_now_step : Int32) (t_now_draws : Int32) (t_passing_bits : Int32) (t_passing_one : Nat → Int32) (t_passing_late : Nat → Int32) (t_passing_apart : Nat → Int32) (t_passing_held : Nat → Int32) (t_passing_sum : Int32) (t_passing_heldAtEnd : Int32) (t_passing_left : Int32) (t_passing_lates : Int32) (t_passing_ones : Int32) (t_passing_code : Int32) : Option (Int32 × Int32 × Int32 × (Nat → Int32) × (Nat → Int32) × (Nat → Int32) × (Nat → Int32) × Int32 × Int32 × Int32 × Int32 × Int32 × Int32) :=
if t_now_bits = 0 then
  some ((-1000000), t_now_draws, t_passing_bits, t_passing_one, t_passing_late, t_passing_apart, t_passing_held, t_passing_sum, t_passing_heldAtEnd, t_passing_left, t_passing_lates, t_passing_ones, t_passing_code)
else
  bi_0 (pf_X7_isNear a1) fun r1 =>
  if r1 = 0 then
    some ((-1000000), t_now_draws, t_passing_bits, t_passing_one, t_passing_late, t_passing_apart, t_passing_held, t_passing_sum, t_passing_heldAtEnd, t_passing_left, t_passing_lates, t_passing_ones, t_passing_code)
  else
    bi_0 (pf_X7_within a2 1 100) fun r2 =>
    if r2 = 0 then
      some ((-1000000), t_now_draws, t_passing_bits, t_passing_one, t_passing_late, t_passing_apart, t_passing_held, t_passing_sum, t_passing_heldAtEnd, t_passing_left, t_passing_lates, t_passing_ones, t_passing_code)
    else
      lp_X7_mean_35 a1 a2 t_now_bits t_now_offset t_now_band t_now_rule t_now_noise t_now_step t_now_off t_now_size t_now_stuck t_now_worth FU 0 0 t_now_draws t_passing_bits t_passing_one t_passing_late t_passing_apart t_passing_held t_passing_sum t_passing_heldAtEnd t_passing_left t_passing_lates t_passing_ones t_passing_code

noncomputable def pf_X7_code (a1 : Int32) (t_now_bits : Int32) (t_now_size : Nat → Int32) (t_now_off : Nat → Int32) (t_now_worth : Nat → Int32) (t_now_stuck : Nat → Int32) (t_now_offset : Int32) (t_now_step : Int32) : Option (Int32 × Unit) :=
if t_now_bits = 0 then
  some ((-1000000), ())
else
  bi_0 (pf_X7_isNear a1) fun r1 =>
  if r1 = 0 then
    some ((-1000000), ())
  else
    bi_0 (pf_X2_paperCode a1 t_now_bits t_now_size t_now_off t_now_worth t_now_stuck t_now_offset t_now_step) fun r2 =>
    some (r2, ())

noncomputable def pf_X7_forgiven (a1 : Int32) (a2 : Int32) (t_now_bits : Int32) (t_now_size : Nat → Int32) (t_now_off : Nat → Int32) (t_now_worth : Nat → Int32) (t_now_stuck : Nat → Int32) (t_now_offset : Int32) (t_now_step : Int32) : Option (Int32 × Unit) :=
bi_0 (pf_X7_hasBit a2 t_now_bits) fun r1 =>
if r1 = 0 then
  some ((-1), ())
else
  bi_0 (pf_X7_isNear a1) fun r2 =>
  if r2 = 0 then
    some ((-1), ())
  else
    bi_0 (pf_X2_forgives a1 a2 t_now_bits t_now_size t_now_off t_now_worth t_now_stuck t_now_offset t_now_step) fun r3 =>
    if r3 = 0 then
      some (0, ())
    else
      some (1, ())

noncomputable def pf_X7_slack (a1 : Int32) (t_now_bits : Int32) (t_now_size : Nat → Int32) (t_now_off : Nat → Int32) (t_now_worth : Nat → Int32) (t_now_stuck : Nat → Int32) (t_now_offset : Int32) (t_now_step : Int32) : Option (Int32 × Unit) :=
bi_0 (pf_X7_hasBit a1 t_now_bits) fun r1 =>
if r1 = 0 then
  some ((-2), ())
else
  bi_0 (pf_X2_slackOf a1 t_now_bits t_now_size t_now_off t_now_worth t_now_stuck t_now_offset t_now_step) fun r2 =>
  some (r2, ())

noncomputable def lp_X7_tightest_37 (t_now_bits : Int32) (t_now_offset : Int32) (t_now_step : Int32) (t_now_off : Nat → Int32) (t_now_size : Nat → Int32) (t_now_stuck : Nat → Int32) (t_now_worth : Nat → Int32) (J78 : Int32 → Int32 → Option (Int32 × Unit)) : Nat → Int32 → Int32 → Int32 → Option (Int32 × Unit)
  | 0, _, _, _ => none
  | n + 1, x5, x6, x7 =>
    if t_now_bits ≤ x7 then
      J78 x5 x6
    else
      bi_0 (pf_X2_slackOf x7 t_now_bits t_now_size t_now_off t_now_worth t_now_stuck t_now_offset t_now_step) fun r8 =>
      if x6 ≤ r8 then
        nm (x7 + 1) fun x9 =>
        lp_X7_tightest_37 t_now_bits t_now_offset t_now_step t_now_off t_now_size t_now_stuck t_now_worth J78 n x5 x6 x9
      else
        nm (x7 + 1) fun x10 =>
        lp_X7_tightest_37 t_now_bits t_now_offset t_now_step t_now_off t_now_size t_now_stuck t_now_worth J78 n x7 r8 x10
noncomputable def pf_X7_tightest (a1 : Int32) (t_now_bits : Int32) (t_now_size : Nat → Int32) (t_now_off : Nat → Int32) (t_now_worth : Nat → Int32) (t_now_stuck : Nat → Int32) (t_now_offset : Int32) (t_now_step : Int32) : Option (Int32 × Unit) :=
if t_now_bits < 2 then
  some ((-2), ())
else
  bi_0 (pf_X7_within a1 0 1) fun r1 =>
  if r1 = 0 then
    some ((-2), ())
  else
    bi_0 (pf_X2_slackOf 1 t_now_bits t_now_size t_now_off t_now_worth t_now_stuck t_now_offset t_now_step) fun r2 =>
    jn (fun (x3 : Int32) (x4 : Int32) =>
    if a1 = 0 then
      some (x3, ())
    else
      some (x4, ())) fun J78 =>
    lp_X7_tightest_37 t_now_bits t_now_offset t_now_step t_now_off t_now_size t_now_stuck t_now_worth J78 FU 1 r2 2

noncomputable def lp_X7_gap_29 (t_now_bits : Int32) (t_now_off : Nat → Int32) (t_now_size : Nat → Int32) (J82 : Int32 → Int32 → Option (Int32 × Unit)) : Nat → Int32 → Int32 → Int32 → Option (Int32 × Unit)
  | 0, _, _, _ => none
  | n + 1, x4, x5, x6 =>
    if t_now_bits ≤ x6 then
      J82 x4 x5
    else
      bi_0 (pf_X2_weight x6 t_now_size t_now_off) fun r7 =>
      bi_0 (pf_X2_weightsBelow x6 t_now_bits t_now_size t_now_off) fun r8 =>
      nm ((r7 - r8) - 1) fun x9 =>
      if x9 ≤ x5 then
        nm (x6 + 1) fun x10 =>
        lp_X7_gap_29 t_now_bits t_now_off t_now_size J82 n x4 x5 x10
      else
        nm (x6 + 1) fun x11 =>
        lp_X7_gap_29 t_now_bits t_now_off t_now_size J82 n x6 x9 x11
noncomputable def pf_X7_gap (a1 : Int32) (t_now_bits : Int32) (t_now_size : Nat → Int32) (t_now_off : Nat → Int32) : Option (Int32 × Unit) :=
if t_now_bits = 0 then
  some ((-2), ())
else
  bi_0 (pf_X7_within a1 0 1) fun r1 =>
  if r1 = 0 then
    some ((-2), ())
  else
    jn (fun (x2 : Int32) (x3 : Int32) =>
    if a1 = 0 then
      some (x3, ())
    else
      some (x2, ())) fun J82 =>
    lp_X7_gap_29 t_now_bits t_now_off t_now_size J82 FU (-1) 0 0

noncomputable def pf_X7_isSpan (a0 : Int32) (a1 : Int32) (a2 : Int32) : Option (Int32 × Unit) :=
if a0 < (-100000) then
  some (0, ())
else
  if 100000 < a1 then
    some (0, ())
  else
    if a1 < a0 then
      some (0, ())
    else
      if a2 < 1 then
        some (0, ())
      else
        ckD a2 <|
        if 2000 ≤ ((a1 - a0) / a2) then
          some (0, ())
        else
          some (1, ())

noncomputable def pf_X7_histogram (a1 : Int32) (a2 : Int32) (a3 : Int32) (a4 : Int32) (t_now_bits : Int32) (t_now_size : Nat → Int32) (t_now_off : Nat → Int32) (t_now_worth : Nat → Int32) (t_now_stuck : Nat → Int32) (t_now_offset : Int32) (t_now_step : Int32) (t_tally_entry : Nat → Int32) (t_tally_count : Int32) (t_tally_falls : Int32) (t_tally_offBy : Int32) (t_tally_offAt : Int32) (t_tally_unlike : Int32) (t_tally_most : Int32) (t_tally_mostCome : Int32) (t_tally_least : Int32) (t_tally_greatest : Int32) (t_tally_missing : Int32) (t_tally_firstMissing : Int32) : Option (Int32 × (Nat → Int32) × Int32 × Int32 × Int32 × Int32 × Int32 × Int32 × Int32 × Int32 × Int32 × Int32 × Int32) :=
if t_now_bits = 0 then
  some ((-1000000), t_tally_entry, t_tally_count, t_tally_falls, t_tally_offBy, t_tally_offAt, t_tally_unlike, t_tally_most, t_tally_mostCome, t_tally_least, t_tally_greatest, t_tally_missing, t_tally_firstMissing)
else
  bi_0 (pf_X7_isSpan a1 a2 a3) fun r1 =>
  if r1 = 0 then
    some ((-1000000), t_tally_entry, t_tally_count, t_tally_falls, t_tally_offBy, t_tally_offAt, t_tally_unlike, t_tally_most, t_tally_mostCome, t_tally_least, t_tally_greatest, t_tally_missing, t_tally_firstMissing)
  else
    bi_0 (pf_X7_within a4 0 9) fun r2 =>
    if r2 = 0 then
      some ((-1000000), t_tally_entry, t_tally_count, t_tally_falls, t_tally_offBy, t_tally_offAt, t_tally_unlike, t_tally_most, t_tally_mostCome, t_tally_least, t_tally_greatest, t_tally_missing, t_tally_firstMissing)
    else
      bv_5 (pf_X4_measure a1 a2 a3 t_tally_entry t_now_bits t_now_size t_now_off t_now_worth t_now_stuck t_now_offset t_now_step) fun f3 x4 x5 x6 x7 =>
      bv_8 (pf_X4_sortOut f3 x4) fun f8 x9 x10 x11 x12 x13 x14 x15 =>
      bi_0 (pf_X4_tell a4 x5 x6 x7 x9 x10 x11 x12 x13 x14 x15) fun r16 =>
      some (r16, f8, x4, x5, x6, x7, x9, x10, x11, x12, x13, x14, x15)

noncomputable def pf_X7_often (a1 : Int32) (a2 : Int32) (a3 : Int32) (a4 : Int32) (t_now_bits : Int32) (t_now_size : Nat → Int32) (t_now_off : Nat → Int32) (t_now_worth : Nat → Int32) (t_now_stuck : Nat → Int32) (t_now_offset : Int32) (t_now_step : Int32) (t_tally_entry : Nat → Int32) (t_tally_count : Int32) (t_tally_falls : Int32) (t_tally_offBy : Int32) (t_tally_offAt : Int32) : Option (Int32 × (Nat → Int32) × Int32 × Int32 × Int32 × Int32) :=
if t_now_bits = 0 then
  some ((-1), t_tally_entry, t_tally_count, t_tally_falls, t_tally_offBy, t_tally_offAt)
else
  bi_0 (pf_X7_isSpan a1 a2 a3) fun r1 =>
  if r1 = 0 then
    some ((-1), t_tally_entry, t_tally_count, t_tally_falls, t_tally_offBy, t_tally_offAt)
  else
    bv_5 (pf_X4_measure a1 a2 a3 t_tally_entry t_now_bits t_now_size t_now_off t_now_worth t_now_stuck t_now_offset t_now_step) fun f2 x3 x4 x5 x6 =>
    bi_0 (pf_X4_howOften a4 f2 x3) fun r7 =>
    some (r7, f2, x3, x4, x5, x6)

noncomputable def lp_X7_first_25 (a2 : Int32) (a3 : Int32) (t_now_bits : Int32) (t_now_offset : Int32) (t_now_step : Int32) (t_now_off : Nat → Int32) (t_now_size : Nat → Int32) (t_now_stuck : Nat → Int32) (t_now_worth : Nat → Int32) : Nat → Int32 → Option (Int32 × Unit)
  | 0, _ => none
  | n + 1, x2 =>
    if a2 < x2 then
      some ((-1000000), ())
    else
      bi_0 (pf_X2_paperCode x2 t_now_bits t_now_size t_now_off t_now_worth t_now_stuck t_now_offset t_now_step) fun r3 =>
      if r3 < a3 then
        nm (x2 + 1) fun x4 =>
        lp_X7_first_25 a2 a3 t_now_bits t_now_offset t_now_step t_now_off t_now_size t_now_stuck t_now_worth n x4
      else
        some (x2, ())
noncomputable def pf_X7_first (a1 : Int32) (a2 : Int32) (a3 : Int32) (t_now_bits : Int32) (t_now_size : Nat → Int32) (t_now_off : Nat → Int32) (t_now_worth : Nat → Int32) (t_now_stuck : Nat → Int32) (t_now_offset : Int32) (t_now_step : Int32) : Option (Int32 × Unit) :=
if t_now_bits = 0 then
  some ((-1000000), ())
else
  bi_0 (pf_X7_isSpan a1 a2 1) fun r1 =>
  if r1 = 0 then
    some ((-1000000), ())
  else
    lp_X7_first_25 a2 a3 t_now_bits t_now_offset t_now_step t_now_off t_now_size t_now_stuck t_now_worth FU a1

noncomputable def pf_X7_canSum (t_now_bits : Int32) (t_now_worth : Nat → Int32) : Option (Int32 × Unit) :=
if t_now_bits ≤ 0 then
  some (0, ())
else
  bi_0 (pf_X2_allWorths t_now_bits t_now_worth) fun r1 =>
  if 20000 < r1 then
    some (0, ())
  else
    some (1, ())

noncomputable def pf_X7_ways (a1 : Int32) (t_now_bits : Int32) (t_now_worth : Nat → Int32) (t_tally_entry : Nat → Int32) (t_tally_count : Int32) : Option (Int32 × (Nat → Int32) × Int32) :=
bi_0 (pf_X7_canSum t_now_bits t_now_worth) fun r1 =>
if r1 = 0 then
  some ((-1), t_tally_entry, t_tally_count)
else
  bv_2 (pf_X4_addUp t_tally_entry t_now_bits t_now_worth) fun f2 x3 =>
  bi_0 (pf_X4_howOften a1 f2 x3) fun r4 =>
  some (r4, f2, x3)

noncomputable def pf_X7_sums (a1 : Int32) (t_now_bits : Int32) (t_now_worth : Nat → Int32) (t_tally_entry : Nat → Int32) (t_tally_count : Int32) (t_tally_unlike : Int32) (t_tally_most : Int32) (t_tally_mostCome : Int32) (t_tally_least : Int32) (t_tally_greatest : Int32) (t_tally_missing : Int32) (t_tally_firstMissing : Int32) : Option (Int32 × (Nat → Int32) × Int32 × Int32 × Int32 × Int32 × Int32 × Int32 × Int32 × Int32) :=
bi_0 (pf_X7_canSum t_now_bits t_now_worth) fun r1 =>
if r1 = 0 then
  some ((-1), t_tally_entry, t_tally_count, t_tally_unlike, t_tally_most, t_tally_mostCome, t_tally_least, t_tally_greatest, t_tally_missing, t_tally_firstMissing)
else
  bv_2 (pf_X4_addUp t_tally_entry t_now_bits t_now_worth) fun f2 x3 =>
  bv_8 (pf_X4_sortOut f2 x3) fun f4 x5 x6 x7 x8 x9 x10 x11 =>
  if a1 = 0 then
    some (x5, f4, x3, x5, x6, x7, x8, x9, x10, x11)
  else
  if a1 = 1 then
    some (x6, f4, x3, x5, x6, x7, x8, x9, x10, x11)
  else
  if a1 = 2 then
    some (x7, f4, x3, x5, x6, x7, x8, x9, x10, x11)
  else
  if a1 = 3 then
    some (x11, f4, x3, x5, x6, x7, x8, x9, x10, x11)
  else
  some ((-1), f4, x3, x5, x6, x7, x8, x9, x10, x11)

noncomputable def pf_X7_canLearnByCodes (a1 : Int32) (t_now_bits : Int32) (t_now_size : Nat → Int32) (t_now_step : Int32) : Option (Int32 × Unit) :=
bi_0 (pf_X7_within a1 1 t_now_bits) fun r1 =>
if r1 = 0 then
  some (0, ())
else
  if t_now_step ≤ 0 then
    some (0, ())
  else
    bi_0 (pf_X2_allSizes t_now_bits t_now_size) fun r2 =>
    ckD t_now_step <|
    if 2000 ≤ (r2 / t_now_step) then
      some (0, ())
    else
      some (1, ())

noncomputable def pf_X7_setAsideOnPaper (t_aside_size : Nat → Int32) (t_aside_off : Nat → Int32) (t_aside_worth : Nat → Int32) (t_aside_stuck : Nat → Int32) (t_aside_seenX : Nat → Int32) (t_aside_seenCode : Nat → Int32) (t_now_bits : Int32) (t_now_size : Nat → Int32) (t_now_off : Nat → Int32) (t_now_worth : Nat → Int32) (t_now_stuck : Nat → Int32) (t_now_offset : Int32) (t_now_band : Int32) (t_now_rule : Int32) (t_now_noise : Int32) (t_now_step : Int32) (t_now_draws : Int32) (t_now_heat : Int32) (t_now_hour : Int32) (t_now_seenX : Nat → Int32) (t_now_seenCode : Nat → Int32) (t_now_seenCount : Int32) : Option (Int32 × (Nat → Int32) × (Nat → Int32) × (Nat → Int32) × (Nat → Int32) × Int32 × Int32 × Int32 × Int32 × Int32 × Int32 × Int32 × Int32 × (Nat → Int32) × (Nat → Int32) × Int32) :=
bv_16 (pf_X2_copyFrom t_aside_size t_aside_off t_aside_worth t_aside_stuck t_aside_seenX t_aside_seenCode t_now_bits t_now_size t_now_off t_now_worth t_now_stuck t_now_offset t_now_band t_now_rule t_now_noise t_now_step t_now_draws t_now_heat t_now_hour t_now_seenX t_now_seenCode t_now_seenCount) fun x1 f2 f3 f4 f5 x6 x7 x8 x9 x10 x11 x12 x13 f14 f15 x16 =>
some (x1, f2, f3, f4, f5, x6, x7, 3, 0, x10, x11, x12, x13, f14, f15, x16)

noncomputable def lp_X7_crowd_59 (a2 : Int32) (a3 : Int32) (a4 : Int32) (a5 : Int32) (x5 : Int32) (f6 : Nat → Int32) (x10 : Int32) (x11 : Int32) (x12 : Int32) (x13 : Int32) (x14 : Int32) (x16 : Int32) (x17 : Int32) (f18 : Nat → Int32) (f19 : Nat → Int32) (x20 : Int32) : Nat → Int32 → Int32 → (Nat → Int32) → (Nat → Int32) → (Nat → Int32) → Int32 → Int32 → (Nat → Int32) → (Nat → Int32) → (Nat → Int32) → (Nat → Int32) → Int32 → Int32 → Int32 → Int32 → Int32 → Int32 → (Nat → Int32) → Int32 → Int32 → Int32 → Int32 → Int32 → Int32 → Int32 → Int32 → Int32 → Int32 → Int32 → Option (Int32 × Int32 × (Nat → Int32) × (Nat → Int32) × (Nat → Int32) × (Nat → Int32) × Int32 × Int32 × Int32 × Int32 × Int32 × Int32 × Int32 × Int32 × (Nat → Int32) × (Nat → Int32) × Int32 × Int32 × (Nat → Int32) × (Nat → Int32) × (Nat → Int32) × (Nat → Int32) × Int32 × Int32 × Int32 × Int32 × Int32 × Int32 × (Nat → Int32) × Int32 × Int32 × Int32 × Int32 × Int32 × Int32 × Int32 × Int32 × Int32 × Int32 × Int32)
  | 0, _, _, _, _, _, _, _, _, _, _, _, _, _, _, _, _, _, _, _, _, _, _, _, _, _, _, _, _, _ => none
  | n + 1, x21, x22, f23, f24, f25, x26, x27, f28, f29, f30, f31, x32, x33, x34, x35, x36, x37, f38, x39, x40, x41, x42, x43, x44, x45, x46, x47, x48, x49 =>
    if a2 ≤ x22 then
      some (x21, x5, f6, f23, f24, f25, x10, x11, x12, x13, x14, x26, x16, x17, f18, f19, x20, x27, f28, f29, f30, f31, x32, x33, x34, x35, x36, x37, f38, x39, x40, x41, x42, x43, x44, x45, x46, x47, x48, x49)
    else
      bv_4 (pf_X2_drawOffs a3 x5 f6 f23 f24 f25 x26) fun f50 f51 f52 x53 =>
      bi_12 (pf_X4_isWhole f38 x5 f6 f50 f51 f52 x10 x14) fun r54 f55 x56 x57 x58 x59 x60 x61 x62 x63 x64 x65 x66 =>
      bv_13 (pf_X2_learnFrom a4 1 x5 f6 f50 f51 f52 x10 x11 x12 x13 x14 x53 x27 f28 f29 f30 f31 x32 x33 x34 x35 x36 x37) fun f67 x68 x69 f70 f71 f72 f73 x74 x75 x76 x77 x78 x79 =>
      bi_12 (pf_X4_isWhole f55 x5 f6 f50 f67 f52 x10 x14) fun r80 f81 x82 x83 x84 x85 x86 x87 x88 x89 x90 x91 x92 =>
      if a5 = 0 then
        if r54 = 0 then
          nm (x22 + 1) fun x100 =>
          lp_X7_crowd_59 a2 a3 a4 a5 x5 f6 x10 x11 x12 x13 x14 x16 x17 f18 f19 x20 n x21 x100 f50 f67 f52 x68 x69 f70 f71 f72 f73 x74 x75 x76 x77 x78 x79 f81 x82 x83 x84 x85 x86 x87 x88 x89 x90 x91 x92
        else
          nm (x21 + 1) fun x101 =>
          nm (x22 + 1) fun x102 =>
          lp_X7_crowd_59 a2 a3 a4 a5 x5 f6 x10 x11 x12 x13 x14 x16 x17 f18 f19 x20 n x101 x102 f50 f67 f52 x68 x69 f70 f71 f72 f73 x74 x75 x76 x77 x78 x79 f81 x82 x83 x84 x85 x86 x87 x88 x89 x90 x91 x92
      else
        if a5 = 1 then
          if r80 = 0 then
            nm (x22 + 1) fun x97 =>
            lp_X7_crowd_59 a2 a3 a4 a5 x5 f6 x10 x11 x12 x13 x14 x16 x17 f18 f19 x20 n x21 x97 f50 f67 f52 x68 x69 f70 f71 f72 f73 x74 x75 x76 x77 x78 x79 f81 x82 x83 x84 x85 x86 x87 x88 x89 x90 x91 x92
          else
            nm (x21 + 1) fun x98 =>
            nm (x22 + 1) fun x99 =>
            lp_X7_crowd_59 a2 a3 a4 a5 x5 f6 x10 x11 x12 x13 x14 x16 x17 f18 f19 x20 n x98 x99 f50 f67 f52 x68 x69 f70 f71 f72 f73 x74 x75 x76 x77 x78 x79 f81 x82 x83 x84 x85 x86 x87 x88 x89 x90 x91 x92
        else
          if r80 = 0 then
            nm (x22 + 1) fun x93 =>
            lp_X7_crowd_59 a2 a3 a4 a5 x5 f6 x10 x11 x12 x13 x14 x16 x17 f18 f19 x20 n x21 x93 f50 f67 f52 x68 x69 f70 f71 f72 f73 x74 x75 x76 x77 x78 x79 f81 x82 x83 x84 x85 x86 x87 x88 x89 x90 x91 x92
          else
            if r54 = 0 then
              nm (x21 + 1) fun x95 =>
              nm (x22 + 1) fun x96 =>
              lp_X7_crowd_59 a2 a3 a4 a5 x5 f6 x10 x11 x12 x13 x14 x16 x17 f18 f19 x20 n x95 x96 f50 f67 f52 x68 x69 f70 f71 f72 f73 x74 x75 x76 x77 x78 x79 f81 x82 x83 x84 x85 x86 x87 x88 x89 x90 x91 x92
            else
              nm (x22 + 1) fun x94 =>
              lp_X7_crowd_59 a2 a3 a4 a5 x5 f6 x10 x11 x12 x13 x14 x16 x17 f18 f19 x20 n x21 x94 f50 f67 f52 x68 x69 f70 f71 f72 f73 x74 x75 x76 x77 x78 x79 f81 x82 x83 x84 x85 x86 x87 x88 x89 x90 x91 x92
noncomputable def pf_X7_crowd (a1 : Int32) (a2 : Int32) (a3 : Int32) (a4 : Int32) (a5 : Int32) (t_aside_bits : Int32) (t_aside_size : Nat → Int32) (t_aside_off : Nat → Int32) (t_aside_worth : Nat → Int32) (t_aside_stuck : Nat → Int32) (t_aside_offset : Int32) (t_aside_band : Int32) (t_aside_rule : Int32) (t_aside_noise : Int32) (t_aside_step : Int32) (t_aside_draws : Int32) (t_aside_heat : Int32) (t_aside_hour : Int32) (t_aside_seenX : Nat → Int32) (t_aside_seenCode : Nat → Int32) (t_aside_seenCount : Int32) (t_now_bits : Int32) (t_now_size : Nat → Int32) (t_now_off : Nat → Int32) (t_now_worth : Nat → Int32) (t_now_stuck : Nat → Int32) (t_now_offset : Int32) (t_now_band : Int32) (t_now_rule : Int32) (t_now_noise : Int32) (t_now_step : Int32) (t_now_draws : Int32) (t_now_heat : Int32) (t_now_hour : Int32) (t_now_seenX : Nat → Int32) (t_now_seenCode : Nat → Int32) (t_now_seenCount : Int32) (t_passing_bits : Int32) (t_passing_one : Nat → Int32) (t_passing_late : Nat → Int32) (t_passing_apart : Nat → Int32) (t_passing_held : Nat → Int32) (t_passing_sum : Int32) (t_passing_heldAtEnd : Int32) (t_passing_left : Int32) (t_passing_lates : Int32) (t_passing_ones : Int32) (t_passing_code : Int32) (t_tally_entry : Nat → Int32) (t_tally_count : Int32) (t_tally_falls : Int32) (t_tally_offBy : Int32) (t_tally_offAt : Int32) (t_tally_unlike : Int32) (t_tally_most : Int32) (t_tally_mostCome : Int32) (t_tally_least : Int32) (t_tally_greatest : Int32) (t_tally_missing : Int32) (t_tally_firstMissing : Int32) : Option (Int32 × Int32 × (Nat → Int32) × (Nat → Int32) × (Nat → Int32) × (Nat → Int32) × Int32 × Int32 × Int32 × Int32 × Int32 × Int32 × Int32 × Int32 × (Nat → Int32) × (Nat → Int32) × Int32 × Int32 × (Nat → Int32) × (Nat → Int32) × (Nat → Int32) × (Nat → Int32) × Int32 × Int32 × Int32 × Int32 × Int32 × Int32 × (Nat → Int32) × Int32 × Int32 × Int32 × Int32 × Int32 × Int32 × Int32 × Int32 × Int32 × Int32 × Int32) :=
bi_0 (pf_X7_within a2 1 20) fun r1 =>
if r1 = 0 then
  some ((-1), t_aside_bits, t_aside_size, t_aside_off, t_aside_worth, t_aside_stuck, t_aside_offset, t_aside_band, t_aside_rule, t_aside_noise, t_aside_step, t_aside_draws, t_aside_heat, t_aside_hour, t_aside_seenX, t_aside_seenCode, t_aside_seenCount, t_passing_bits, t_passing_one, t_passing_late, t_passing_apart, t_passing_held, t_passing_sum, t_passing_heldAtEnd, t_passing_left, t_passing_lates, t_passing_ones, t_passing_code, t_tally_entry, t_tally_count, t_tally_falls, t_tally_offBy, t_tally_offAt, t_tally_unlike, t_tally_most, t_tally_mostCome, t_tally_least, t_tally_greatest, t_tally_missing, t_tally_firstMissing)
else
  bi_0 (pf_X7_within a3 0 99) fun r2 =>
  if r2 = 0 then
    some ((-1), t_aside_bits, t_aside_size, t_aside_off, t_aside_worth, t_aside_stuck, t_aside_offset, t_aside_band, t_aside_rule, t_aside_noise, t_aside_step, t_aside_draws, t_aside_heat, t_aside_hour, t_aside_seenX, t_aside_seenCode, t_aside_seenCount, t_passing_bits, t_passing_one, t_passing_late, t_passing_apart, t_passing_held, t_passing_sum, t_passing_heldAtEnd, t_passing_left, t_passing_lates, t_passing_ones, t_passing_code, t_tally_entry, t_tally_count, t_tally_falls, t_tally_offBy, t_tally_offAt, t_tally_unlike, t_tally_most, t_tally_mostCome, t_tally_least, t_tally_greatest, t_tally_missing, t_tally_firstMissing)
  else
    bi_0 (pf_X7_within a5 0 2) fun r3 =>
    if r3 = 0 then
      some ((-1), t_aside_bits, t_aside_size, t_aside_off, t_aside_worth, t_aside_stuck, t_aside_offset, t_aside_band, t_aside_rule, t_aside_noise, t_aside_step, t_aside_draws, t_aside_heat, t_aside_hour, t_aside_seenX, t_aside_seenCode, t_aside_seenCount, t_passing_bits, t_passing_one, t_passing_late, t_passing_apart, t_passing_held, t_passing_sum, t_passing_heldAtEnd, t_passing_left, t_passing_lates, t_passing_ones, t_passing_code, t_tally_entry, t_tally_count, t_tally_falls, t_tally_offBy, t_tally_offAt, t_tally_unlike, t_tally_most, t_tally_mostCome, t_tally_least, t_tally_greatest, t_tally_missing, t_tally_firstMissing)
    else
      bi_0 (pf_X7_canLearnByCodes a4 t_now_bits t_now_size t_now_step) fun r4 =>
      if r4 = 0 then
        some ((-1), t_aside_bits, t_aside_size, t_aside_off, t_aside_worth, t_aside_stuck, t_aside_offset, t_aside_band, t_aside_rule, t_aside_noise, t_aside_step, t_aside_draws, t_aside_heat, t_aside_hour, t_aside_seenX, t_aside_seenCode, t_aside_seenCount, t_passing_bits, t_passing_one, t_passing_late, t_passing_apart, t_passing_held, t_passing_sum, t_passing_heldAtEnd, t_passing_left, t_passing_lates, t_passing_ones, t_passing_code, t_tally_entry, t_tally_count, t_tally_falls, t_tally_offBy, t_tally_offAt, t_tally_unlike, t_tally_most, t_tally_mostCome, t_tally_least, t_tally_greatest, t_tally_missing, t_tally_firstMissing)
      else
        bv_16 (pf_X7_setAsideOnPaper t_aside_size t_aside_off t_aside_worth t_aside_stuck t_aside_seenX t_aside_seenCode t_now_bits t_now_size t_now_off t_now_worth t_now_stuck t_now_offset t_now_band t_now_rule t_now_noise t_now_step t_now_draws t_now_heat t_now_hour t_now_seenX t_now_seenCode t_now_seenCount) fun x5 f6 f7 f8 f9 x10 x11 x12 x13 x14 x15 x16 x17 f18 f19 x20 =>
        lp_X7_crowd_59 a2 a3 a4 a5 x5 f6 x10 x11 x12 x13 x14 x16 x17 f18 f19 x20 FU 0 0 f7 f8 f9 a1 t_passing_bits t_passing_one t_passing_late t_passing_apart t_passing_held t_passing_sum t_passing_heldAtEnd t_passing_left t_passing_lates t_passing_ones t_passing_code t_tally_entry t_tally_count t_tally_falls t_tally_offBy t_tally_offAt t_tally_unlike t_tally_most t_tally_mostCome t_tally_least t_tally_greatest t_tally_missing t_tally_firstMissing

noncomputable def pf_X7_isDrawable (a0 : Int32) (a1 : Int32) : Option (Int32 × Unit) :=
bi_0 (pf_X7_within a0 2 12) fun r1 =>
if r1 = 0 then
  some (0, ())
else
  bi_0 (pf_X7_within a1 0 100) fun r2 =>
  if r2 = 0 then
    some (0, ())
  else
    some (1, ())

noncomputable def pf_X7_drawn (a1 : Int32) (a2 : Int32) (a3 : Int32) (a4 : Int32) (t_aside_bits : Int32) (t_aside_size : Nat → Int32) (t_aside_off : Nat → Int32) (t_aside_worth : Nat → Int32) (t_aside_stuck : Nat → Int32) : Option (Int32 × Int32 × (Nat → Int32) × (Nat → Int32) × (Nat → Int32) × (Nat → Int32)) :=
bi_0 (pf_X7_isDrawable a1 a2) fun r1 =>
if r1 = 0 then
  some ((-1), t_aside_bits, t_aside_size, t_aside_off, t_aside_worth, t_aside_stuck)
else
  bi_0 (pf_X7_within a4 0 1) fun r2 =>
  if r2 = 0 then
    some ((-1), t_aside_bits, t_aside_size, t_aside_off, t_aside_worth, t_aside_stuck)
  else
    bv_5 (pf_X2_drawWeights a1 a2 t_aside_size t_aside_off t_aside_worth t_aside_stuck) fun x3 f4 f5 f6 f7 =>
    if a4 = 1 then
      bi_0 (pf_X2_weightsBelow a1 x3 f4 f5) fun r9 =>
      some (r9, x3, f4, f5, f6, f7)
    else
      bi_0 (pf_X7_within a3 0 (a1 - 1)) fun r8 =>
      if r8 = 0 then
        some ((-1), x3, f4, f5, f6, f7)
      else
        ckI a3 12 <|
        some ((f4 a3.toNatClampNeg), x3, f4, f5, f6, f7)

noncomputable def pf_X7_isReach (a0 : Int32) : Option (Int32 × Unit) :=
bi_0 (pf_X7_within a0 1 4095) fun r1 =>
ckZ r1 <|
some (r1, ())

noncomputable def pf_X7_reachDrawn (a1 : Int32) (a2 : Int32) (t_aside_bits : Int32) (t_aside_size : Nat → Int32) (t_aside_off : Nat → Int32) (t_aside_worth : Nat → Int32) (t_aside_stuck : Nat → Int32) : Option (Int32 × Int32 × (Nat → Int32) × (Nat → Int32) × (Nat → Int32) × (Nat → Int32)) :=
bi_0 (pf_X7_isDrawable a1 a2) fun r1 =>
if r1 = 0 then
  some ((-1), t_aside_bits, t_aside_size, t_aside_off, t_aside_worth, t_aside_stuck)
else
  bv_5 (pf_X2_drawWeights a1 a2 t_aside_size t_aside_off t_aside_worth t_aside_stuck) fun x2 f3 f4 f5 f6 =>
  bi_0 (pf_X2_weightsBelow a1 x2 f3 f4) fun r7 =>
  some (r7, x2, f3, f4, f5, f6)

noncomputable def lp_X7_fewest_11 (a1 : Int32) (a2 : Int32) : Nat → Int32 → Int32 → (Nat → Int32) → (Nat → Int32) → (Nat → Int32) → (Nat → Int32) → Option (Int32 × Int32 × (Nat → Int32) × (Nat → Int32) × (Nat → Int32) × (Nat → Int32))
  | 0, _, _, _, _, _, _ => none
  | n + 1, x2, x3, f4, f5, f6, f7 =>
    if 12 < x2 then
      some ((-1), x3, f4, f5, f6, f7)
    else
      bi_5 (pf_X7_reachDrawn x2 a1 x3 f4 f5 f6 f7) fun r8 x9 f10 f11 f12 f13 =>
      if r8 < a2 then
        nm (x2 + 1) fun x14 =>
        lp_X7_fewest_11 a1 a2 n x14 x9 f10 f11 f12 f13
      else
        some (x2, x9, f10, f11, f12, f13)
noncomputable def pf_X7_fewest (a1 : Int32) (a2 : Int32) (t_aside_bits : Int32) (t_aside_size : Nat → Int32) (t_aside_off : Nat → Int32) (t_aside_worth : Nat → Int32) (t_aside_stuck : Nat → Int32) : Option (Int32 × Int32 × (Nat → Int32) × (Nat → Int32) × (Nat → Int32) × (Nat → Int32)) :=
bi_0 (pf_X7_isReach a2) fun r1 =>
if r1 = 0 then
  some ((-1), t_aside_bits, t_aside_size, t_aside_off, t_aside_worth, t_aside_stuck)
else
  lp_X7_fewest_11 a1 a2 FU 2 t_aside_bits t_aside_size t_aside_off t_aside_worth t_aside_stuck

noncomputable def lp_X7_loosest_11 (a1 : Int32) (a2 : Int32) : Nat → Int32 → Int32 → (Nat → Int32) → (Nat → Int32) → (Nat → Int32) → (Nat → Int32) → Option (Int32 × Int32 × (Nat → Int32) × (Nat → Int32) × (Nat → Int32) × (Nat → Int32))
  | 0, _, _, _, _, _, _ => none
  | n + 1, x2, x3, f4, f5, f6, f7 =>
    if 100 < x2 then
      some ((-1), x3, f4, f5, f6, f7)
    else
      bi_5 (pf_X7_reachDrawn a1 x2 x3 f4 f5 f6 f7) fun r8 x9 f10 f11 f12 f13 =>
      if r8 < a2 then
        nm (x2 + 1) fun x14 =>
        lp_X7_loosest_11 a1 a2 n x14 x9 f10 f11 f12 f13
      else
        some (x2, x9, f10, f11, f12, f13)
noncomputable def pf_X7_loosest (a1 : Int32) (a2 : Int32) (t_aside_bits : Int32) (t_aside_size : Nat → Int32) (t_aside_off : Nat → Int32) (t_aside_worth : Nat → Int32) (t_aside_stuck : Nat → Int32) : Option (Int32 × Int32 × (Nat → Int32) × (Nat → Int32) × (Nat → Int32) × (Nat → Int32)) :=
bi_0 (pf_X7_isReach a2) fun r1 =>
if r1 = 0 then
  some ((-1), t_aside_bits, t_aside_size, t_aside_off, t_aside_worth, t_aside_stuck)
else
  lp_X7_loosest_11 a1 a2 FU 0 t_aside_bits t_aside_size t_aside_off t_aside_worth t_aside_stuck

noncomputable def pf_X7_draw (a1 : Int32) (a2 : Int32) (t_latest_bits : Int32) (t_now_bits : Int32) (t_now_size : Nat → Int32) (t_now_off : Nat → Int32) (t_now_worth : Nat → Int32) (t_now_stuck : Nat → Int32) (t_now_seenCount : Int32) : Option (Int32 × Int32 × Int32 × (Nat → Int32) × (Nat → Int32) × (Nat → Int32) × (Nat → Int32) × Int32) :=
bi_0 (pf_X7_isDrawable a1 a2) fun r1 =>
if r1 = 0 then
  some (0, t_latest_bits, t_now_bits, t_now_size, t_now_off, t_now_worth, t_now_stuck, t_now_seenCount)
else
  bv_5 (pf_X2_drawWeights a1 a2 t_now_size t_now_off t_now_worth t_now_stuck) fun x2 f3 f4 f5 f6 =>
  some (1, 0, x2, f3, f4, f5, f6, 0)

noncomputable def lp_X7_due_45 (a1 : Int32) (a2 : Int32) (t_now_drift_steps : Int32) (t_now_drift_kind : Nat → Int32) (t_now_drift_value : Nat → Int32) (x2 : Int32) (f3 : Nat → Int32) (f5 : Nat → Int32) (f6 : Nat → Int32) (x7 : Int32) (x8 : Int32) (x9 : Int32) (x10 : Int32) (x11 : Int32) (x12 : Int32) (x13 : Int32) (f15 : Nat → Int32) (f16 : Nat → Int32) (x17 : Int32) : Nat → Int32 → (Nat → Int32) → Int32 → (Nat → Int32) → Int32 → (Nat → Int32) → Int32 → Int32 → Int32 → Int32 → Option (Int32 × Int32 × (Nat → Int32) × (Nat → Int32) × (Nat → Int32) × (Nat → Int32) × Int32 × Int32 × Int32 × Int32 × Int32 × Int32 × Int32 × Int32 × (Nat → Int32) × (Nat → Int32) × Int32 × (Nat → Int32) × Int32 × (Nat → Int32) × Int32 × Int32 × Int32 × Int32)
  | 0, _, _, _, _, _, _, _, _, _, _ => none
  | n + 1, x18, f19, x20, f21, x22, f23, x24, x25, x26, x27 =>
    if 100 < x18 then
      some ((-1), x2, f3, f19, f5, f6, x7, x8, x9, x10, x11, x12, x13, x20, f15, f16, x17, f21, x22, f23, x24, x25, x26, x27)
    else
      bv_5 (pf_X4_measure 0 a2 x11 f23 x2 f3 f19 f5 f6 x7 x11) fun f28 x29 x30 x31 x32 =>
      if x31 ≤ a1 then
        bi_4 (pf_X2_passHour x2 f3 f19 x13 x20 t_now_drift_kind t_now_drift_value f21 t_now_drift_steps x22) fun r33 f34 x35 f36 x37 =>
        nm (x18 + 1) fun x38 =>
        lp_X7_due_45 a1 a2 t_now_drift_steps t_now_drift_kind t_now_drift_value x2 f3 f5 f6 x7 x8 x9 x10 x11 x12 x13 f15 f16 x17 n x38 f34 x35 f36 x37 f28 x29 x30 x31 x32
      else
        some (x18, x2, f3, f19, f5, f6, x7, x8, x9, x10, x11, x12, x13, x20, f15, f16, x17, f21, x22, f28, x29, x30, x31, x32)
noncomputable def pf_X7_due (a1 : Int32) (a2 : Int32) (t_aside_bits : Int32) (t_aside_size : Nat → Int32) (t_aside_off : Nat → Int32) (t_aside_worth : Nat → Int32) (t_aside_stuck : Nat → Int32) (t_aside_offset : Int32) (t_aside_band : Int32) (t_aside_rule : Int32) (t_aside_noise : Int32) (t_aside_step : Int32) (t_aside_draws : Int32) (t_aside_heat : Int32) (t_aside_hour : Int32) (t_aside_seenX : Nat → Int32) (t_aside_seenCode : Nat → Int32) (t_aside_seenCount : Int32) (t_now_bits : Int32) (t_now_size : Nat → Int32) (t_now_off : Nat → Int32) (t_now_worth : Nat → Int32) (t_now_stuck : Nat → Int32) (t_now_offset : Int32) (t_now_band : Int32) (t_now_rule : Int32) (t_now_noise : Int32) (t_now_step : Int32) (t_now_draws : Int32) (t_now_heat : Int32) (t_now_hour : Int32) (t_now_seenX : Nat → Int32) (t_now_seenCode : Nat → Int32) (t_now_seenCount : Int32) (t_now_drift_kind : Nat → Int32) (t_now_drift_value : Nat → Int32) (t_now_drift_stack : Nat → Int32) (t_now_drift_steps : Int32) (t_now_drift_height : Int32) (t_tally_entry : Nat → Int32) (t_tally_count : Int32) (t_tally_falls : Int32) (t_tally_offBy : Int32) (t_tally_offAt : Int32) : Option (Int32 × Int32 × (Nat → Int32) × (Nat → Int32) × (Nat → Int32) × (Nat → Int32) × Int32 × Int32 × Int32 × Int32 × Int32 × Int32 × Int32 × Int32 × (Nat → Int32) × (Nat → Int32) × Int32 × (Nat → Int32) × Int32 × (Nat → Int32) × Int32 × Int32 × Int32 × Int32) :=
if t_now_bits = 0 then
  some ((-2), t_aside_bits, t_aside_size, t_aside_off, t_aside_worth, t_aside_stuck, t_aside_offset, t_aside_band, t_aside_rule, t_aside_noise, t_aside_step, t_aside_draws, t_aside_heat, t_aside_hour, t_aside_seenX, t_aside_seenCode, t_aside_seenCount, t_now_drift_stack, t_now_drift_height, t_tally_entry, t_tally_count, t_tally_falls, t_tally_offBy, t_tally_offAt)
else
  if a1 < 0 then
    some ((-2), t_aside_bits, t_aside_size, t_aside_off, t_aside_worth, t_aside_stuck, t_aside_offset, t_aside_band, t_aside_rule, t_aside_noise, t_aside_step, t_aside_draws, t_aside_heat, t_aside_hour, t_aside_seenX, t_aside_seenCode, t_aside_seenCount, t_now_drift_stack, t_now_drift_height, t_tally_entry, t_tally_count, t_tally_falls, t_tally_offBy, t_tally_offAt)
  else
    bi_0 (pf_X7_isSpan 0 a2 t_now_step) fun r1 =>
    if r1 = 0 then
      some ((-2), t_aside_bits, t_aside_size, t_aside_off, t_aside_worth, t_aside_stuck, t_aside_offset, t_aside_band, t_aside_rule, t_aside_noise, t_aside_step, t_aside_draws, t_aside_heat, t_aside_hour, t_aside_seenX, t_aside_seenCode, t_aside_seenCount, t_now_drift_stack, t_now_drift_height, t_tally_entry, t_tally_count, t_tally_falls, t_tally_offBy, t_tally_offAt)
    else
      bv_16 (pf_X2_copyFrom t_aside_size t_aside_off t_aside_worth t_aside_stuck t_aside_seenX t_aside_seenCode t_now_bits t_now_size t_now_off t_now_worth t_now_stuck t_now_offset t_now_band t_now_rule t_now_noise t_now_step t_now_draws t_now_heat t_now_hour t_now_seenX t_now_seenCode t_now_seenCount) fun x2 f3 f4 f5 f6 x7 x8 x9 x10 x11 x12 x13 x14 f15 f16 x17 =>
      lp_X7_due_45 a1 a2 t_now_drift_steps t_now_drift_kind t_now_drift_value x2 f3 f5 f6 x7 x8 x9 x10 x11 x12 x13 f15 f16 x17 FU 0 f4 x14 t_now_drift_stack t_now_drift_height t_tally_entry t_tally_count t_tally_falls t_tally_offBy t_tally_offAt

noncomputable def lp_X7_plan_45 (a1 : Int32) (a2 : Int32) (t_now_drift_steps : Int32) (t_now_drift_kind : Nat → Int32) (t_now_drift_value : Nat → Int32) (x4 : Int32) (f5 : Nat → Int32) (f8 : Nat → Int32) (x9 : Int32) (x10 : Int32) (x11 : Int32) (x12 : Int32) (x13 : Int32) (x15 : Int32) (J133 : Int32 → Int32 → Int32 → (Nat → Int32) → (Nat → Int32) → Int32 → Int32 → (Nat → Int32) → Int32 → Int32 → (Nat → Int32) → (Nat → Int32) → (Nat → Int32) → (Nat → Int32) → Int32 → Int32 → Int32 → Int32 → Int32 → Int32 → (Nat → Int32) → Int32 → Int32 → Int32 → Int32 → Int32 → Int32 → Int32 → Int32 → Int32 → Int32 → Int32 → Option (Int32 × Int32 × (Nat → Int32) × (Nat → Int32) × (Nat → Int32) × (Nat → Int32) × Int32 × Int32 × Int32 × Int32 × Int32 × Int32 × Int32 × Int32 × (Nat → Int32) × (Nat → Int32) × Int32 × (Nat → Int32) × Int32 × Int32 × (Nat → Int32) × (Nat → Int32) × (Nat → Int32) × (Nat → Int32) × Int32 × Int32 × Int32 × Int32 × Int32 × Int32 × (Nat → Int32) × Int32 × Int32 × Int32 × Int32 × Int32 × Int32 × Int32 × Int32 × Int32 × Int32 × Int32)) : Nat → Int32 → Int32 → Int32 → Int32 → (Nat → Int32) → (Nat → Int32) → Int32 → Int32 → (Nat → Int32) → Int32 → Int32 → (Nat → Int32) → (Nat → Int32) → (Nat → Int32) → (Nat → Int32) → Int32 → Int32 → Int32 → Int32 → Int32 → Int32 → (Nat → Int32) → Int32 → Int32 → Int32 → Int32 → Int32 → Int32 → Int32 → Int32 → Int32 → Int32 → Int32 → Option (Int32 × Int32 × (Nat → Int32) × (Nat → Int32) × (Nat → Int32) × (Nat → Int32) × Int32 × Int32 × Int32 × Int32 × Int32 × Int32 × Int32 × Int32 × (Nat → Int32) × (Nat → Int32) × Int32 × (Nat → Int32) × Int32 × Int32 × (Nat → Int32) × (Nat → Int32) × (Nat → Int32) × (Nat → Int32) × Int32 × Int32 × Int32 × Int32 × Int32 × Int32 × (Nat → Int32) × Int32 × Int32 × Int32 × Int32 × Int32 × Int32 × Int32 × Int32 × Int32 × Int32 × Int32)
  | 0, _, _, _, _, _, _, _, _, _, _, _, _, _, _, _, _, _, _, _, _, _, _, _, _, _, _, _, _, _, _, _, _, _ => none
  | n + 1, x52, x53, x54, x55, f56, f57, x58, x59, f60, x61, x62, f63, f64, f65, f66, x67, x68, x69, x70, x71, x72, f73, x74, x75, x76, x77, x78, x79, x80, x81, x82, x83, x84 =>
    if a2 ≤ x55 then
      J133 x52 x53 x54 f56 f57 x58 x59 f60 x61 x62 f63 f64 f65 f66 x67 x68 x69 x70 x71 x72 f73 x74 x75 x76 x77 x78 x79 x80 x81 x82 x83 x84
    else
      bi_12 (pf_X4_isWhole f73 x4 f5 f56 f57 f8 x9 x13) fun r85 f86 x87 x88 x89 x90 x91 x92 x93 x94 x95 x96 x97 =>
      jn (fun (x98 : Int32) (x99 : Int32) (x100 : Int32) (f101 : Nat → Int32) (x102 : Int32) (x103 : Int32) (f104 : Nat → Int32) (f105 : Nat → Int32) (f106 : Nat → Int32) (f107 : Nat → Int32) (x108 : Int32) (x109 : Int32) (x110 : Int32) (x111 : Int32) (x112 : Int32) (x113 : Int32) (f114 : Nat → Int32) (x115 : Int32) (x116 : Int32) (x117 : Int32) (x118 : Int32) (x119 : Int32) (x120 : Int32) (x121 : Int32) (x122 : Int32) (x123 : Int32) (x124 : Int32) (x125 : Int32) =>
      bi_4 (pf_X2_passHour x4 f5 f56 x15 x59 t_now_drift_kind t_now_drift_value f60 t_now_drift_steps x61) fun r126 f127 x128 f129 x130 =>
      nm (x55 + 1) fun x131 =>
      lp_X7_plan_45 a1 a2 t_now_drift_steps t_now_drift_kind t_now_drift_value x4 f5 f8 x9 x10 x11 x12 x13 x15 J133 n x98 x99 x100 x131 f127 f101 x102 x128 f129 x130 x103 f104 f105 f106 f107 x108 x109 x110 x111 x112 x113 f114 x115 x116 x117 x118 x119 x120 x121 x122 x123 x124 x125) fun J119 =>
      if r85 = 0 then
        jn (fun (x132 : Int32) =>
        nm (x52 + 1) fun x133 =>
        bv_13 (pf_X2_learnFrom a1 1 x4 f5 f56 f57 f8 x9 x10 x11 x12 x13 x58 x62 f63 f64 f65 f66 x67 x68 x69 x70 x71 x72) fun f134 x135 x136 f137 f138 f139 f140 x141 x142 x143 x144 x145 x146 =>
        bi_12 (pf_X4_isWhole f86 x4 f5 f56 f134 f8 x9 x13) fun r147 f148 x149 x150 x151 x152 x153 x154 x155 x156 x157 x158 x159 =>
        jn (fun (x160 : Int32) =>
        nm (x54 + x160) fun x161 =>
        J119 x133 x132 x161 f134 x135 x136 f137 f138 f139 f140 x141 x142 x143 x144 x145 x146 f148 x149 x150 x151 x152 x153 x154 x155 x156 x157 x158 x159) fun J116 =>
        if r147 = 0 then
          J116 1
        else
          J116 0) fun J77 =>
        if x52 = 0 then
          J77 x55
        else
          J77 x53
      else
        J119 x52 x53 x54 f57 x58 x62 f63 f64 f65 f66 x67 x68 x69 x70 x71 x72 f86 x87 x88 x89 x90 x91 x92 x93 x94 x95 x96 x97
noncomputable def pf_X7_plan (a1 : Int32) (a2 : Int32) (a3 : Int32) (t_aside_bits : Int32) (t_aside_size : Nat → Int32) (t_aside_off : Nat → Int32) (t_aside_worth : Nat → Int32) (t_aside_stuck : Nat → Int32) (t_aside_offset : Int32) (t_aside_band : Int32) (t_aside_rule : Int32) (t_aside_noise : Int32) (t_aside_step : Int32) (t_aside_draws : Int32) (t_aside_heat : Int32) (t_aside_hour : Int32) (t_aside_seenX : Nat → Int32) (t_aside_seenCode : Nat → Int32) (t_aside_seenCount : Int32) (t_now_bits : Int32) (t_now_size : Nat → Int32) (t_now_off : Nat → Int32) (t_now_worth : Nat → Int32) (t_now_stuck : Nat → Int32) (t_now_offset : Int32) (t_now_band : Int32) (t_now_rule : Int32) (t_now_noise : Int32) (t_now_step : Int32) (t_now_draws : Int32) (t_now_heat : Int32) (t_now_hour : Int32) (t_now_seenX : Nat → Int32) (t_now_seenCode : Nat → Int32) (t_now_seenCount : Int32) (t_now_drift_kind : Nat → Int32) (t_now_drift_value : Nat → Int32) (t_now_drift_stack : Nat → Int32) (t_now_drift_steps : Int32) (t_now_drift_height : Int32) (t_passing_bits : Int32) (t_passing_one : Nat → Int32) (t_passing_late : Nat → Int32) (t_passing_apart : Nat → Int32) (t_passing_held : Nat → Int32) (t_passing_sum : Int32) (t_passing_heldAtEnd : Int32) (t_passing_left : Int32) (t_passing_lates : Int32) (t_passing_ones : Int32) (t_passing_code : Int32) (t_tally_entry : Nat → Int32) (t_tally_count : Int32) (t_tally_falls : Int32) (t_tally_offBy : Int32) (t_tally_offAt : Int32) (t_tally_unlike : Int32) (t_tally_most : Int32) (t_tally_mostCome : Int32) (t_tally_least : Int32) (t_tally_greatest : Int32) (t_tally_missing : Int32) (t_tally_firstMissing : Int32) : Option (Int32 × Int32 × (Nat → Int32) × (Nat → Int32) × (Nat → Int32) × (Nat → Int32) × Int32 × Int32 × Int32 × Int32 × Int32 × Int32 × Int32 × Int32 × (Nat → Int32) × (Nat → Int32) × Int32 × (Nat → Int32) × Int32 × Int32 × (Nat → Int32) × (Nat → Int32) × (Nat → Int32) × (Nat → Int32) × Int32 × Int32 × Int32 × Int32 × Int32 × Int32 × (Nat → Int32) × Int32 × Int32 × Int32 × Int32 × Int32 × Int32 × Int32 × Int32 × Int32 × Int32 × Int32) :=
bi_0 (pf_X7_within a2 1 40) fun r1 =>
if r1 = 0 then
  some ((-1), t_aside_bits, t_aside_size, t_aside_off, t_aside_worth, t_aside_stuck, t_aside_offset, t_aside_band, t_aside_rule, t_aside_noise, t_aside_step, t_aside_draws, t_aside_heat, t_aside_hour, t_aside_seenX, t_aside_seenCode, t_aside_seenCount, t_now_drift_stack, t_now_drift_height, t_passing_bits, t_passing_one, t_passing_late, t_passing_apart, t_passing_held, t_passing_sum, t_passing_heldAtEnd, t_passing_left, t_passing_lates, t_passing_ones, t_passing_code, t_tally_entry, t_tally_count, t_tally_falls, t_tally_offBy, t_tally_offAt, t_tally_unlike, t_tally_most, t_tally_mostCome, t_tally_least, t_tally_greatest, t_tally_missing, t_tally_firstMissing)
else
  bi_0 (pf_X7_within a3 0 2) fun r2 =>
  if r2 = 0 then
    some ((-1), t_aside_bits, t_aside_size, t_aside_off, t_aside_worth, t_aside_stuck, t_aside_offset, t_aside_band, t_aside_rule, t_aside_noise, t_aside_step, t_aside_draws, t_aside_heat, t_aside_hour, t_aside_seenX, t_aside_seenCode, t_aside_seenCount, t_now_drift_stack, t_now_drift_height, t_passing_bits, t_passing_one, t_passing_late, t_passing_apart, t_passing_held, t_passing_sum, t_passing_heldAtEnd, t_passing_left, t_passing_lates, t_passing_ones, t_passing_code, t_tally_entry, t_tally_count, t_tally_falls, t_tally_offBy, t_tally_offAt, t_tally_unlike, t_tally_most, t_tally_mostCome, t_tally_least, t_tally_greatest, t_tally_missing, t_tally_firstMissing)
  else
    bi_0 (pf_X7_canLearnByCodes a1 t_now_bits t_now_size t_now_step) fun r3 =>
    if r3 = 0 then
      some ((-1), t_aside_bits, t_aside_size, t_aside_off, t_aside_worth, t_aside_stuck, t_aside_offset, t_aside_band, t_aside_rule, t_aside_noise, t_aside_step, t_aside_draws, t_aside_heat, t_aside_hour, t_aside_seenX, t_aside_seenCode, t_aside_seenCount, t_now_drift_stack, t_now_drift_height, t_passing_bits, t_passing_one, t_passing_late, t_passing_apart, t_passing_held, t_passing_sum, t_passing_heldAtEnd, t_passing_left, t_passing_lates, t_passing_ones, t_passing_code, t_tally_entry, t_tally_count, t_tally_falls, t_tally_offBy, t_tally_offAt, t_tally_unlike, t_tally_most, t_tally_mostCome, t_tally_least, t_tally_greatest, t_tally_missing, t_tally_firstMissing)
    else
      bv_16 (pf_X7_setAsideOnPaper t_aside_size t_aside_off t_aside_worth t_aside_stuck t_aside_seenX t_aside_seenCode t_now_bits t_now_size t_now_off t_now_worth t_now_stuck t_now_offset t_now_band t_now_rule t_now_noise t_now_step t_now_draws t_now_heat t_now_hour t_now_seenX t_now_seenCode t_now_seenCount) fun x4 f5 f6 f7 f8 x9 x10 x11 x12 x13 x14 x15 x16 f17 f18 x19 =>
      jn (fun (x20 : Int32) (x21 : Int32) (x22 : Int32) (f23 : Nat → Int32) (f24 : Nat → Int32) (x25 : Int32) (x26 : Int32) (f27 : Nat → Int32) (x28 : Int32) (x29 : Int32) (f30 : Nat → Int32) (f31 : Nat → Int32) (f32 : Nat → Int32) (f33 : Nat → Int32) (x34 : Int32) (x35 : Int32) (x36 : Int32) (x37 : Int32) (x38 : Int32) (x39 : Int32) (f40 : Nat → Int32) (x41 : Int32) (x42 : Int32) (x43 : Int32) (x44 : Int32) (x45 : Int32) (x46 : Int32) (x47 : Int32) (x48 : Int32) (x49 : Int32) (x50 : Int32) (x51 : Int32) =>
      if a3 = 0 then
        some (x20, x4, f5, f23, f24, f8, x9, x10, x11, x12, x13, x25, x15, x26, f17, f18, x19, f27, x28, x29, f30, f31, f32, f33, x34, x35, x36, x37, x38, x39, f40, x41, x42, x43, x44, x45, x46, x47, x48, x49, x50, x51)
      else
        if a3 = 1 then
          some (x21, x4, f5, f23, f24, f8, x9, x10, x11, x12, x13, x25, x15, x26, f17, f18, x19, f27, x28, x29, f30, f31, f32, f33, x34, x35, x36, x37, x38, x39, f40, x41, x42, x43, x44, x45, x46, x47, x48, x49, x50, x51)
        else
          some (x22, x4, f5, f23, f24, f8, x9, x10, x11, x12, x13, x25, x15, x26, f17, f18, x19, f27, x28, x29, f30, f31, f32, f33, x34, x35, x36, x37, x38, x39, f40, x41, x42, x43, x44, x45, x46, x47, x48, x49, x50, x51)) fun J133 =>
      lp_X7_plan_45 a1 a2 t_now_drift_steps t_now_drift_kind t_now_drift_value x4 f5 f8 x9 x10 x11 x12 x13 x15 J133 FU 0 (-1) 0 0 f6 f7 x14 x16 t_now_drift_stack t_now_drift_height t_passing_bits t_passing_one t_passing_late t_passing_apart t_passing_held t_passing_sum t_passing_heldAtEnd t_passing_left t_passing_lates t_passing_ones t_passing_code t_tally_entry t_tally_count t_tally_falls t_tally_offBy t_tally_offAt t_tally_unlike t_tally_most t_tally_mostCome t_tally_least t_tally_greatest t_tally_missing t_tally_firstMissing

noncomputable def pf_X7_see (a1 : Int32) (a2 : Int32) (t_now_seenX : Nat → Int32) (t_now_seenCode : Nat → Int32) (t_now_seenCount : Int32) : Option (Int32 × (Nat → Int32) × (Nat → Int32) × Int32) :=
bi_0 (pf_X7_isNear a1) fun r1 =>
if r1 = 0 then
  some ((-2), t_now_seenX, t_now_seenCode, t_now_seenCount)
else
  if t_now_seenCount < 8 then
    ckI t_now_seenCount 8 <|
    ckI t_now_seenCount 8 <|
    nm (t_now_seenCount + 1) fun x2 =>
    some (x2, (upd t_now_seenX t_now_seenCount.toNatClampNeg a1), (upd t_now_seenCode t_now_seenCount.toNatClampNeg a2), x2)
  else
    some ((-1), t_now_seenX, t_now_seenCode, t_now_seenCount)

noncomputable def pf_X7_wipe (t_now_seenCount : Int32) : Option (Int32 × Int32) :=
some (t_now_seenCount, 0)

noncomputable def pf_X7_explains (a1 : Int32) (a2 : Int32) (a3 : Int32) (t_aside_bits : Int32) (t_aside_size : Nat → Int32) (t_aside_off : Nat → Int32) (t_aside_worth : Nat → Int32) (t_aside_stuck : Nat → Int32) (t_aside_offset : Int32) (t_aside_step : Int32) (t_aside_seenX : Nat → Int32) (t_aside_seenCode : Nat → Int32) (t_aside_seenCount : Int32) (t_now_size : Nat → Int32) (t_now_off : Nat → Int32) (t_now_stuck : Nat → Int32) : Option (Int32 × (Nat → Int32) × (Nat → Int32)) :=
jn (fun (f1 : Nat → Int32) (f2 : Nat → Int32) =>
bi_0 (pf_X2_agreesWithSeen t_aside_bits t_aside_size f1 t_aside_worth f2 t_aside_offset t_aside_step t_aside_seenX t_aside_seenCode t_aside_seenCount) fun r3 =>
ckI a2 12 <|
nm (t_now_stuck a2.toNatClampNeg) fun x4 =>
ckI a2 12 <|
ckI a2 12 <|
nm (t_now_off a2.toNatClampNeg) fun x5 =>
ckI a2 12 <|
ckZ r3 <|
some (r3, (upd f1 a2.toNatClampNeg x5), (upd f2 a2.toNatClampNeg x4))) fun J57 =>
if a1 = 0 then
  ckI a2 12 <|
  J57 t_aside_off (upd t_aside_stuck a2.toNatClampNeg a3)
else
  if a3 = 0 then
    some (0, t_aside_off, t_aside_stuck)
  else
    bi_0 (pf_X2_weight a2 t_now_size t_now_off) fun r6 =>
    if 1 ≤ (r6 + a3) then
      ckI a2 12 <|
      nm ((t_now_off a2.toNatClampNeg) + a3) fun x7 =>
      ckI a2 12 <|
      J57 (upd t_aside_off a2.toNatClampNeg x7) t_aside_stuck
    else
      some (0, t_aside_off, t_aside_stuck)

noncomputable def lp_X7_faults_95 (a1 : Int32) (t_now_off : Nat → Int32) (t_now_size : Nat → Int32) (t_now_stuck : Nat → Int32) (x3 : Int32) (f4 : Nat → Int32) (f6 : Nat → Int32) (x8 : Int32) (x12 : Int32) (f16 : Nat → Int32) (f17 : Nat → Int32) (x18 : Int32) (x20 : Int32) (x29 : Int32) (B79 : Int32 → Int32 → Int32 → Int32 → (Nat → Int32) → (Nat → Int32) → Option (Int32 × Int32 × (Nat → Int32) × (Nat → Int32) × (Nat → Int32) × (Nat → Int32) × Int32 × Int32 × Int32 × Int32 × Int32 × Int32 × Int32 × Int32 × (Nat → Int32) × (Nat → Int32) × Int32)) : Nat → Int32 → Int32 → Int32 → Int32 → (Nat → Int32) → (Nat → Int32) → Option (Int32 × Int32 × (Nat → Int32) × (Nat → Int32) × (Nat → Int32) × (Nat → Int32) × Int32 × Int32 × Int32 × Int32 × Int32 × Int32 × Int32 × Int32 × (Nat → Int32) × (Nat → Int32) × Int32)
  | 0, _, _, _, _, _, _ => none
  | n + 1, x32, x33, x34, x35, f36, f37 =>
    if x20 < x35 then
      nm (x29 + 1) fun x38 =>
      B79 x32 x33 x34 x38 f36 f37
    else
      bi_2 (pf_X7_explains a1 x29 x35 x3 f4 f36 f6 f37 x8 x12 f16 f17 x18 t_now_size t_now_off t_now_stuck) fun r39 f40 f41 =>
      if r39 = 0 then
        nm (x35 + 1) fun x42 =>
        lp_X7_faults_95 a1 t_now_off t_now_size t_now_stuck x3 f4 f6 x8 x12 f16 f17 x18 x20 x29 B79 n x32 x33 x34 x42 f40 f41
      else
        jn (fun (x43 : Int32) =>
        if x32 = 0 then
          nm (x32 + 1) fun x46 =>
          nm (x35 + 1) fun x47 =>
          lp_X7_faults_95 a1 t_now_off t_now_size t_now_stuck x3 f4 f6 x8 x12 f16 f17 x18 x20 x29 B79 n x46 x43 x35 x47 f40 f41
        else
          nm (x32 + 1) fun x44 =>
          nm (x35 + 1) fun x45 =>
          lp_X7_faults_95 a1 t_now_off t_now_size t_now_stuck x3 f4 f6 x8 x12 f16 f17 x18 x20 x29 B79 n x44 x43 x34 x45 f40 f41) fun J125 =>
        if x32 = 0 then
          J125 x29
        else
          J125 x33
noncomputable def lp_X7_faults_79 (a1 : Int32) (t_now_bits : Int32) (t_now_off : Nat → Int32) (t_now_size : Nat → Int32) (t_now_stuck : Nat → Int32) (x3 : Int32) (f4 : Nat → Int32) (f6 : Nat → Int32) (x8 : Int32) (x12 : Int32) (f16 : Nat → Int32) (f17 : Nat → Int32) (x18 : Int32) (x19 : Int32) (x20 : Int32) (J155 : Int32 → Int32 → Int32 → (Nat → Int32) → (Nat → Int32) → Option (Int32 × Int32 × (Nat → Int32) × (Nat → Int32) × (Nat → Int32) × (Nat → Int32) × Int32 × Int32 × Int32 × Int32 × Int32 × Int32 × Int32 × Int32 × (Nat → Int32) × (Nat → Int32) × Int32)) : Nat → Int32 → Int32 → Int32 → Int32 → (Nat → Int32) → (Nat → Int32) → Option (Int32 × Int32 × (Nat → Int32) × (Nat → Int32) × (Nat → Int32) × (Nat → Int32) × Int32 × Int32 × Int32 × Int32 × Int32 × Int32 × Int32 × Int32 × (Nat → Int32) × (Nat → Int32) × Int32)
  | 0, _, _, _, _, _, _ => none
  | n + 1, x26, x27, x28, x29, f30, f31 =>
    if t_now_bits ≤ x29 then
      J155 x26 x27 x28 f30 f31
    else
      jn (fun (x26' : Int32) (x27' : Int32) (x28' : Int32) (x29' : Int32) (f30' : Nat → Int32) (f31' : Nat → Int32) => lp_X7_faults_79 a1 t_now_bits t_now_off t_now_size t_now_stuck x3 f4 f6 x8 x12 f16 f17 x18 x19 x20 J155 n x26' x27' x28' x29' f30' f31') fun B79 =>
      lp_X7_faults_95 a1 t_now_off t_now_size t_now_stuck x3 f4 f6 x8 x12 f16 f17 x18 x20 x29 B79 FU x26 x27 x28 x19 f30 f31
noncomputable def pf_X7_faults (a1 : Int32) (a2 : Int32) (t_aside_bits : Int32) (t_aside_size : Nat → Int32) (t_aside_off : Nat → Int32) (t_aside_worth : Nat → Int32) (t_aside_stuck : Nat → Int32) (t_aside_offset : Int32) (t_aside_band : Int32) (t_aside_rule : Int32) (t_aside_noise : Int32) (t_aside_step : Int32) (t_aside_draws : Int32) (t_aside_heat : Int32) (t_aside_hour : Int32) (t_aside_seenX : Nat → Int32) (t_aside_seenCode : Nat → Int32) (t_aside_seenCount : Int32) (t_now_bits : Int32) (t_now_size : Nat → Int32) (t_now_off : Nat → Int32) (t_now_worth : Nat → Int32) (t_now_stuck : Nat → Int32) (t_now_offset : Int32) (t_now_band : Int32) (t_now_rule : Int32) (t_now_noise : Int32) (t_now_step : Int32) (t_now_draws : Int32) (t_now_heat : Int32) (t_now_hour : Int32) (t_now_seenX : Nat → Int32) (t_now_seenCode : Nat → Int32) (t_now_seenCount : Int32) : Option (Int32 × Int32 × (Nat → Int32) × (Nat → Int32) × (Nat → Int32) × (Nat → Int32) × Int32 × Int32 × Int32 × Int32 × Int32 × Int32 × Int32 × Int32 × (Nat → Int32) × (Nat → Int32) × Int32) :=
if t_now_bits = 0 then
  some ((-100), t_aside_bits, t_aside_size, t_aside_off, t_aside_worth, t_aside_stuck, t_aside_offset, t_aside_band, t_aside_rule, t_aside_noise, t_aside_step, t_aside_draws, t_aside_heat, t_aside_hour, t_aside_seenX, t_aside_seenCode, t_aside_seenCount)
else
  bi_0 (pf_X7_within a1 0 1) fun r1 =>
  if r1 = 0 then
    some ((-100), t_aside_bits, t_aside_size, t_aside_off, t_aside_worth, t_aside_stuck, t_aside_offset, t_aside_band, t_aside_rule, t_aside_noise, t_aside_step, t_aside_draws, t_aside_heat, t_aside_hour, t_aside_seenX, t_aside_seenCode, t_aside_seenCount)
  else
    bi_0 (pf_X7_within a2 0 2) fun r2 =>
    if r2 = 0 then
      some ((-100), t_aside_bits, t_aside_size, t_aside_off, t_aside_worth, t_aside_stuck, t_aside_offset, t_aside_band, t_aside_rule, t_aside_noise, t_aside_step, t_aside_draws, t_aside_heat, t_aside_hour, t_aside_seenX, t_aside_seenCode, t_aside_seenCount)
    else
      bv_16 (pf_X2_copyFrom t_aside_size t_aside_off t_aside_worth t_aside_stuck t_aside_seenX t_aside_seenCode t_now_bits t_now_size t_now_off t_now_worth t_now_stuck t_now_offset t_now_band t_now_rule t_now_noise t_now_step t_now_draws t_now_heat t_now_hour t_now_seenX t_now_seenCode t_now_seenCount) fun x3 f4 f5 f6 f7 x8 x9 x10 x11 x12 x13 x14 x15 f16 f17 x18 =>
      jn (fun (x19 : Int32) =>
      jn (fun (x20 : Int32) =>
      jn (fun (x21 : Int32) (x22 : Int32) (x23 : Int32) (f24 : Nat → Int32) (f25 : Nat → Int32) =>
      if a2 = 0 then
        some (x21, x3, f4, f24, f6, f25, x8, x9, x10, x11, x12, x13, x14, x15, f16, f17, x18)
      else
        if a2 = 1 then
          some (x22, x3, f4, f24, f6, f25, x8, x9, x10, x11, x12, x13, x14, x15, f16, f17, x18)
        else
          some (x23, x3, f4, f24, f6, f25, x8, x9, x10, x11, x12, x13, x14, x15, f16, f17, x18)) fun J155 =>
      lp_X7_faults_79 a1 t_now_bits t_now_off t_now_size t_now_stuck x3 f4 f6 x8 x12 f16 f17 x18 x19 x20 J155 FU 0 (-100) (-100) 0 f5 f7) fun J74 =>
      if a1 = 0 then
        J74 1
      else
        J74 20) fun J62 =>
      if a1 = 0 then
        J62 0
      else
        J62 (-20)

noncomputable def pf_X8_isIn (a0 : Int32) (a1 : Int32) (a2 : Int32) : Option (Int32 × Unit) :=
if a0 < a1 then
  some (0, ())
else
  if a2 < a0 then
    some (0, ())
  else
    some (1, ())

noncomputable def pf_X8_get (a1 : Int32) (t_all : Nat → Int32) (t_base : Int32) : Option (Int32 × Unit) :=
ckI (t_base + a1) 800 <|
some ((t_all (t_base + a1).toNatClampNeg), ())

noncomputable def pf_X8_put (a1 : Int32) (a2 : Int32) (t_all : Nat → Int32) (t_base : Int32) : Option ((Nat → Int32)) :=
ckI (t_base + a1) 800 <|
some (upd t_all (t_base + a1).toNatClampNeg a2)

noncomputable def lp_X8_copyRow_2 (a1 : Int32) (a2 : Int32) : Nat → Int32 → (Nat → Int32) → Option ((Nat → Int32))
  | 0, _, _ => none
  | n + 1, x1, f2 =>
    if 160 ≤ x1 then
      some f2
    else
      ckI ((160 * a1) + x1) 800 <|
      nm (f2 ((160 * a1) + x1).toNatClampNeg) fun x3 =>
      ckI ((160 * a2) + x1) 800 <|
      nm (x1 + 1) fun x4 =>
      lp_X8_copyRow_2 a1 a2 n x4 (upd f2 ((160 * a2) + x1).toNatClampNeg x3)
noncomputable def pf_X8_copyRow (a1 : Int32) (a2 : Int32) (t_all : Nat → Int32) : Option ((Nat → Int32)) :=
lp_X8_copyRow_2 a1 a2 FU 0 t_all

noncomputable def pf_X8_goAside (t_all : Nat → Int32) : Option ((Nat → Int32) × Int32) :=
bv_1 (pf_X8_copyRow 0 4 t_all) fun f1 =>
some (f1, 640)

noncomputable def pf_X8_comeBack : Option (Int32) :=
some 0

noncomputable def lp_X8_four_3 (a1 : Int32) : Nat → Int32 → (Nat → Int32) → Int32 → Option ((Nat → Int32) × Int32)
  | 0, _, _, _ => none
  | n + 1, x1, f2, x3 =>
    if x1 < 0 then
      some (f2, x3)
    else
      nm ((a1 >>> (x1 &&& 31)).toInt8.toInt32) fun x4 =>
      ckI x3 400 <|
      nm (x3 + 1) fun x5 =>
      nm (x1 + (-8)) fun x6 =>
      lp_X8_four_3 a1 n x6 (upd f2 x3.toNatClampNeg (vp_nar .byte x4)) x5
noncomputable def pf_X8_four (a1 : Int32) (t_tape : Nat → Int32) (t_taped : Int32) : Option ((Nat → Int32) × Int32) :=
lp_X8_four_3 a1 FU 24 t_tape t_taped

noncomputable def pf_X8_feed (a1 : Int32) (a2 : Int32) (a3 : Int32) (a4 : Int32) (a5 : Int32) (t_tape : Nat → Int32) (t_taped : Int32) : Option (Int32 × (Nat → Int32) × Int32) :=
if (t_taped + 20) ≤ 400 then
  bv_2 (pf_X8_four a1 t_tape t_taped) fun f1 x2 =>
  bv_2 (pf_X8_four a2 f1 x2) fun f3 x4 =>
  bv_2 (pf_X8_four a3 f3 x4) fun f5 x6 =>
  bv_2 (pf_X8_four a4 f5 x6) fun f7 x8 =>
  bv_2 (pf_X8_four a5 f7 x8) fun f9 x10 =>
  some (x10, f9, x10)
else
  some ((-1), t_tape, t_taped)

noncomputable def pf_X8_end (a1 : Int32) (t_taped : Int32) : Option (Int32 × Int32) :=
bi_0 (pf_X8_isIn a1 0 t_taped) fun r1 =>
if r1 = 0 then
  some ((-1), t_taped)
else
  some (a1, a1)

noncomputable def pf_X8_here (t_tape : Nat → Int32) (t_taped : Int32) (t_at : Int32) : Option (Int32 × Unit) :=
if t_taped ≤ t_at then
  some ((-1), ())
else
  ckI t_at 400 <|
  some (((t_tape t_at.toNatClampNeg) &&& 255), ())

noncomputable def pf_X8_isFigure (a0 : Int32) : Option (Int32 × Unit) :=
if a0 < 48 then
  some (0, ())
else
  if 57 < a0 then
    some (0, ())
  else
    some (1, ())

noncomputable def pf_X8_fails (a1 : Int32) : Option (Int32 × Int32) :=
some (0, a1)

noncomputable def lp_X8_readDigits_29 (t_taped : Int32) (t_at : Int32) (t_tape : Nat → Int32) (J81 : Int32 → Int32 → Option (Int32 × Int32 × Int32 × Int32)) : Nat → Int32 → Int32 → Option (Int32 × Int32 × Int32 × Int32)
  | 0, _, _ => none
  | n + 1, x9, x10 =>
    bi_0 (pf_X8_here t_tape t_taped x9) fun r11 =>
    bi_0 (pf_X8_isFigure r11) fun r12 =>
    if r12 = 0 then
      J81 x9 x10
    else
      if 4 ≤ (x9 - t_at) then
        J81 x9 x10
      else
        bi_0 (pf_X8_here t_tape t_taped x9) fun r13 =>
        nm (((10 * x10) + r13) - 48) fun x14 =>
        nm (x9 + 1) fun x15 =>
        lp_X8_readDigits_29 t_taped t_at t_tape J81 n x15 x14
noncomputable def pf_X8_readDigits (t_tape : Nat → Int32) (t_taped : Int32) (t_at : Int32) (t_faultPlace : Int32) (t_number : Int32) : Option (Int32 × Int32 × Int32 × Int32) :=
bi_0 (pf_X8_here t_tape t_taped t_at) fun r1 =>
bi_0 (pf_X8_isFigure r1) fun r2 =>
if r2 = 0 then
  bi_1 (pf_X8_fails t_at) fun r16 x17 =>
  ckZ r16 <|
  some (r16, t_at, x17, t_number)
else
  jn (fun (x3 : Int32) (x4 : Int32) =>
  bi_0 (pf_X8_here t_tape t_taped x3) fun r5 =>
  bi_0 (pf_X8_isFigure r5) fun r6 =>
  if r6 = 0 then
    some (1, x3, t_faultPlace, x4)
  else
    bi_1 (pf_X8_fails x3) fun r7 x8 =>
    if r7 = 0 then
      some (0, x3, x8, x4)
    else
      some (1, x3, x8, x4)) fun J81 =>
  lp_X8_readDigits_29 t_taped t_at t_tape J81 FU t_at 0

noncomputable def pf_X8_readNumber (a1 : Int32) (a2 : Int32) (t_tape : Nat → Int32) (t_taped : Int32) (t_at : Int32) (t_faultPlace : Int32) (t_number : Int32) : Option (Int32 × Int32 × Int32 × Int32) :=
jn (fun (x1 : Int32) =>
jn (fun (x2 : Int32) =>
bi_3 (pf_X8_readDigits t_tape t_taped x2 t_faultPlace t_number) fun r3 x4 x5 x6 =>
if r3 = 0 then
  some (0, x4, x5, x6)
else
  jn (fun (x7 : Int32) =>
  bi_0 (pf_X8_isIn x7 a1 a2) fun r8 =>
  if r8 = 0 then
    bi_1 (pf_X8_fails t_at) fun r9 x10 =>
    if r9 = 0 then
      some (0, x4, x10, x7)
    else
      some (1, x4, x10, x7)
  else
    some (1, x4, x5, x7)) fun J63 =>
  if x1 = 0 then
    J63 x6
  else
    nm (-x6) fun x11 =>
    J63 x11) fun J40 =>
if x1 = 0 then
  J40 t_at
else
  nm (t_at + 1) fun x12 =>
  J40 x12) fun J23 =>
jn (J23 0) fun J22 =>
if 0 ≤ a1 then
  J22
else
  bi_0 (pf_X8_here t_tape t_taped t_at) fun r13 =>
  if r13 = 45 then
    J23 1
  else
    J22

noncomputable def pf_X8_ruleOf (a0 : Int32) : Option (Int32 × Unit) :=
if a0 = 111 then
  some (0, ())
else
  if a0 = 100 then
    some (1, ())
  else
    if a0 = 114 then
      some (2, ())
    else
      if a0 = 110 then
        some (3, ())
      else
        if a0 = 103 then
          some (4, ())
        else
          some ((-1), ())

noncomputable def pf_X8_readBit (t_tape : Nat → Int32) (t_taped : Int32) (t_at : Int32) (t_faultPlace : Int32) (t_number : Int32) (t_newSize : Nat → Int32) (t_newOff : Nat → Int32) (t_newBits : Int32) : Option (Int32 × Int32 × Int32 × Int32 × (Nat → Int32) × (Nat → Int32) × Int32) :=
if t_newBits = 12 then
  bi_1 (pf_X8_fails t_at) fun r20 x21 =>
  ckZ r20 <|
  some (r20, t_at, x21, t_number, t_newSize, t_newOff, t_newBits)
else
  nm (t_at + 1) fun x1 =>
  bi_3 (pf_X8_readNumber 1 9999 t_tape t_taped x1 t_faultPlace t_number) fun r2 x3 x4 x5 =>
  if r2 = 0 then
    some (0, x3, x4, x5, t_newSize, t_newOff, t_newBits)
  else
    ckI t_newBits 12 <|
    ckI t_newBits 12 <|
    bi_0 (pf_X8_here t_tape t_taped x3) fun r6 =>
    jn (fun (x7 : Int32) (x8 : Int32) (x9 : Int32) (f10 : Nat → Int32) =>
    bi_0 (pf_X8_here t_tape t_taped x7) fun r11 =>
    jn (nm (t_newBits + 1) fun x12 =>
    some (1, x7, x8, x9, (upd t_newSize t_newBits.toNatClampNeg x5), f10, x12)) fun J149 =>
    if r11 = 59 then
      ckI t_newBits 12 <|
      ckI t_newBits 12 <|
      if 1 ≤ (((upd t_newSize t_newBits.toNatClampNeg x5) t_newBits.toNatClampNeg) + (f10 t_newBits.toNatClampNeg)) then
        J149
      else
        bi_1 (pf_X8_fails t_at) fun r13 x14 =>
        ckZ r13 <|
        some (r13, x7, x14, x9, (upd t_newSize t_newBits.toNatClampNeg x5), f10, t_newBits)
    else
      J149) fun J111 =>
    if r6 = 58 then
      nm (x3 + 1) fun x15 =>
      bi_3 (pf_X8_readNumber (-99) 99 t_tape t_taped x15 x4 x5) fun r16 x17 x18 x19 =>
      if r16 = 0 then
        some (0, x17, x18, x19, (upd t_newSize t_newBits.toNatClampNeg x5), (upd t_newOff t_newBits.toNatClampNeg 0), t_newBits)
      else
        ckI t_newBits 12 <|
        J111 x17 x18 x19 (upd (upd t_newOff t_newBits.toNatClampNeg 0) t_newBits.toNatClampNeg x19)
    else
      J111 x3 x4 x5 (upd t_newOff t_newBits.toNatClampNeg 0)

noncomputable def pf_X8_readItem (t_tape : Nat → Int32) (t_taped : Int32) (t_at : Int32) (t_faultPlace : Int32) (t_number : Int32) (t_lows : Nat → Int32) (t_tops : Nat → Int32) (t_newSize : Nat → Int32) (t_newOff : Nat → Int32) (t_newRule : Nat → Int32) (t_newBits : Int32) (t_newTold : Int32) : Option (Int32 × Int32 × Int32 × Int32 × (Nat → Int32) × (Nat → Int32) × (Nat → Int32) × Int32 × Int32) :=
bi_0 (pf_X8_here t_tape t_taped t_at) fun r1 =>
bi_0 (pf_X8_ruleOf r1) fun r2 =>
bi_0 (pf_X8_here t_tape t_taped t_at) fun r3 =>
jn (fun (x4 : Int32) (x5 : Int32) (x6 : Int32) (f7 : Nat → Int32) (f8 : Nat → Int32) (f9 : Nat → Int32) (x10 : Int32) (x11 : Int32) =>
bi_0 (pf_X8_here t_tape t_taped x4) fun r12 =>
if r12 = 59 then
  nm (x4 + 1) fun x13 =>
  some (1, x13, x5, x6, f7, f8, f9, x10, x11)
else
  bi_1 (pf_X8_fails x4) fun r14 x15 =>
  ckZ r14 <|
  some (r14, x4, x15, x6, f7, f8, f9, x10, x11)) fun J105 =>
if r3 = 98 then
  bi_6 (pf_X8_readBit t_tape t_taped t_at t_faultPlace t_number t_newSize t_newOff t_newBits) fun r26 x27 x28 x29 f30 f31 x32 =>
  if r26 = 0 then
    some (0, x27, x28, x29, f30, f31, t_newRule, x32, t_newTold)
  else
    J105 x27 x28 x29 f30 f31 t_newRule x32 t_newTold
else
  if r2 = (-1) then
    bi_1 (pf_X8_fails t_at) fun r16 x17 =>
    ckZ r16 <|
    some (r16, t_at, x17, t_number, t_newSize, t_newOff, t_newRule, t_newBits, t_newTold)
  else
    if ((t_newTold >>> (r2 &&& 31)) &&& 1) = 1 then
      bi_1 (pf_X8_fails t_at) fun r24 x25 =>
      ckZ r24 <|
      some (r24, t_at, x25, t_number, t_newSize, t_newOff, t_newRule, t_newBits, t_newTold)
    else
      nm (t_newTold ||| (1 <<< (r2 &&& 31))) fun x18 =>
      nm (t_at + 1) fun x19 =>
      ckI r2 5 <|
      ckI r2 5 <|
      bi_3 (pf_X8_readNumber (t_lows r2.toNatClampNeg) (t_tops r2.toNatClampNeg) t_tape t_taped x19 t_faultPlace t_number) fun r20 x21 x22 x23 =>
      if r20 = 0 then
        some (0, x21, x22, x23, t_newSize, t_newOff, t_newRule, t_newBits, x18)
      else
        ckI r2 5 <|
        J105 x21 x22 x23 t_newSize t_newOff (upd t_newRule r2.toNatClampNeg x23) t_newBits x18

noncomputable def lp_X8_readText_58 (t_taped : Int32) (t_lows : Nat → Int32) (t_tape : Nat → Int32) (t_tops : Nat → Int32) (J78 : Int32 → Int32 → Int32 → (Nat → Int32) → (Nat → Int32) → (Nat → Int32) → Int32 → Int32 → Option (Int32 × Int32 × Int32 × Int32 × (Nat → Int32) × (Nat → Int32) × (Nat → Int32) × Int32 × Int32)) : Nat → Int32 → Int32 → Int32 → (Nat → Int32) → (Nat → Int32) → (Nat → Int32) → Int32 → Int32 → Option (Int32 × Int32 × Int32 × Int32 × (Nat → Int32) × (Nat → Int32) × (Nat → Int32) × Int32 × Int32)
  | 0, _, _, _, _, _, _, _, _ => none
  | n + 1, x12, x13, x14, f15, f16, f17, x18, x19 =>
    if t_taped ≤ x12 then
      J78 x12 x13 x14 f15 f16 f17 x18 x19
    else
      bi_8 (pf_X8_readItem t_tape t_taped x12 x13 x14 t_lows t_tops f15 f16 f17 x18 x19) fun r20 x21 x22 x23 f24 f25 f26 x27 x28 =>
      if r20 = 0 then
        some (0, x21, x22, x23, f24, f25, f26, x27, x28)
      else
        lp_X8_readText_58 t_taped t_lows t_tape t_tops J78 n x21 x22 x23 f24 f25 f26 x27 x28
noncomputable def lp_X8_readText_22 (J58 : (Nat → Int32) → Option (Int32 × Int32 × Int32 × Int32 × (Nat → Int32) × (Nat → Int32) × (Nat → Int32) × Int32 × Int32)) : Nat → Int32 → (Nat → Int32) → Option (Int32 × Int32 × Int32 × Int32 × (Nat → Int32) × (Nat → Int32) × (Nat → Int32) × Int32 × Int32)
  | 0, _, _ => none
  | n + 1, x29, f30 =>
    if 5 ≤ x29 then
      J58 f30
    else
      jn (fun (x31 : Int32) =>
      ckI x29 5 <|
      nm (x29 + 1) fun x32 =>
      lp_X8_readText_22 J58 n x32 (upd f30 x29.toNatClampNeg x31)) fun J51 =>
      if x29 = 2 then
        J51 3
      else
        if x29 = 4 then
          J51 1
        else
          J51 0
noncomputable def pf_X8_readText (t_tape : Nat → Int32) (t_taped : Int32) (t_number : Int32) (t_lows : Nat → Int32) (t_tops : Nat → Int32) (t_newSize : Nat → Int32) (t_newOff : Nat → Int32) (t_newRule : Nat → Int32) : Option (Int32 × Int32 × Int32 × Int32 × (Nat → Int32) × (Nat → Int32) × (Nat → Int32) × Int32 × Int32) :=
jn (fun (f1 : Nat → Int32) =>
jn (fun (x2 : Int32) (x3 : Int32) (x4 : Int32) (f5 : Nat → Int32) (f6 : Nat → Int32) (f7 : Nat → Int32) (x8 : Int32) (x9 : Int32) =>
if 1 < x8 then
  some (1, x2, x3, x4, f5, f6, f7, x8, x9)
else
  bi_1 (pf_X8_fails t_taped) fun r10 x11 =>
  if r10 = 0 then
    some (0, x2, x11, x4, f5, f6, f7, x8, x9)
  else
    some (1, x2, x11, x4, f5, f6, f7, x8, x9)) fun J78 =>
lp_X8_readText_58 t_taped t_lows t_tape t_tops J78 FU 0 (-1) t_number t_newSize t_newOff f1 0 0) fun J58 =>
lp_X8_readText_22 J58 FU 0 t_newRule

noncomputable def pf_X8_layBit (a1 : Int32) (a2 : Int32) (a3 : Int32) (t_all : Nat → Int32) (t_base : Int32) : Option ((Nat → Int32)) :=
bv_1 (pf_X8_put (9 + a1) a2 t_all t_base) fun f1 =>
bv_1 (pf_X8_put (21 + a1) a3 f1 t_base) fun f2 =>
bv_1 (pf_X8_put (33 + a1) a2 f2 t_base) fun f3 =>
bv_1 (pf_X8_put (45 + a1) (-1) f3 t_base) fun f4 =>
some f4

noncomputable def lp_X8_text_53 (t_base : Int32) (f5 : Nat → Int32) (f6 : Nat → Int32) (x8 : Int32) (J84 : (Nat → Int32) → Option (Int32 × (Nat → Int32) × Int32 × Int32 × Int32 × Int32 × (Nat → Int32) × (Nat → Int32) × (Nat → Int32) × Int32 × Int32 × Int32)) : Nat → Int32 → (Nat → Int32) → Option (Int32 × (Nat → Int32) × Int32 × Int32 × Int32 × Int32 × (Nat → Int32) × (Nat → Int32) × (Nat → Int32) × Int32 × Int32 × Int32)
  | 0, _, _ => none
  | n + 1, x14, f15 =>
    if x8 ≤ x14 then
      J84 f15
    else
      ckI x14 12 <|
      ckI x14 12 <|
      bv_1 (pf_X8_layBit x14 (f5 x14.toNatClampNeg) (f6 x14.toNatClampNeg) f15 t_base) fun f16 =>
      nm (x14 + 1) fun x17 =>
      lp_X8_text_53 t_base f5 f6 x8 J84 n x17 f16
noncomputable def lp_X8_text_27 (t_base : Int32) (f7 : Nat → Int32) (J51 : (Nat → Int32) → Option (Int32 × (Nat → Int32) × Int32 × Int32 × Int32 × Int32 × (Nat → Int32) × (Nat → Int32) × (Nat → Int32) × Int32 × Int32 × Int32)) : Nat → Int32 → (Nat → Int32) → Option (Int32 × (Nat → Int32) × Int32 × Int32 × Int32 × Int32 × (Nat → Int32) × (Nat → Int32) × (Nat → Int32) × Int32 × Int32 × Int32)
  | 0, _, _ => none
  | n + 1, x18, f19 =>
    if 5 ≤ x18 then
      J51 f19
    else
      ckI x18 5 <|
      bv_1 (pf_X8_put (1 + x18) (f7 x18.toNatClampNeg) f19 t_base) fun f20 =>
      nm (x18 + 1) fun x21 =>
      lp_X8_text_27 t_base f7 J51 n x21 f20
noncomputable def pf_X8_text (t_all : Nat → Int32) (t_base : Int32) (t_tape : Nat → Int32) (t_taped : Int32) (t_number : Int32) (t_lows : Nat → Int32) (t_tops : Nat → Int32) (t_newSize : Nat → Int32) (t_newOff : Nat → Int32) (t_newRule : Nat → Int32) (t_wasConverted : Int32) : Option (Int32 × (Nat → Int32) × Int32 × Int32 × Int32 × Int32 × (Nat → Int32) × (Nat → Int32) × (Nat → Int32) × Int32 × Int32 × Int32) :=
bi_8 (pf_X8_readText t_tape t_taped t_number t_lows t_tops t_newSize t_newOff t_newRule) fun r1 x2 x3 x4 f5 f6 f7 x8 x9 =>
if r1 = 0 then
  some ((-1), t_all, 0, x2, x3, x4, f5, f6, f7, x8, x9, t_wasConverted)
else
  bv_1 (pf_X8_put 0 x8 t_all t_base) fun f10 =>
  jn (fun (f11 : Nat → Int32) =>
  jn (fun (f12 : Nat → Int32) =>
  bv_1 (pf_X8_put 57 0 f12 t_base) fun f13 =>
  some (x8, f13, 0, x2, x3, x4, f5, f6, f7, x8, x9, 0)) fun J84 =>
  lp_X8_text_53 t_base f5 f6 x8 J84 FU 0 f11) fun J51 =>
  lp_X8_text_27 t_base f7 J51 FU 0 f10

noncomputable def pf_X8_fault (t_faultPlace : Int32) : Option (Int32 × Unit) :=
some (t_faultPlace, ())

noncomputable def pf_X8_does (a1 : Int32) (t_newDoing : Nat → Int32) (t_newDoings : Int32) : Option ((Nat → Int32) × Int32) :=
ckI t_newDoings 84 <|
nm (t_newDoings + 1) fun x1 =>
some ((upd t_newDoing t_newDoings.toNatClampNeg a1), x1)

noncomputable def pf_X8_openOne (a1 : Int32) (t_open : Nat → Int32) (t_stage : Nat → Int32) (t_sumSign : Nat → Int32) (t_productSign : Nat → Int32) (t_opened : Int32) : Option ((Nat → Int32) × (Nat → Int32) × (Nat → Int32) × (Nat → Int32) × Int32) :=
nm (t_opened + 1) fun x1 =>
ckI x1 10 <|
ckI x1 10 <|
ckI x1 10 <|
ckI x1 10 <|
some ((upd t_open x1.toNatClampNeg a1), (upd t_stage x1.toNatClampNeg 0), (upd t_sumSign x1.toNatClampNeg 0), (upd t_productSign x1.toNatClampNeg 0), x1)

noncomputable def pf_X8_letterOf (a0 : Int32) : Option (Int32 × Unit) :=
if a0 = 105 then
  some (0, ())
else
  if a0 = 115 then
    some (1, ())
  else
    if a0 = 119 then
      some (2, ())
    else
      if a0 = 104 then
        some (3, ())
      else
        if a0 = 116 then
          some (4, ())
        else
          some ((-1), ())

noncomputable def pf_X8_readThing (t_tape : Nat → Int32) (t_taped : Int32) (t_at : Int32) (t_faultPlace : Int32) (t_number : Int32) (t_newDoing : Nat → Int32) (t_newDoings : Int32) (t_newThings : Int32) (t_open : Nat → Int32) (t_stage : Nat → Int32) (t_sumSign : Nat → Int32) (t_productSign : Nat → Int32) (t_opened : Int32) : Option (Int32 × Int32 × Int32 × Int32 × (Nat → Int32) × Int32 × Int32 × (Nat → Int32) × (Nat → Int32) × (Nat → Int32) × (Nat → Int32) × Int32) :=
bi_0 (pf_X8_here t_tape t_taped t_at) fun r1 =>
bi_0 (pf_X8_isFigure r1) fun r2 =>
jn (fun (x3 : Int32) =>
jn (some ((-1), t_at, t_at, t_number, t_newDoing, t_newDoings, t_newThings, t_open, t_stage, t_sumSign, t_productSign, t_opened)) fun J66 =>
if x3 = 0 then
  J66
else
  if t_newThings = 40 then
    J66
  else
    if t_opened = 8 then
      J66
    else
      nm (t_newThings + 1) fun x4 =>
      bi_0 (pf_X8_isFigure r1) fun r5 =>
      if r5 = 0 then
        nm (t_at + 1) fun x6 =>
        bi_0 (pf_X8_letterOf r1) fun r7 =>
        if r7 = (-1) then
          if r1 = 40 then
            bv_5 (pf_X8_openOne 1 t_open t_stage t_sumSign t_productSign t_opened) fun f18 f19 f20 f21 x22 =>
            some (0, x6, t_faultPlace, t_number, t_newDoing, t_newDoings, x4, f18, f19, f20, f21, x22)
          else
            if r1 = 91 then
              bv_5 (pf_X8_openOne 2 t_open t_stage t_sumSign t_productSign t_opened) fun f13 f14 f15 f16 x17 =>
              some (0, x6, t_faultPlace, t_number, t_newDoing, t_newDoings, x4, f13, f14, f15, f16, x17)
            else
              bv_5 (pf_X8_openOne 3 t_open t_stage t_sumSign t_productSign t_opened) fun f8 f9 f10 f11 x12 =>
              some (0, x6, t_faultPlace, t_number, t_newDoing, t_newDoings, x4, f8, f9, f10, f11, x12)
        else
          bi_0 (pf_X8_letterOf r1) fun r23 =>
          bv_2 (pf_X8_does (10000 + r23) t_newDoing t_newDoings) fun f24 x25 =>
          some (1, x6, t_faultPlace, t_number, f24, x25, x4, t_open, t_stage, t_sumSign, t_productSign, t_opened)
      else
        bi_3 (pf_X8_readDigits t_tape t_taped t_at t_faultPlace t_number) fun r26 x27 x28 x29 =>
        if r26 = 0 then
          some ((-1), x27, x28, x29, t_newDoing, t_newDoings, x4, t_open, t_stage, t_sumSign, t_productSign, t_opened)
        else
          bv_2 (pf_X8_does x29 t_newDoing t_newDoings) fun f30 x31 =>
          some (1, x27, x28, x29, f30, x31, x4, t_open, t_stage, t_sumSign, t_productSign, t_opened)) fun J43 =>
jn (J43 1) fun J38 =>
if r2 = 0 then
  bi_0 (pf_X8_letterOf r1) fun r32 =>
  if r32 = (-1) then
    if r1 = 40 then
      J38
    else
      if r1 = 91 then
        J38
      else
        if r1 = 45 then
          J38
        else
          J43 0
  else
    J38
else
  J38

noncomputable def pf_X8_doingOf (a0 : Int32) : Option (Int32 × Unit) :=
if a0 = 43 then
  some (10010, ())
else
  if a0 = 45 then
    some (10011, ())
  else
    if a0 = 42 then
      some (10012, ())
    else
      if a0 = 47 then
        some (10013, ())
      else
        some (10014, ())

noncomputable def pf_X8_isOne (a1 : Int32) (a2 : Int32) (a3 : Int32) (t_tape : Nat → Int32) (t_taped : Int32) (t_at : Int32) : Option (Int32 × Unit) :=
bi_0 (pf_X8_here t_tape t_taped t_at) fun r1 =>
if r1 = a1 then
  some (1, ())
else
  bi_0 (pf_X8_here t_tape t_taped t_at) fun r2 =>
  if r2 = a2 then
    some (1, ())
  else
    bi_0 (pf_X8_here t_tape t_taped t_at) fun r3 =>
    if r3 = a3 then
      some (1, ())
    else
      some (0, ())

noncomputable def pf_X8_partsOn (a1 : Int32) (t_tape : Nat → Int32) (t_taped : Int32) (t_at : Int32) (t_faultPlace : Int32) (t_stage : Nat → Int32) (t_sign : Nat → Int32) : Option (Int32 × Int32 × Int32 × (Nat → Int32) × (Nat → Int32)) :=
ckI a1 10 <|
jn (fun (x1 : Int32) =>
if x1 = 0 then
  bi_1 (pf_X8_fails t_at) fun r7 x8 =>
  ckZ r7 <|
  some (r7, t_at, x8, t_stage, t_sign)
else
  ckI a1 10 <|
  jn (fun (f2 : Nat → Int32) =>
  nm (t_at + 1) fun x3 =>
  ckI a1 10 <|
  nm ((t_stage a1.toNatClampNeg) + 1) fun x4 =>
  ckI a1 10 <|
  some (1, x3, t_faultPlace, (upd t_stage a1.toNatClampNeg x4), f2)) fun J98 =>
  if (t_stage a1.toNatClampNeg) = 0 then
    bi_0 (pf_X8_here t_tape t_taped t_at) fun r5 =>
    jn (fun (x6 : Int32) =>
    ckI a1 10 <|
    J98 (upd t_sign a1.toNatClampNeg x6)) fun J97 =>
    if r5 = 60 then
      J97 10016
    else
      J97 10017
  else
    J98 t_sign) fun J51 =>
if (t_stage a1.toNatClampNeg) = 0 then
  bi_0 (pf_X8_isOne 60 61 60 t_tape t_taped t_at) fun r11 =>
  J51 r11
else
  bi_0 (pf_X8_here t_tape t_taped t_at) fun r9 =>
  ckI a1 10 <|
  jn (fun (x10 : Int32) =>
  if r9 = x10 then
    J51 1
  else
    J51 0) fun J43 =>
  if (t_stage a1.toNatClampNeg) = 1 then
    J43 63
  else
    J43 58

noncomputable def lp_X8_goesOn_0 (t_taped : Int32) (t_faultPlace : Int32) (t_open : Nat → Int32) (t_sign : Nat → Int32) (t_stage : Nat → Int32) (t_tape : Nat → Int32) (J175 : Int32 → (Nat → Int32) → Int32 → (Nat → Int32) → (Nat → Int32) → Int32 → Option (Int32 × Int32 × Int32 × (Nat → Int32) × Int32 × (Nat → Int32) × (Nat → Int32) × (Nat → Int32) × (Nat → Int32) × Int32)) (J144 : Int32 → Int32 → (Nat → Int32) → Int32 → (Nat → Int32) → (Nat → Int32) → Int32 → Option (Int32 × Int32 × Int32 × (Nat → Int32) × Int32 × (Nat → Int32) × (Nat → Int32) × (Nat → Int32) × (Nat → Int32) × Int32)) (J80 : Int32 → Int32 → (Nat → Int32) → Int32 → (Nat → Int32) → (Nat → Int32) → Int32 → Option (Int32 × Int32 × Int32 × (Nat → Int32) × Int32 × (Nat → Int32) × (Nat → Int32) × (Nat → Int32) × (Nat → Int32) × Int32)) : Nat → Int32 → (Nat → Int32) → Int32 → (Nat → Int32) → (Nat → Int32) → Int32 → Option (Int32 × Int32 × Int32 × (Nat → Int32) × Int32 × (Nat → Int32) × (Nat → Int32) × (Nat → Int32) × (Nat → Int32) × Int32)
  | 0, _, _, _, _, _, _ => none
  | n + 1, x27, f28, x29, f30, f31, x32 =>
    ckI x32 10 <|
    if (t_open x32.toNatClampNeg) = 3 then
      bv_2 (pf_X8_does 10015 f28 x29) fun f60 x61 =>
      nm (x32 - 1) fun x62 =>
      lp_X8_goesOn_0 t_taped t_faultPlace t_open t_sign t_stage t_tape J175 J144 J80 n x27 f60 x61 f30 f31 x62
    else
      ckI x32 10 <|
      jn (fun (f33 : Nat → Int32) (x34 : Int32) =>
      ckI x32 10 <|
      bi_0 (pf_X8_isOne 42 47 37 t_tape t_taped x27) fun r35 =>
      if r35 = 0 then
        ckI x32 10 <|
        jn (fun (f36 : Nat → Int32) (x37 : Int32) =>
        ckI x32 10 <|
        bi_0 (pf_X8_isOne 43 45 43 t_tape t_taped x27) fun r38 =>
        if r38 = 0 then
          ckI x32 10 <|
          if (t_open x32.toNatClampNeg) = 0 then
            J175 x27 f36 x37 (upd f30 x32.toNatClampNeg 0) (upd f31 x32.toNatClampNeg 0) x32
          else
            ckI x32 10 <|
            jn (bi_0 (pf_X8_here t_tape t_taped x27) fun r39 =>
            ckI x32 10 <|
            jn (fun (x40 : Int32) =>
            if r39 = x40 then
              nm (x27 + 1) fun x41 =>
              ckI x32 10 <|
              jn (fun (f42 : Nat → Int32) (x43 : Int32) =>
              nm (x32 - 1) fun x44 =>
              lp_X8_goesOn_0 t_taped t_faultPlace t_open t_sign t_stage t_tape J175 J144 J80 n x41 f42 x43 (upd f30 x32.toNatClampNeg 0) (upd f31 x32.toNatClampNeg 0) x44) fun J292 =>
              if (t_open x32.toNatClampNeg) = 2 then
                ckI x32 10 <|
                bv_2 (pf_X8_does (t_sign x32.toNatClampNeg) f36 x37) fun f45 x46 =>
                J292 f45 x46
              else
                J292 f36 x37
            else
              bi_1 (pf_X8_fails x27) fun r47 x48 =>
              ckZ r47 <|
              some (r47, x27, x48, f36, x37, t_stage, t_sign, (upd f30 x32.toNatClampNeg 0), (upd f31 x32.toNatClampNeg 0), x32)) fun J250 =>
            if (t_open x32.toNatClampNeg) = 1 then
              J250 41
            else
              J250 93) fun J229 =>
            if (t_open x32.toNatClampNeg) = 2 then
              ckI x32 10 <|
              if 3 ≤ (t_stage x32.toNatClampNeg) then
                J229
              else
                bi_4 (pf_X8_partsOn x32 t_tape t_taped x27 t_faultPlace t_stage t_sign) fun r49 x50 x51 f52 f53 =>
                ckZ r49 <|
                some (r49, x50, x51, f36, x37, f52, f53, (upd f30 x32.toNatClampNeg 0), (upd f31 x32.toNatClampNeg 0), x32)
            else
              J229
        else
          J144 x32 x27 f36 x37 (upd f30 x32.toNatClampNeg 0) (upd f31 x32.toNatClampNeg 0) x32) fun J124 =>
        if (f30 x32.toNatClampNeg) = 0 then
          J124 f33 x34
        else
          ckI x32 10 <|
          bi_0 (pf_X8_doingOf (f30 x32.toNatClampNeg)) fun r54 =>
          bv_2 (pf_X8_does r54 f33 x34) fun f55 x56 =>
          J124 f55 x56
      else
        J80 x32 x27 f33 x34 f30 (upd f31 x32.toNatClampNeg 0) x32) fun J60 =>
      if (f31 x32.toNatClampNeg) = 0 then
        J60 f28 x29
      else
        ckI x32 10 <|
        bi_0 (pf_X8_doingOf (f31 x32.toNatClampNeg)) fun r57 =>
        bv_2 (pf_X8_does r57 f28 x29) fun f58 x59 =>
        J60 f58 x59
noncomputable def pf_X8_goesOn (t_tape : Nat → Int32) (t_taped : Int32) (t_at : Int32) (t_faultPlace : Int32) (t_newDoing : Nat → Int32) (t_newDoings : Int32) (t_open : Nat → Int32) (t_stage : Nat → Int32) (t_sign : Nat → Int32) (t_sumSign : Nat → Int32) (t_productSign : Nat → Int32) (t_opened : Int32) : Option (Int32 × Int32 × Int32 × (Nat → Int32) × Int32 × (Nat → Int32) × (Nat → Int32) × (Nat → Int32) × (Nat → Int32) × Int32) :=
jn (fun (x1 : Int32) (f2 : Nat → Int32) (x3 : Int32) (f4 : Nat → Int32) (f5 : Nat → Int32) (x6 : Int32) =>
if t_taped ≤ x1 then
  some (0, x1, t_faultPlace, f2, x3, t_stage, t_sign, f4, f5, x6)
else
  bi_1 (pf_X8_fails x1) fun r7 x8 =>
  if r7 = 0 then
    some (0, x1, x8, f2, x3, t_stage, t_sign, f4, f5, x6)
  else
    some (1, x1, x8, f2, x3, t_stage, t_sign, f4, f5, x6)) fun J175 =>
jn (fun (x9 : Int32) (x10 : Int32) (f11 : Nat → Int32) (x12 : Int32) (f13 : Nat → Int32) (f14 : Nat → Int32) (x15 : Int32) =>
bi_0 (pf_X8_here t_tape t_taped x10) fun r16 =>
ckI x9 10 <|
nm (x10 + 1) fun x17 =>
some (1, x17, t_faultPlace, f11, x12, t_stage, t_sign, (upd f13 x9.toNatClampNeg r16), f14, x15)) fun J144 =>
jn (fun (x18 : Int32) (x19 : Int32) (f20 : Nat → Int32) (x21 : Int32) (f22 : Nat → Int32) (f23 : Nat → Int32) (x24 : Int32) =>
bi_0 (pf_X8_here t_tape t_taped x19) fun r25 =>
ckI x18 10 <|
nm (x19 + 1) fun x26 =>
some (1, x26, t_faultPlace, f20, x21, t_stage, t_sign, f22, (upd f23 x18.toNatClampNeg r25), x24)) fun J80 =>
lp_X8_goesOn_0 t_taped t_faultPlace t_open t_sign t_stage t_tape J175 J144 J80 FU t_at t_newDoing t_newDoings t_sumSign t_productSign t_opened

noncomputable def lp_X8_readDrift_43 (t_taped : Int32) (t_tape : Nat → Int32) (J79 : Int32 → Int32 → Int32 → (Nat → Int32) → Int32 → Int32 → (Nat → Int32) → (Nat → Int32) → (Nat → Int32) → (Nat → Int32) → (Nat → Int32) → Int32 → Option (Int32 × Int32 × Int32 × Int32 × (Nat → Int32) × Int32 × Int32 × (Nat → Int32) × (Nat → Int32) × (Nat → Int32) × (Nat → Int32) × (Nat → Int32) × Int32)) : Nat → Int32 → Int32 → Int32 → Int32 → (Nat → Int32) → Int32 → Int32 → (Nat → Int32) → (Nat → Int32) → (Nat → Int32) → (Nat → Int32) → (Nat → Int32) → Int32 → Option (Int32 × Int32 × Int32 × Int32 × (Nat → Int32) × Int32 × Int32 × (Nat → Int32) × (Nat → Int32) × (Nat → Int32) × (Nat → Int32) × (Nat → Int32) × Int32)
  | 0, _, _, _, _, _, _, _, _, _, _, _, _, _ => none
  | n + 1, x19, x20, x21, x22, f23, x24, x25, f26, f27, f28, f29, f30, x31 =>
    if x19 = 0 then
      J79 x20 x21 x22 f23 x24 x25 f26 f27 f28 f29 f30 x31
    else
      bi_11 (pf_X8_readThing t_tape t_taped x20 x21 x22 f23 x24 x25 f26 f27 f29 f30 x31) fun r32 x33 x34 x35 f36 x37 x38 f39 f40 f41 f42 x43 =>
      if r32 = (-1) then
        some (0, x33, x34, x35, f36, x37, x38, f39, f40, f28, f41, f42, x43)
      else
        if r32 = 0 then
          lp_X8_readDrift_43 t_taped t_tape J79 n 1 x33 x34 x35 f36 x37 x38 f39 f40 f28 f41 f42 x43
        else
          bi_9 (pf_X8_goesOn t_tape t_taped x33 x34 f36 x37 f39 f40 f28 f41 f42 x43) fun r44 x45 x46 f47 x48 f49 f50 f51 f52 x53 =>
          if r44 = 0 then
            lp_X8_readDrift_43 t_taped t_tape J79 n 0 x45 x46 x35 f47 x48 x38 f39 f49 f50 f51 f52 x53
          else
            lp_X8_readDrift_43 t_taped t_tape J79 n 1 x45 x46 x35 f47 x48 x38 f39 f49 f50 f51 f52 x53
noncomputable def pf_X8_readDrift (t_tape : Nat → Int32) (t_taped : Int32) (t_number : Int32) (t_newDoing : Nat → Int32) (t_open : Nat → Int32) (t_stage : Nat → Int32) (t_sign : Nat → Int32) (t_sumSign : Nat → Int32) (t_productSign : Nat → Int32) : Option (Int32 × Int32 × Int32 × Int32 × (Nat → Int32) × Int32 × Int32 × (Nat → Int32) × (Nat → Int32) × (Nat → Int32) × (Nat → Int32) × (Nat → Int32) × Int32) :=
bv_5 (pf_X8_openOne 0 t_open t_stage t_sumSign t_productSign (-1)) fun f1 f2 f3 f4 x5 =>
jn (fun (x6 : Int32) =>
jn (fun (x7 : Int32) (x8 : Int32) (x9 : Int32) (f10 : Nat → Int32) (x11 : Int32) (x12 : Int32) (f13 : Nat → Int32) (f14 : Nat → Int32) (f15 : Nat → Int32) (f16 : Nat → Int32) (f17 : Nat → Int32) (x18 : Int32) =>
if x8 = (-1) then
  some (1, x7, x8, x9, f10, x11, x12, f13, f14, f15, f16, f17, x18)
else
  some (0, x7, x8, x9, f10, x11, x12, f13, f14, f15, f16, f17, x18)) fun J79 =>
lp_X8_readDrift_43 t_taped t_tape J79 FU x6 0 (-1) t_number t_newDoing 0 0 f1 f2 t_sign f3 f4 x5) fun J42 =>
if t_taped ≤ 0 then
  J42 0
else
  J42 1

noncomputable def lp_X8_drift_38 (t_base : Int32) (x2 : Int32) (x3 : Int32) (x4 : Int32) (f5 : Nat → Int32) (x6 : Int32) (x7 : Int32) (f8 : Nat → Int32) (f9 : Nat → Int32) (f10 : Nat → Int32) (f11 : Nat → Int32) (f12 : Nat → Int32) (x13 : Int32) : Nat → Int32 → (Nat → Int32) → Option (Int32 × (Nat → Int32) × Int32 × Int32 × Int32 × Int32 × (Nat → Int32) × Int32 × Int32 × (Nat → Int32) × (Nat → Int32) × (Nat → Int32) × (Nat → Int32) × (Nat → Int32) × Int32)
  | 0, _, _ => none
  | n + 1, x16, f17 =>
    if x6 ≤ x16 then
      some (x7, f17, 0, x2, x3, x4, f5, x6, x7, f8, f9, f10, f11, f12, x13)
    else
      ckI x16 84 <|
      bv_1 (pf_X8_put (76 + x16) (f5 x16.toNatClampNeg) f17 t_base) fun f18 =>
      nm (x16 + 1) fun x19 =>
      lp_X8_drift_38 t_base x2 x3 x4 f5 x6 x7 f8 f9 f10 f11 f12 x13 n x19 f18
noncomputable def pf_X8_drift (t_all : Nat → Int32) (t_base : Int32) (t_tape : Nat → Int32) (t_taped : Int32) (t_number : Int32) (t_newDoing : Nat → Int32) (t_open : Nat → Int32) (t_stage : Nat → Int32) (t_sign : Nat → Int32) (t_sumSign : Nat → Int32) (t_productSign : Nat → Int32) : Option (Int32 × (Nat → Int32) × Int32 × Int32 × Int32 × Int32 × (Nat → Int32) × Int32 × Int32 × (Nat → Int32) × (Nat → Int32) × (Nat → Int32) × (Nat → Int32) × (Nat → Int32) × Int32) :=
bi_12 (pf_X8_readDrift t_tape t_taped t_number t_newDoing t_open t_stage t_sign t_sumSign t_productSign) fun r1 x2 x3 x4 f5 x6 x7 f8 f9 f10 f11 f12 x13 =>
if r1 = 0 then
  some ((-1), t_all, 0, x2, x3, x4, f5, x6, x7, f8, f9, f10, f11, f12, x13)
else
  bv_1 (pf_X8_put 74 x7 t_all t_base) fun f14 =>
  bv_1 (pf_X8_put 75 x6 f14 t_base) fun f15 =>
  lp_X8_drift_38 t_base x2 x3 x4 f5 x6 x7 f8 f9 f10 f11 f12 x13 FU 0 f15

noncomputable def pf_X8_weight (a1 : Int32) (t_all : Nat → Int32) (t_base : Int32) : Option (Int32 × Unit) :=
bi_0 (pf_X8_get (9 + a1) t_all t_base) fun r1 =>
bi_0 (pf_X8_get (21 + a1) t_all t_base) fun r2 =>
some ((r1 + r2), ())

noncomputable def pf_X8_asked (a1 : Int32) (a2 : Int32) (t_all : Nat → Int32) (t_base : Int32) : Option (Int32 × Unit) :=
if a1 = 0 then
  some (a2, ())
else
if a1 = 1 then
  bi_0 (pf_X8_get (9 + a2) t_all t_base) fun r1 =>
  some (r1, ())
else
if a1 = 2 then
  bi_0 (pf_X8_weight a2 t_all t_base) fun r2 =>
  some (r2, ())
else
if a1 = 3 then
  bi_0 (pf_X8_get 7 t_all t_base) fun r3 =>
  some (r3, ())
else
bi_0 (pf_X8_get 8 t_all t_base) fun r4 =>
some (r4, ())

noncomputable def pf_X8_joined (a0 : Int32) (a1 : Int32) (a2 : Int32) : Option (Int32 × Unit) :=
if a0 = 10010 then
  some ((a1 + a2), ())
else
if a0 = 10011 then
  some ((a1 - a2), ())
else
if a0 = 10012 then
  some ((a1 * a2), ())
else
if a0 = 10013 then
  if a2 = 0 then
    some (0, ())
  else
    ckD a2 <|
    some ((a1 / a2), ())
else
if a2 = 0 then
  some (0, ())
else
  ckD a2 <|
  some ((a1 - a1 / a2 * a2), ())

noncomputable def lp_X8_driftOf_4 (a1 : Int32) (t_base : Int32) (t_all : Nat → Int32) (J235 : Int32 → (Nat → Int32) → Option (Int32 × (Nat → Int32))) : Nat → Int32 → Int32 → (Nat → Int32) → Option (Int32 × (Nat → Int32))
  | 0, _, _, _ => none
  | n + 1, x3, x4, f5 =>
    bi_0 (pf_X8_get 75 t_all t_base) fun r6 =>
    if r6 ≤ x4 then
      J235 x3 f5
    else
      bi_0 (pf_X8_get (76 + x4) t_all t_base) fun r7 =>
      if 10010 ≤ r7 then
        if 10015 ≤ r7 then
          if r7 = 10015 then
            ckI (x3 - 1) 90 <|
            nm (-(f5 (x3 - 1).toNatClampNeg)) fun x12 =>
            ckI (x3 - 1) 90 <|
            nm (x4 + 1) fun x13 =>
            lp_X8_driftOf_4 a1 t_base t_all J235 n x3 x13 (upd f5 (x3 - 1).toNatClampNeg x12)
          else
            nm (x3 + (-3)) fun x8 =>
            jn (fun (x9 : Int32) =>
            jn (fun (x10 : Int32) =>
            ckI (x8 - 1) 90 <|
            nm (x4 + 1) fun x11 =>
            lp_X8_driftOf_4 a1 t_base t_all J235 n x8 x11 (upd f5 (x8 - 1).toNatClampNeg x10)) fun J228 =>
            if x9 = 0 then
              ckI (x8 + 2) 90 <|
              J228 (f5 (x8 + 2).toNatClampNeg)
            else
              ckI (x8 + 1) 90 <|
              J228 (f5 (x8 + 1).toNatClampNeg)) fun J195 =>
            if r7 = 10016 then
              ckI (x8 - 1) 90 <|
              ckI x8 90 <|
              if (f5 x8.toNatClampNeg) ≤ (f5 (x8 - 1).toNatClampNeg) then
                J195 0
              else
                J195 1
            else
              ckI (x8 - 1) 90 <|
              ckI x8 90 <|
              if (f5 (x8 - 1).toNatClampNeg) = (f5 x8.toNatClampNeg) then
                J195 1
              else
                J195 0
        else
          nm (x3 + (-1)) fun x14 =>
          ckI (x14 - 1) 90 <|
          ckI x14 90 <|
          bi_0 (pf_X8_joined r7 (f5 (x14 - 1).toNatClampNeg) (f5 x14.toNatClampNeg)) fun r15 =>
          ckI (x14 - 1) 90 <|
          nm (x4 + 1) fun x16 =>
          lp_X8_driftOf_4 a1 t_base t_all J235 n x14 x16 (upd f5 (x14 - 1).toNatClampNeg r15)
      else
        jn (fun (x17 : Int32) =>
        ckI x3 90 <|
        nm (x3 + 1) fun x18 =>
        nm (x4 + 1) fun x19 =>
        lp_X8_driftOf_4 a1 t_base t_all J235 n x18 x19 (upd f5 x3.toNatClampNeg x17)) fun J61 =>
        if 10000 ≤ r7 then
          bi_0 (pf_X8_asked (r7 - 10000) a1 t_all t_base) fun r20 =>
          J61 r20
        else
          J61 r7
noncomputable def pf_X8_driftOf (a1 : Int32) (t_all : Nat → Int32) (t_base : Int32) (t_pile : Nat → Int32) : Option (Int32 × (Nat → Int32)) :=
jn (fun (x1 : Int32) (f2 : Nat → Int32) =>
if x1 = 0 then
  some (0, f2)
else
  ckI 0 90 <|
  some ((f2 (0 : Int32).toNatClampNeg), f2)) fun J235 =>
lp_X8_driftOf_4 a1 t_base t_all J235 FU 0 0 t_pile

noncomputable def pf_X8_held (a0 : Int32) (a1 : Int32) (a2 : Int32) : Option (Int32 × Unit) :=
if a1 ≤ a0 then
  if a0 ≤ a2 then
    some (a0, ())
  else
    some (a2, ())
else
  some (a1, ())

noncomputable def lp_X8_hour_109 (t_base : Int32) (f3 : Nat → Int32) (J138 : (Nat → Int32) → Option (Int32 × (Nat → Int32) × (Nat → Int32) × (Nat → Int32))) : Nat → Int32 → (Nat → Int32) → Option (Int32 × (Nat → Int32) × (Nat → Int32) × (Nat → Int32))
  | 0, _, _ => none
  | n + 1, x7, f8 =>
    bi_0 (pf_X8_get 0 f8 t_base) fun r9 =>
    if r9 ≤ x7 then
      J138 f8
    else
      ckI x7 12 <|
      bv_1 (pf_X8_put (21 + x7) (f3 x7.toNatClampNeg) f8 t_base) fun f10 =>
      nm (x7 + 1) fun x11 =>
      lp_X8_hour_109 t_base f3 J138 n x11 f10
noncomputable def lp_X8_hour_4 (t_base : Int32) (t_all : Nat → Int32) (J107 : Int32 → (Nat → Int32) → (Nat → Int32) → Option (Int32 × (Nat → Int32) × (Nat → Int32) × (Nat → Int32))) : Nat → Int32 → Int32 → (Nat → Int32) → (Nat → Int32) → Option (Int32 × (Nat → Int32) × (Nat → Int32) × (Nat → Int32))
  | 0, _, _, _, _ => none
  | n + 1, x12, x13, f14, f15 =>
    bi_0 (pf_X8_get 0 t_all t_base) fun r16 =>
    if r16 ≤ x13 then
      J107 x12 f14 f15
    else
      bi_0 (pf_X8_get (21 + x13) t_all t_base) fun r17 =>
      bi_1 (pf_X8_driftOf x13 t_all t_base f14) fun r18 f19 =>
      bi_0 (pf_X8_held r18 (-9) 9) fun r20 =>
      bi_0 (pf_X8_held (r17 + r20) (-99) 99) fun r21 =>
      bi_0 (pf_X8_get (9 + x13) t_all t_base) fun r22 =>
      jn (fun (x23 : Int32) =>
      ckI x13 12 <|
      ckI x13 12 <|
      bi_0 (pf_X8_get (21 + x13) t_all t_base) fun r24 =>
      if ((upd f15 x13.toNatClampNeg x23) x13.toNatClampNeg) = r24 then
        nm (x12 + 0) fun x25 =>
        nm (x13 + 1) fun x26 =>
        lp_X8_hour_4 t_base t_all J107 n x25 x26 f19 (upd f15 x13.toNatClampNeg x23)
      else
        nm (x12 + 1) fun x27 =>
        nm (x13 + 1) fun x28 =>
        lp_X8_hour_4 t_base t_all J107 n x27 x28 f19 (upd f15 x13.toNatClampNeg x23)) fun J75 =>
      if (1 - r22) ≤ r21 then
        J75 r21
      else
        bi_0 (pf_X8_get (9 + x13) t_all t_base) fun r29 =>
        J75 (1 - r29)
noncomputable def pf_X8_hour (t_all : Nat → Int32) (t_base : Int32) (t_pile : Nat → Int32) (t_nextOff : Nat → Int32) : Option (Int32 × (Nat → Int32) × (Nat → Int32) × (Nat → Int32)) :=
jn (fun (x1 : Int32) (f2 : Nat → Int32) (f3 : Nat → Int32) =>
jn (fun (f4 : Nat → Int32) =>
bi_0 (pf_X8_get 8 f4 t_base) fun r5 =>
bv_1 (pf_X8_put 8 (r5 + 1) f4 t_base) fun f6 =>
some (x1, f6, f2, f3)) fun J138 =>
lp_X8_hour_109 t_base f3 J138 FU 0 t_all) fun J107 =>
lp_X8_hour_4 t_base t_all J107 FU 0 0 t_pile t_nextOff

noncomputable def lp_X8_pass_16 (a1 : Int32) (t_base : Int32) : Nat → Int32 → Int32 → (Nat → Int32) → (Nat → Int32) → (Nat → Int32) → Option (Int32 × (Nat → Int32) × (Nat → Int32) × (Nat → Int32))
  | 0, _, _, _, _, _ => none
  | n + 1, x2, x3, f4, f5, f6 =>
    if a1 ≤ x3 then
      some (x2, f4, f5, f6)
    else
      bi_3 (pf_X8_hour f4 t_base f5 f6) fun r7 f8 f9 f10 =>
      nm (x2 + r7) fun x11 =>
      nm (x3 + 1) fun x12 =>
      lp_X8_pass_16 a1 t_base n x11 x12 f8 f9 f10
noncomputable def pf_X8_pass (a1 : Int32) (t_all : Nat → Int32) (t_base : Int32) (t_pile : Nat → Int32) (t_nextOff : Nat → Int32) : Option (Int32 × (Nat → Int32) × (Nat → Int32) × (Nat → Int32)) :=
bi_0 (pf_X8_isIn a1 1 100) fun r1 =>
if r1 = 0 then
  some ((-1), t_all, t_pile, t_nextOff)
else
  lp_X8_pass_16 a1 t_base FU 0 0 t_all t_pile t_nextOff

noncomputable def pf_X8_heat (a1 : Int32) (t_all : Nat → Int32) (t_base : Int32) : Option (Int32 × (Nat → Int32)) :=
bi_0 (pf_X8_isIn a1 0 99) fun r1 =>
if r1 = 0 then
  some (0, t_all)
else
  bv_1 (pf_X8_put 7 a1 t_all t_base) fun f2 =>
  some (1, f2)

noncomputable def lp_X8_sumOf_5 (a1 : Int32) (a2 : Int32) (t_base : Int32) (t_all : Nat → Int32) : Nat → Int32 → Int32 → Option (Int32 × Unit)
  | 0, _, _ => none
  | n + 1, x1, x2 =>
    if a2 ≤ x2 then
      some (x1, ())
    else
      bi_0 (pf_X8_get (a1 + x2) t_all t_base) fun r3 =>
      nm (x1 + r3) fun x4 =>
      nm (x2 + 1) fun x5 =>
      lp_X8_sumOf_5 a1 a2 t_base t_all n x4 x5
noncomputable def pf_X8_sumOf (a1 : Int32) (a2 : Int32) (t_all : Nat → Int32) (t_base : Int32) : Option (Int32 × Unit) :=
lp_X8_sumOf_5 a1 a2 t_base t_all FU 0 0

noncomputable def pf_X8_reach (a1 : Int32) (t_all : Nat → Int32) (t_base : Int32) : Option (Int32 × Unit) :=
bi_0 (pf_X8_sumOf 9 a1 t_all t_base) fun r1 =>
bi_0 (pf_X8_sumOf 21 a1 t_all t_base) fun r2 =>
some ((r1 + r2), ())

noncomputable def pf_X8_is (a1 : Int32) (t_all : Nat → Int32) (t_base : Int32) (t_taped : Int32) : Option (Int32 × Unit) :=
bi_0 (pf_X8_get 0 t_all t_base) fun r1 =>
bi_0 (pf_X8_isIn a1 1 6) fun r2 =>
if r2 = 0 then
  if a1 = 0 then
    some (r1, ())
  else
  if a1 = 1 then
    some ((-100000), ())
  else
  if a1 = 2 then
    some ((-100000), ())
  else
  if a1 = 3 then
    some ((-100000), ())
  else
  if a1 = 4 then
    some ((-100000), ())
  else
  if a1 = 5 then
    some ((-100000), ())
  else
  if a1 = 6 then
    some ((-100000), ())
  else
  if a1 = 7 then
    bi_0 (pf_X8_get 57 t_all t_base) fun r3 =>
    some (r3, ())
  else
  if a1 = 8 then
    some (t_taped, ())
  else
  if a1 = 9 then
    bi_0 (pf_X8_reach r1 t_all t_base) fun r4 =>
    some (r4, ())
  else
  if a1 = 10 then
    bi_0 (pf_X8_sumOf 33 r1 t_all t_base) fun r5 =>
    some (r5, ())
  else
  if a1 = 11 then
    bi_0 (pf_X8_get 7 t_all t_base) fun r6 =>
    some (r6, ())
  else
  if a1 = 12 then
    bi_0 (pf_X8_get 8 t_all t_base) fun r7 =>
    some (r7, ())
  else
  some ((-100000), ())
else
  bi_0 (pf_X8_get a1 t_all t_base) fun r8 =>
  some (r8, ())

noncomputable def pf_X8_isBit (a1 : Int32) (t_all : Nat → Int32) (t_base : Int32) : Option (Int32 × Unit) :=
bi_0 (pf_X8_get 0 t_all t_base) fun r1 =>
bi_0 (pf_X8_isIn a1 0 (r1 - 1)) fun r2 =>
ckZ r2 <|
some (r2, ())

noncomputable def pf_X8_isShort (a1 : Int32) (t_all : Nat → Int32) (t_base : Int32) : Option (Int32 × Unit) :=
bi_0 (pf_X8_weight a1 t_all t_base) fun r1 =>
bi_0 (pf_X8_reach a1 t_all t_base) fun r2 =>
if r1 ≤ r2 then
  some (0, ())
else
  some (1, ())

noncomputable def pf_X8_bit (a1 : Int32) (a2 : Int32) (t_all : Nat → Int32) (t_base : Int32) : Option (Int32 × Unit) :=
bi_0 (pf_X8_isBit a1 t_all t_base) fun r1 =>
if r1 = 0 then
  some ((-100000), ())
else
  if a2 = 0 then
    bi_0 (pf_X8_get (9 + a1) t_all t_base) fun r2 =>
    some (r2, ())
  else
  if a2 = 1 then
    bi_0 (pf_X8_get (21 + a1) t_all t_base) fun r3 =>
    some (r3, ())
  else
  if a2 = 2 then
    bi_0 (pf_X8_get (33 + a1) t_all t_base) fun r4 =>
    some (r4, ())
  else
  if a2 = 3 then
    bi_0 (pf_X8_get (45 + a1) t_all t_base) fun r5 =>
    some (r5, ())
  else
  if a2 = 4 then
    bi_0 (pf_X8_weight a1 t_all t_base) fun r6 =>
    some (r6, ())
  else
  if a2 = 5 then
    bi_0 (pf_X8_isShort a1 t_all t_base) fun r7 =>
    if r7 = 0 then
      some (0, ())
    else
      some (1, ())
  else
  some ((-100000), ())

noncomputable def pf_X8_off (a1 : Int32) (a2 : Int32) (t_all : Nat → Int32) (t_base : Int32) : Option (Int32 × (Nat → Int32)) :=
bi_0 (pf_X8_isBit a1 t_all t_base) fun r1 =>
if r1 = 0 then
  some (0, t_all)
else
  bi_0 (pf_X8_isIn a2 (-99) 99) fun r2 =>
  if r2 = 0 then
    some (0, t_all)
  else
    bi_0 (pf_X8_get (9 + a1) t_all t_base) fun r3 =>
    if 1 ≤ (r3 + a2) then
      bv_1 (pf_X8_put (21 + a1) a2 t_all t_base) fun f4 =>
      some (1, f4)
    else
      some (0, t_all)

noncomputable def pf_X8_set (a1 : Int32) (a2 : Int32) (t_all : Nat → Int32) (t_base : Int32) (t_lows : Nat → Int32) (t_tops : Nat → Int32) : Option (Int32 × (Nat → Int32)) :=
bi_0 (pf_X8_isIn a1 0 4) fun r1 =>
if r1 = 0 then
  some (0, t_all)
else
  ckI a1 5 <|
  ckI a1 5 <|
  bi_0 (pf_X8_isIn a2 (t_lows a1.toNatClampNeg) (t_tops a1.toNatClampNeg)) fun r2 =>
  if r2 = 0 then
    some (0, t_all)
  else
    bv_1 (pf_X8_put (1 + a1) a2 t_all t_base) fun f3 =>
    some (1, f3)

noncomputable def pf_X8_stick (a1 : Int32) (a2 : Int32) (t_all : Nat → Int32) (t_base : Int32) : Option (Int32 × (Nat → Int32)) :=
bi_0 (pf_X8_isBit a1 t_all t_base) fun r1 =>
if r1 = 0 then
  some (0, t_all)
else
  bi_0 (pf_X8_isIn a2 (-1) 1) fun r2 =>
  if r2 = 0 then
    some (0, t_all)
  else
    bv_1 (pf_X8_put (45 + a1) a2 t_all t_base) fun f3 =>
    some (1, f3)

noncomputable def pf_X8_seed (a1 : Int32) (t_all : Nat → Int32) (t_base : Int32) : Option (Int32 × (Nat → Int32)) :=
bi_0 (pf_X8_get 6 t_all t_base) fun r1 =>
bv_1 (pf_X8_put 6 a1 t_all t_base) fun f2 =>
some (r1, f2)

noncomputable def pf_X8_draw (a1 : Int32) (t_all : Nat → Int32) (t_base : Int32) : Option (Int32 × (Nat → Int32)) :=
bi_0 (pf_X8_get 6 t_all t_base) fun r1 =>
bv_1 (pf_X8_put 6 ((r1 * 1103515245) + 12345) t_all t_base) fun f2 =>
bi_0 (pf_X8_get 6 f2 t_base) fun r3 =>
ckD a1 <|
some ((((r3).toUInt32 >>> ((16 : Int32).toUInt32 &&& Int32.toUInt32 31)).toInt32 - ((r3).toUInt32 >>> ((16 : Int32).toUInt32 &&& Int32.toUInt32 31)).toInt32 / a1 * a1), f2)

noncomputable def pf_X8_decide (a1 : Int32) (a2 : Int32) (t_all : Nat → Int32) (t_base : Int32) (t_wasLate : Nat → Int32) (t_onPaper : Int32) (t_turned : Int32) : Option (Int32 × (Nat → Int32) × (Nat → Int32)) :=
bi_0 (pf_X8_get 2 t_all t_base) fun r1 =>
bi_0 (pf_X8_get (45 + a1) t_all t_base) fun r2 =>
jn (fun (x3 : Int32) =>
ckI a1 12 <|
jn (fun (x4 : Int32) =>
bi_0 (pf_X8_get (45 + a1) t_all t_base) fun r5 =>
jn (fun (x6 : Int32) (f7 : Nat → Int32) =>
if a1 = t_turned then
  some ((1 - x6), f7, (upd t_wasLate a1.toNatClampNeg (vp_nar .boolean x3)))
else
  some (x6, f7, (upd t_wasLate a1.toNatClampNeg (vp_nar .boolean x3)))) fun J127 =>
if r5 = (-1) then
  ckI a1 12 <|
  if ((upd t_wasLate a1.toNatClampNeg (vp_nar .boolean x3)) a1.toNatClampNeg) = 0 then
    J127 x4 t_all
  else
    if t_onPaper = 0 then
      bi_0 (pf_X8_get 3 t_all t_base) fun r8 =>
      if 3 ≤ r8 then
        J127 x4 t_all
      else
        bi_0 (pf_X8_get 3 t_all t_base) fun r9 =>
        jn (fun (x10 : Int32) (f11 : Nat → Int32) =>
        J127 x10 f11) fun J125 =>
        if r9 = 2 then
          bi_1 (pf_X8_draw 2 t_all t_base) fun r13 f14 =>
          J125 r13 f14
        else
          bi_0 (pf_X8_get 3 t_all t_base) fun r12 =>
          J125 (1 - r12) t_all
    else
      J127 x4 t_all
else
  bi_0 (pf_X8_get (45 + a1) t_all t_base) fun r15 =>
  J127 r15 t_all) fun J49 =>
if a2 < 0 then
  J49 0
else
  J49 1) fun J39 =>
jn (J39 0) fun J38 =>
if r2 = (-1) then
  if a2 ≤ (-r1) then
    J38
  else
    if r1 ≤ a2 then
      J38
    else
      J39 1
else
  J38

noncomputable def lp_X8_goThrough_33 (a1 : Int32) (a3 : Int32) (t_base : Int32) (t_onPaper : Int32) (t_turned : Int32) (x1 : Int32) : Nat → Int32 → (Nat → Int32) → (Nat → Int32) → (Nat → Int32) → (Nat → Int32) → (Nat → Int32) → Int32 → Int32 → Option ((Nat → Int32) × (Nat → Int32) × (Nat → Int32) × (Nat → Int32) × (Nat → Int32) × Int32 × Int32)
  | 0, _, _, _, _, _, _, _, _ => none
  | n + 1, x3, f4, f5, f6, f7, f8, x9, x10 =>
    if x3 < 0 then
      some (f4, f5, f6, f7, f8, x9, x10)
    else
      bi_0 (pf_X8_weight x3 f4 t_base) fun r11 =>
      nm (((a1 + a3) - x10) - r11) fun x12 =>
      jn (fun (x13 : Int32) (f14 : Nat → Int32) =>
      bi_2 (pf_X8_decide x3 x13 f14 t_base f6 t_onPaper t_turned) fun r15 f16 f17 =>
      ckI x3 12 <|
      ckI x3 12 <|
      jn (fun (x18 : Int32) (x19 : Int32) =>
      ckI x3 12 <|
      nm (x3 + (-1)) fun x20 =>
      lp_X8_goThrough_33 a1 a3 t_base t_onPaper t_turned x1 n x20 f16 (upd f5 x3.toNatClampNeg r15) f17 (upd f7 x3.toNatClampNeg x13) (upd f8 x3.toNatClampNeg x19) x18 x19) fun J145 =>
      if r15 = 1 then
        bi_0 (pf_X8_weight x3 f16 t_base) fun r21 =>
        nm (x10 + r21) fun x22 =>
        bi_0 (pf_X8_get (33 + x3) f16 t_base) fun r23 =>
        nm (x9 + r23) fun x24 =>
        J145 x24 x22
      else
        J145 x9 x10) fun J78 =>
      if x1 ≤ 0 then
        J78 x12 f4
      else
        bi_1 (pf_X8_draw ((x1 * 2) + 1) f4 t_base) fun r25 f26 =>
        nm (x12 + (r25 - x1)) fun x27 =>
        J78 x27 f26
noncomputable def pf_X8_goThrough (a1 : Int32) (a2 : Int32) (a3 : Int32) (t_all : Nat → Int32) (t_base : Int32) (t_decided : Nat → Int32) (t_wasLate : Nat → Int32) (t_askedOf : Nat → Int32) (t_heldBehind : Nat → Int32) (t_onPaper : Int32) (t_turned : Int32) : Option ((Nat → Int32) × (Nat → Int32) × (Nat → Int32) × (Nat → Int32) × (Nat → Int32) × Int32 × Int32) :=
jn (fun (x1 : Int32) =>
nm (a2 - 1) fun x2 =>
lp_X8_goThrough_33 a1 a3 t_base t_onPaper t_turned x1 FU x2 t_all t_decided t_wasLate t_askedOf t_heldBehind 0 0) fun J26 =>
if t_onPaper = 0 then
  bi_0 (pf_X8_get 4 t_all t_base) fun r28 =>
  J26 r28
else
  J26 0

noncomputable def pf_X8_codeNow (t_all : Nat → Int32) (t_base : Int32) (t_sum : Int32) : Option (Int32 × Unit) :=
bi_0 (pf_X8_get 5 t_all t_base) fun r1 =>
bi_0 (pf_X8_get 5 t_all t_base) fun r2 =>
ckD (r2 * 2) <|
some ((((t_sum * 2) + r1) / (r2 * 2)), ())

noncomputable def pf_X8_paperCode (a1 : Int32) (t_all : Nat → Int32) (t_base : Int32) (t_decided : Nat → Int32) (t_wasLate : Nat → Int32) (t_askedOf : Nat → Int32) (t_heldBehind : Nat → Int32) (t_turned : Int32) : Option (Int32 × (Nat → Int32) × (Nat → Int32) × (Nat → Int32) × (Nat → Int32) × (Nat → Int32) × Int32 × Int32 × Int32) :=
bi_0 (pf_X8_get 0 t_all t_base) fun r1 =>
bi_0 (pf_X8_get 1 t_all t_base) fun r2 =>
bv_7 (pf_X8_goThrough a1 r1 r2 t_all t_base t_decided t_wasLate t_askedOf t_heldBehind 1 t_turned) fun f3 f4 f5 f6 f7 x8 x9 =>
bi_0 (pf_X8_codeNow f3 t_base x8) fun r10 =>
some (r10, f3, f4, f5, f6, f7, x8, x9, 0)

noncomputable def pf_X8_isX (a0 : Int32) : Option (Int32 × Unit) :=
bi_0 (pf_X8_isIn a0 (-100000) 100000) fun r1 =>
ckZ r1 <|
some (r1, ())

noncomputable def lp_X8_convert_90 (f5 : Nat → Int32) (f6 : Nat → Int32) (f7 : Nat → Int32) (f8 : Nat → Int32) (f9 : Nat → Int32) (x10 : Int32) (x11 : Int32) (r12 : Int32) (x14 : Int32) (r15 : Int32) : Nat → Int32 → (Nat → Int32) → Option (Int32 × (Nat → Int32) × (Nat → Int32) × (Nat → Int32) × (Nat → Int32) × (Nat → Int32) × Int32 × Int32 × Int32 × Int32 × Int32 × Int32 × Int32 × Int32 × (Nat → Int32))
  | 0, _, _ => none
  | n + 1, x16, f17 =>
    if r12 ≤ x16 then
      some (r15, f5, f6, f7, f8, f9, x10, x11, 1, r12, x10, x11, x14, r15, f17)
    else
      ckI x16 12 <|
      nm (f6 x16.toNatClampNeg) fun x18 =>
      ckI x16 48 <|
      ckI x16 12 <|
      jn (fun (x19 : Int32) =>
      ckI (12 + x16) 48 <|
      ckI x16 12 <|
      nm (f8 x16.toNatClampNeg) fun x20 =>
      ckI (24 + x16) 48 <|
      ckI x16 12 <|
      nm (f9 x16.toNatClampNeg) fun x21 =>
      ckI (36 + x16) 48 <|
      nm (x16 + 1) fun x22 =>
      lp_X8_convert_90 f5 f6 f7 f8 f9 x10 x11 r12 x14 r15 n x22 (upd (upd (upd (upd f17 x16.toNatClampNeg x18) (12 + x16).toNatClampNeg x19) (24 + x16).toNatClampNeg x20) (36 + x16).toNatClampNeg x21)) fun J132 =>
      if (f7 x16.toNatClampNeg) = 0 then
        J132 0
      else
        J132 1
noncomputable def pf_X8_convert (a1 : Int32) (t_all : Nat → Int32) (t_base : Int32) (t_decided : Nat → Int32) (t_wasLate : Nat → Int32) (t_askedOf : Nat → Int32) (t_heldBehind : Nat → Int32) (t_sum : Int32) (t_heldAll : Int32) (t_onPaper : Int32) (t_turned : Int32) (t_wasConverted : Int32) (t_lastBits : Int32) (t_lastSum : Int32) (t_lastHeld : Int32) (t_lastLeft : Int32) (t_lastCode : Int32) (t_last : Nat → Int32) : Option (Int32 × (Nat → Int32) × (Nat → Int32) × (Nat → Int32) × (Nat → Int32) × (Nat → Int32) × Int32 × Int32 × Int32 × Int32 × Int32 × Int32 × Int32 × Int32 × (Nat → Int32)) :=
bi_0 (pf_X8_isX a1) fun r1 =>
if r1 = 0 then
  some ((-1000000), t_all, t_decided, t_wasLate, t_askedOf, t_heldBehind, t_sum, t_heldAll, t_wasConverted, t_lastBits, t_lastSum, t_lastHeld, t_lastLeft, t_lastCode, t_last)
else
  bi_0 (pf_X8_get 0 t_all t_base) fun r2 =>
  if r2 = 0 then
    some ((-1000000), t_all, t_decided, t_wasLate, t_askedOf, t_heldBehind, t_sum, t_heldAll, t_wasConverted, t_lastBits, t_lastSum, t_lastHeld, t_lastLeft, t_lastCode, t_last)
  else
    bi_0 (pf_X8_get 0 t_all t_base) fun r3 =>
    bi_0 (pf_X8_get 1 t_all t_base) fun r4 =>
    bv_7 (pf_X8_goThrough a1 r3 r4 t_all t_base t_decided t_wasLate t_askedOf t_heldBehind t_onPaper t_turned) fun f5 f6 f7 f8 f9 x10 x11 =>
    bi_0 (pf_X8_get 0 f5 t_base) fun r12 =>
    bi_0 (pf_X8_get 1 f5 t_base) fun r13 =>
    nm ((a1 + r13) - x11) fun x14 =>
    bi_0 (pf_X8_codeNow f5 t_base x10) fun r15 =>
    lp_X8_convert_90 f5 f6 f7 f8 f9 x10 x11 r12 x14 r15 FU 0 t_last

noncomputable def pf_X8_decision (a1 : Int32) (a2 : Int32) (t_wasConverted : Int32) (t_lastBits : Int32) (t_last : Nat → Int32) : Option (Int32 × Unit) :=
if t_wasConverted = 0 then
  some ((-1000000), ())
else
  bi_0 (pf_X8_isIn a1 0 (t_lastBits - 1)) fun r1 =>
  if r1 = 0 then
    some ((-1000000), ())
  else
    bi_0 (pf_X8_isIn a2 0 3) fun r2 =>
    if r2 = 0 then
      some ((-1000000), ())
    else
      ckI ((12 * a2) + a1) 48 <|
      some ((t_last ((12 * a2) + a1).toNatClampNeg), ())

noncomputable def lp_X8_countLast_4 (a1 : Int32) (t_lastBits : Int32) (t_last : Nat → Int32) : Nat → Int32 → Int32 → Option (Int32 × Unit)
  | 0, _, _ => none
  | n + 1, x1, x2 =>
    if t_lastBits ≤ x2 then
      some (x1, ())
    else
      ckI ((12 * a1) + x2) 48 <|
      nm (x1 + (t_last ((12 * a1) + x2).toNatClampNeg)) fun x3 =>
      nm (x2 + 1) fun x4 =>
      lp_X8_countLast_4 a1 t_lastBits t_last n x3 x4
noncomputable def pf_X8_countLast (a1 : Int32) (t_lastBits : Int32) (t_last : Nat → Int32) : Option (Int32 × Unit) :=
lp_X8_countLast_4 a1 t_lastBits t_last FU 0 0

noncomputable def pf_X8_converted (a1 : Int32) (t_wasConverted : Int32) (t_lastBits : Int32) (t_lastSum : Int32) (t_lastHeld : Int32) (t_lastLeft : Int32) (t_lastCode : Int32) (t_last : Nat → Int32) : Option (Int32 × Unit) :=
if t_wasConverted = 0 then
  some ((-1000000), ())
else
  if a1 = 0 then
    some (t_lastSum, ())
  else
  if a1 = 1 then
    some (t_lastHeld, ())
  else
  if a1 = 2 then
    some (t_lastLeft, ())
  else
  if a1 = 3 then
    bi_0 (pf_X8_countLast 1 t_lastBits t_last) fun r1 =>
    some (r1, ())
  else
  if a1 = 4 then
    bi_0 (pf_X8_countLast 0 t_lastBits t_last) fun r2 =>
    some (r2, ())
  else
  if a1 = 5 then
    some (t_lastCode, ())
  else
  some ((-1000000), ())

noncomputable def lp_X8_write_19 (t_lastBits : Int32) (t_last : Nat → Int32) : Nat → Int32 → (Nat → Int32) → Option (Int32 × (Nat → Int32) × Int32)
  | 0, _, _ => none
  | n + 1, x1, f2 =>
    if t_lastBits ≤ x1 then
      some (t_lastBits, f2, t_lastBits)
    else
      ckI x1 48 <|
      jn (fun (x3 : Int32) =>
      ckI (12 + x1) 48 <|
      jn (fun (x4 : Int32) =>
      nm (x4.toInt8.toInt32) fun x5 =>
      ckI ((t_lastBits - 1) - x1) 12 <|
      nm (x1 + 1) fun x6 =>
      lp_X8_write_19 t_lastBits t_last n x6 (upd f2 ((t_lastBits - 1) - x1).toNatClampNeg (vp_nar .byte x5))) fun J93 =>
      if (t_last (12 + x1).toNatClampNeg) = 1 then
        if x3 = 0 then
          J93 45
        else
          J93 43
      else
        if x3 = 0 then
          J93 48
        else
          J93 49) fun J42 =>
      if (t_last x1.toNatClampNeg) = 1 then
        J42 1
      else
        J42 0
noncomputable def pf_X8_write (t_wasConverted : Int32) (t_lastBits : Int32) (t_last : Nat → Int32) (t_written : Nat → Int32) (t_writtenLong : Int32) : Option (Int32 × (Nat → Int32) × Int32) :=
if t_wasConverted = 0 then
  some ((-1), t_written, t_writtenLong)
else
  lp_X8_write_19 t_lastBits t_last FU 0 t_written

noncomputable def pf_X8_octet (a1 : Int32) (t_written : Nat → Int32) (t_writtenLong : Int32) : Option (Int32 × Unit) :=
bi_0 (pf_X8_isIn a1 0 (t_writtenLong - 1)) fun r1 =>
if r1 = 0 then
  some ((-1), ())
else
  ckI a1 12 <|
  some ((t_written a1.toNatClampNeg), ())

noncomputable def lp_X8_learnNow_54 (a2 : Int32) (t_base : Int32) (t_onPaper : Int32) (t_turned : Int32) (x3 : Int32) (J119 : Int32 → (Nat → Int32) → (Nat → Int32) → (Nat → Int32) → (Nat → Int32) → (Nat → Int32) → Int32 → Int32 → Option ((Nat → Int32) × (Nat → Int32) × (Nat → Int32) × (Nat → Int32) × (Nat → Int32) × Int32 × Int32)) : Nat → Int32 → Int32 → (Nat → Int32) → (Nat → Int32) → (Nat → Int32) → (Nat → Int32) → (Nat → Int32) → Int32 → Int32 → Option ((Nat → Int32) × (Nat → Int32) × (Nat → Int32) × (Nat → Int32) × (Nat → Int32) × Int32 × Int32)
  | 0, _, _, _, _, _, _, _, _, _ => none
  | n + 1, x21, x22, f23, f24, f25, f26, f27, x28, x29 =>
    if a2 ≤ x22 then
      J119 x21 f23 f24 f25 f26 f27 x28 x29
    else
      bi_0 (pf_X8_weight x3 f23 t_base) fun r30 =>
      bi_0 (pf_X8_get 1 f23 t_base) fun r31 =>
      bv_7 (pf_X8_goThrough r30 x3 r31 f23 t_base f24 f25 f26 f27 t_onPaper t_turned) fun f32 f33 f34 f35 f36 x37 x38 =>
      nm (x21 + x37) fun x39 =>
      bi_0 (pf_X8_weight x3 f32 t_base) fun r40 =>
      bi_0 (pf_X8_get 1 f32 t_base) fun r41 =>
      bv_7 (pf_X8_goThrough r40 x3 (-r41) f32 t_base f33 f34 f35 f36 t_onPaper t_turned) fun f42 f43 f44 f45 f46 x47 x48 =>
      nm (x39 + x47) fun x49 =>
      nm (x22 + 1) fun x50 =>
      lp_X8_learnNow_54 a2 t_base t_onPaper t_turned x3 J119 n x49 x50 f42 f43 f44 f45 f46 x47 x48
noncomputable def lp_X8_learnNow_42 (a2 : Int32) (t_base : Int32) (t_onPaper : Int32) (t_turned : Int32) (r1 : Int32) : Nat → Int32 → (Nat → Int32) → (Nat → Int32) → (Nat → Int32) → (Nat → Int32) → (Nat → Int32) → Int32 → Int32 → Option ((Nat → Int32) × (Nat → Int32) × (Nat → Int32) × (Nat → Int32) × (Nat → Int32) × Int32 × Int32)
  | 0, _, _, _, _, _, _, _, _ => none
  | n + 1, x3, f4, f5, f6, f7, f8, x9, x10 =>
    if r1 ≤ x3 then
      some (f4, f5, f6, f7, f8, x9, x10)
    else
      jn (fun (x11 : Int32) (f12 : Nat → Int32) (f13 : Nat → Int32) (f14 : Nat → Int32) (f15 : Nat → Int32) (f16 : Nat → Int32) (x17 : Int32) (x18 : Int32) =>
      ckD (2 * a2) <|
      bv_1 (pf_X8_put (33 + x3) ((x11 + a2) / (2 * a2)) f12 t_base) fun f19 =>
      nm (x3 + 1) fun x20 =>
      lp_X8_learnNow_42 a2 t_base t_onPaper t_turned r1 n x20 f19 f13 f14 f15 f16 x17 x18) fun J119 =>
      lp_X8_learnNow_54 a2 t_base t_onPaper t_turned x3 J119 FU 0 0 f4 f5 f6 f7 f8 x9 x10
noncomputable def lp_X8_learnNow_9 (a1 : Int32) (t_base : Int32) (J39 : (Nat → Int32) → Option ((Nat → Int32) × (Nat → Int32) × (Nat → Int32) × (Nat → Int32) × (Nat → Int32) × Int32 × Int32)) : Nat → Int32 → (Nat → Int32) → Option ((Nat → Int32) × (Nat → Int32) × (Nat → Int32) × (Nat → Int32) × (Nat → Int32) × Int32 × Int32)
  | 0, _, _ => none
  | n + 1, x51, f52 =>
    if a1 ≤ x51 then
      J39 f52
    else
      bi_0 (pf_X8_get (9 + x51) f52 t_base) fun r53 =>
      bv_1 (pf_X8_put (33 + x51) r53 f52 t_base) fun f54 =>
      nm (x51 + 1) fun x55 =>
      lp_X8_learnNow_9 a1 t_base J39 n x55 f54
noncomputable def pf_X8_learnNow (a1 : Int32) (a2 : Int32) (t_all : Nat → Int32) (t_base : Int32) (t_decided : Nat → Int32) (t_wasLate : Nat → Int32) (t_askedOf : Nat → Int32) (t_heldBehind : Nat → Int32) (t_sum : Int32) (t_heldAll : Int32) (t_onPaper : Int32) (t_turned : Int32) : Option ((Nat → Int32) × (Nat → Int32) × (Nat → Int32) × (Nat → Int32) × (Nat → Int32) × Int32 × Int32) :=
bi_0 (pf_X8_get 0 t_all t_base) fun r1 =>
jn (fun (f2 : Nat → Int32) =>
lp_X8_learnNow_42 a2 t_base t_onPaper t_turned r1 FU a1 f2 t_decided t_wasLate t_askedOf t_heldBehind t_sum t_heldAll) fun J39 =>
lp_X8_learnNow_9 a1 t_base J39 FU 0 t_all

noncomputable def pf_X8_learnOnPaper (a1 : Int32) (t_all : Nat → Int32) (t_base : Int32) (t_decided : Nat → Int32) (t_wasLate : Nat → Int32) (t_askedOf : Nat → Int32) (t_heldBehind : Nat → Int32) (t_sum : Int32) (t_heldAll : Int32) (t_turned : Int32) : Option ((Nat → Int32) × (Nat → Int32) × (Nat → Int32) × (Nat → Int32) × (Nat → Int32) × Int32 × Int32 × Int32) :=
bv_7 (pf_X8_learnNow a1 1 t_all t_base t_decided t_wasLate t_askedOf t_heldBehind t_sum t_heldAll 1 t_turned) fun f1 f2 f3 f4 f5 x6 x7 =>
some (f1, f2, f3, f4, f5, x6, x7, 0)

noncomputable def lp_X8_learn_39 (t_base : Int32) (r1 : Int32) (f4 : Nat → Int32) (f5 : Nat → Int32) (f6 : Nat → Int32) (f7 : Nat → Int32) (f8 : Nat → Int32) (x9 : Int32) (x10 : Int32) : Nat → Int32 → Int32 → Option (Int32 × (Nat → Int32) × (Nat → Int32) × (Nat → Int32) × (Nat → Int32) × (Nat → Int32) × Int32 × Int32)
  | 0, _, _ => none
  | n + 1, x11, x12 =>
    if r1 ≤ x12 then
      some (x11, f4, f5, f6, f7, f8, x9, x10)
    else
      bi_0 (pf_X8_isShort x12 f4 t_base) fun r13 =>
      if r13 = 0 then
        nm (x11 + 0) fun x14 =>
        nm (x12 + 1) fun x15 =>
        lp_X8_learn_39 t_base r1 f4 f5 f6 f7 f8 x9 x10 n x14 x15
      else
        nm (x11 + 1) fun x16 =>
        nm (x12 + 1) fun x17 =>
        lp_X8_learn_39 t_base r1 f4 f5 f6 f7 f8 x9 x10 n x16 x17
noncomputable def pf_X8_learn (a1 : Int32) (a2 : Int32) (t_all : Nat → Int32) (t_base : Int32) (t_decided : Nat → Int32) (t_wasLate : Nat → Int32) (t_askedOf : Nat → Int32) (t_heldBehind : Nat → Int32) (t_sum : Int32) (t_heldAll : Int32) (t_onPaper : Int32) (t_turned : Int32) : Option (Int32 × (Nat → Int32) × (Nat → Int32) × (Nat → Int32) × (Nat → Int32) × (Nat → Int32) × Int32 × Int32) :=
bi_0 (pf_X8_get 0 t_all t_base) fun r1 =>
bi_0 (pf_X8_isIn a1 1 r1) fun r2 =>
if r2 = 0 then
  some ((-1), t_all, t_decided, t_wasLate, t_askedOf, t_heldBehind, t_sum, t_heldAll)
else
  bi_0 (pf_X8_isIn a2 1 8) fun r3 =>
  if r3 = 0 then
    some ((-1), t_all, t_decided, t_wasLate, t_askedOf, t_heldBehind, t_sum, t_heldAll)
  else
    bv_7 (pf_X8_learnNow a1 a2 t_all t_base t_decided t_wasLate t_askedOf t_heldBehind t_sum t_heldAll t_onPaper t_turned) fun f4 f5 f6 f7 f8 x9 x10 =>
    lp_X8_learn_39 t_base r1 f4 f5 f6 f7 f8 x9 x10 FU 0 a1

noncomputable def lp_X8_forget_4 (t_base : Int32) : Nat → Int32 → Int32 → (Nat → Int32) → Option (Int32 × (Nat → Int32))
  | 0, _, _, _ => none
  | n + 1, x1, x2, f3 =>
    bi_0 (pf_X8_get 0 f3 t_base) fun r4 =>
    if r4 ≤ x2 then
      some (x1, f3)
    else
      bi_0 (pf_X8_get (33 + x2) f3 t_base) fun r5 =>
      bi_0 (pf_X8_get (9 + x2) f3 t_base) fun r6 =>
      jn (fun (x7 : Int32) =>
      nm (x1 + x7) fun x8 =>
      bi_0 (pf_X8_get (9 + x2) f3 t_base) fun r9 =>
      bv_1 (pf_X8_put (33 + x2) r9 f3 t_base) fun f10 =>
      nm (x2 + 1) fun x11 =>
      lp_X8_forget_4 t_base n x8 x11 f10) fun J38 =>
      if r5 = r6 then
        J38 0
      else
        J38 1
noncomputable def pf_X8_forget (t_all : Nat → Int32) (t_base : Int32) : Option (Int32 × (Nat → Int32)) :=
lp_X8_forget_4 t_base FU 0 0 t_all

noncomputable def pf_X8_code (a1 : Int32) (t_all : Nat → Int32) (t_base : Int32) (t_decided : Nat → Int32) (t_wasLate : Nat → Int32) (t_askedOf : Nat → Int32) (t_heldBehind : Nat → Int32) (t_sum : Int32) (t_heldAll : Int32) (t_onPaper : Int32) (t_turned : Int32) : Option (Int32 × (Nat → Int32) × (Nat → Int32) × (Nat → Int32) × (Nat → Int32) × (Nat → Int32) × Int32 × Int32 × Int32) :=
bi_0 (pf_X8_isX a1) fun r1 =>
if r1 = 0 then
  some ((-1000000), t_all, t_decided, t_wasLate, t_askedOf, t_heldBehind, t_sum, t_heldAll, t_onPaper)
else
  bi_0 (pf_X8_get 0 t_all t_base) fun r2 =>
  if r2 ≤ 0 then
    some ((-1000000), t_all, t_decided, t_wasLate, t_askedOf, t_heldBehind, t_sum, t_heldAll, t_onPaper)
  else
    bi_8 (pf_X8_paperCode a1 t_all t_base t_decided t_wasLate t_askedOf t_heldBehind t_turned) fun r3 f4 f5 f6 f7 f8 x9 x10 x11 =>
    some (r3, f4, f5, f6, f7, f8, x9, x10, x11)

noncomputable def pf_X8_isForgiven (a1 : Int32) (a2 : Int32) (t_all : Nat → Int32) (t_base : Int32) (t_decided : Nat → Int32) (t_wasLate : Nat → Int32) (t_askedOf : Nat → Int32) (t_heldBehind : Nat → Int32) (t_turned : Int32) : Option (Int32 × (Nat → Int32) × (Nat → Int32) × (Nat → Int32) × (Nat → Int32) × (Nat → Int32) × Int32 × Int32 × Int32 × Int32) :=
bi_8 (pf_X8_paperCode a1 t_all t_base t_decided t_wasLate t_askedOf t_heldBehind t_turned) fun r1 f2 f3 f4 f5 f6 x7 x8 x9 =>
bi_8 (pf_X8_paperCode a1 f2 t_base f3 f4 f5 f6 a2) fun r10 f11 f12 f13 f14 f15 x16 x17 x18 =>
if r1 = r10 then
  some (1, f11, f12, f13, f14, f15, x16, x17, x18, (-1))
else
  some (0, f11, f12, f13, f14, f15, x16, x17, x18, (-1))

noncomputable def pf_X8_forgiven (a1 : Int32) (a2 : Int32) (t_all : Nat → Int32) (t_base : Int32) (t_decided : Nat → Int32) (t_wasLate : Nat → Int32) (t_askedOf : Nat → Int32) (t_heldBehind : Nat → Int32) (t_sum : Int32) (t_heldAll : Int32) (t_onPaper : Int32) (t_turned : Int32) : Option (Int32 × (Nat → Int32) × (Nat → Int32) × (Nat → Int32) × (Nat → Int32) × (Nat → Int32) × Int32 × Int32 × Int32 × Int32) :=
bi_0 (pf_X8_isX a1) fun r1 =>
if r1 = 0 then
  some ((-1), t_all, t_decided, t_wasLate, t_askedOf, t_heldBehind, t_sum, t_heldAll, t_onPaper, t_turned)
else
  bi_0 (pf_X8_isBit a2 t_all t_base) fun r2 =>
  if r2 = 0 then
    some ((-1), t_all, t_decided, t_wasLate, t_askedOf, t_heldBehind, t_sum, t_heldAll, t_onPaper, t_turned)
  else
    bi_9 (pf_X8_isForgiven a1 a2 t_all t_base t_decided t_wasLate t_askedOf t_heldBehind t_turned) fun r3 f4 f5 f6 f7 f8 x9 x10 x11 x12 =>
    if r3 = 0 then
      some (0, f4, f5, f6, f7, f8, x9, x10, x11, x12)
    else
      some (1, f4, f5, f6, f7, f8, x9, x10, x11, x12)

noncomputable def lp_X8_slackOf_14 (a1 : Int32) (t_base : Int32) (x3 : Int32) : Nat → Int32 → (Nat → Int32) → (Nat → Int32) → (Nat → Int32) → (Nat → Int32) → (Nat → Int32) → Int32 → Int32 → Int32 → Int32 → Option (Int32 × (Nat → Int32) × (Nat → Int32) × (Nat → Int32) × (Nat → Int32) × (Nat → Int32) × Int32 × Int32 × Int32 × Int32)
  | 0, _, _, _, _, _, _, _, _, _, _ => none
  | n + 1, x4, f5, f6, f7, f8, f9, x10, x11, x12, x13 =>
    if 2000 < x4 then
      some ((x4 - 1), f5, f6, f7, f8, f9, x10, x11, x12, x13)
    else
      bi_9 (pf_X8_isForgiven (x3 - x4) a1 f5 t_base f6 f7 f8 f9 x13) fun r14 f15 f16 f17 f18 f19 x20 x21 x22 x23 =>
      if r14 = 0 then
        some ((x4 - 1), f15, f16, f17, f18, f19, x20, x21, x22, x23)
      else
        bi_9 (pf_X8_isForgiven (x3 + x4) a1 f15 t_base f16 f17 f18 f19 x23) fun r24 f25 f26 f27 f28 f29 x30 x31 x32 x33 =>
        if r24 = 0 then
          some ((x4 - 1), f25, f26, f27, f28, f29, x30, x31, x32, x33)
        else
          nm (x4 + 1) fun x34 =>
          lp_X8_slackOf_14 a1 t_base x3 n x34 f25 f26 f27 f28 f29 x30 x31 x32 x33
noncomputable def pf_X8_slackOf (a1 : Int32) (t_all : Nat → Int32) (t_base : Int32) (t_decided : Nat → Int32) (t_wasLate : Nat → Int32) (t_askedOf : Nat → Int32) (t_heldBehind : Nat → Int32) (t_sum : Int32) (t_heldAll : Int32) (t_onPaper : Int32) (t_turned : Int32) : Option (Int32 × (Nat → Int32) × (Nat → Int32) × (Nat → Int32) × (Nat → Int32) × (Nat → Int32) × Int32 × Int32 × Int32 × Int32) :=
bi_0 (pf_X8_weight a1 t_all t_base) fun r1 =>
bi_0 (pf_X8_get 1 t_all t_base) fun r2 =>
nm (r1 - r2) fun x3 =>
lp_X8_slackOf_14 a1 t_base x3 FU 0 t_all t_decided t_wasLate t_askedOf t_heldBehind t_sum t_heldAll t_onPaper t_turned

noncomputable def pf_X8_slack (a1 : Int32) (t_all : Nat → Int32) (t_base : Int32) (t_decided : Nat → Int32) (t_wasLate : Nat → Int32) (t_askedOf : Nat → Int32) (t_heldBehind : Nat → Int32) (t_sum : Int32) (t_heldAll : Int32) (t_onPaper : Int32) (t_turned : Int32) : Option (Int32 × (Nat → Int32) × (Nat → Int32) × (Nat → Int32) × (Nat → Int32) × (Nat → Int32) × Int32 × Int32 × Int32 × Int32) :=
bi_0 (pf_X8_isBit a1 t_all t_base) fun r1 =>
if r1 = 0 then
  some ((-2), t_all, t_decided, t_wasLate, t_askedOf, t_heldBehind, t_sum, t_heldAll, t_onPaper, t_turned)
else
  bi_9 (pf_X8_slackOf a1 t_all t_base t_decided t_wasLate t_askedOf t_heldBehind t_sum t_heldAll t_onPaper t_turned) fun r2 f3 f4 f5 f6 f7 x8 x9 x10 x11 =>
  some (r2, f3, f4, f5, f6, f7, x8, x9, x10, x11)

noncomputable def lp_X8_gap_30 (t_base : Int32) (t_all : Nat → Int32) (r1 : Int32) (J75 : Int32 → Int32 → Option (Int32 × Unit)) : Nat → Int32 → Int32 → Int32 → Option (Int32 × Unit)
  | 0, _, _, _ => none
  | n + 1, x5, x6, x7 =>
    if r1 ≤ x7 then
      J75 x5 x6
    else
      bi_0 (pf_X8_weight x7 t_all t_base) fun r8 =>
      bi_0 (pf_X8_reach x7 t_all t_base) fun r9 =>
      nm ((r8 - r9) - 1) fun x10 =>
      if x5 < x10 then
        nm (x7 + 1) fun x11 =>
        lp_X8_gap_30 t_base t_all r1 J75 n x10 x7 x11
      else
        nm (x7 + 1) fun x12 =>
        lp_X8_gap_30 t_base t_all r1 J75 n x5 x6 x12
noncomputable def pf_X8_gap (a1 : Int32) (t_all : Nat → Int32) (t_base : Int32) : Option (Int32 × Unit) :=
bi_0 (pf_X8_get 0 t_all t_base) fun r1 =>
if r1 = 0 then
  some ((-2), ())
else
  bi_0 (pf_X8_isIn a1 0 1) fun r2 =>
  if r2 = 0 then
    some ((-2), ())
  else
    jn (fun (x3 : Int32) (x4 : Int32) =>
    if a1 = 0 then
      some (x3, ())
    else
      some (x4, ())) fun J75 =>
    lp_X8_gap_30 t_base t_all r1 J75 FU 0 (-1) 0

noncomputable def lp_X8_tightest_30 (t_base : Int32) (r1 : Int32) (J72 : Int32 → Int32 → (Nat → Int32) → (Nat → Int32) → (Nat → Int32) → (Nat → Int32) → (Nat → Int32) → Int32 → Int32 → Int32 → Int32 → Option (Int32 × (Nat → Int32) × (Nat → Int32) × (Nat → Int32) × (Nat → Int32) × (Nat → Int32) × Int32 × Int32 × Int32 × Int32)) : Nat → Int32 → Int32 → Int32 → (Nat → Int32) → (Nat → Int32) → (Nat → Int32) → (Nat → Int32) → (Nat → Int32) → Int32 → Int32 → Int32 → Int32 → Option (Int32 × (Nat → Int32) × (Nat → Int32) × (Nat → Int32) × (Nat → Int32) × (Nat → Int32) × Int32 × Int32 × Int32 × Int32)
  | 0, _, _, _, _, _, _, _, _, _, _, _, _ => none
  | n + 1, x14, x15, x16, f17, f18, f19, f20, f21, x22, x23, x24, x25 =>
    if r1 ≤ x16 then
      J72 x14 x15 f17 f18 f19 f20 f21 x22 x23 x24 x25
    else
      bi_9 (pf_X8_slackOf x16 f17 t_base f18 f19 f20 f21 x22 x23 x24 x25) fun r26 f27 f28 f29 f30 f31 x32 x33 x34 x35 =>
      if x14 = (-1) then
        nm (x16 + 1) fun x36 =>
        lp_X8_tightest_30 t_base r1 J72 n x16 r26 x36 f27 f28 f29 f30 f31 x32 x33 x34 x35
      else
        if r26 < x15 then
          nm (x16 + 1) fun x37 =>
          lp_X8_tightest_30 t_base r1 J72 n x16 r26 x37 f27 f28 f29 f30 f31 x32 x33 x34 x35
        else
          nm (x16 + 1) fun x38 =>
          lp_X8_tightest_30 t_base r1 J72 n x14 x15 x38 f27 f28 f29 f30 f31 x32 x33 x34 x35
noncomputable def pf_X8_tightest (a1 : Int32) (t_all : Nat → Int32) (t_base : Int32) (t_decided : Nat → Int32) (t_wasLate : Nat → Int32) (t_askedOf : Nat → Int32) (t_heldBehind : Nat → Int32) (t_sum : Int32) (t_heldAll : Int32) (t_onPaper : Int32) (t_turned : Int32) : Option (Int32 × (Nat → Int32) × (Nat → Int32) × (Nat → Int32) × (Nat → Int32) × (Nat → Int32) × Int32 × Int32 × Int32 × Int32) :=
bi_0 (pf_X8_get 0 t_all t_base) fun r1 =>
if r1 = 0 then
  some ((-2), t_all, t_decided, t_wasLate, t_askedOf, t_heldBehind, t_sum, t_heldAll, t_onPaper, t_turned)
else
  bi_0 (pf_X8_isIn a1 0 1) fun r2 =>
  if r2 = 0 then
    some ((-2), t_all, t_decided, t_wasLate, t_askedOf, t_heldBehind, t_sum, t_heldAll, t_onPaper, t_turned)
  else
    jn (fun (x3 : Int32) (x4 : Int32) (f5 : Nat → Int32) (f6 : Nat → Int32) (f7 : Nat → Int32) (f8 : Nat → Int32) (f9 : Nat → Int32) (x10 : Int32) (x11 : Int32) (x12 : Int32) (x13 : Int32) =>
    if a1 = 0 then
      some (x3, f5, f6, f7, f8, f9, x10, x11, x12, x13)
    else
      some (x4, f5, f6, f7, f8, f9, x10, x11, x12, x13)) fun J72 =>
    lp_X8_tightest_30 t_base r1 J72 FU (-1) 0 1 t_all t_decided t_wasLate t_askedOf t_heldBehind t_sum t_heldAll t_onPaper t_turned

noncomputable def pf_X8_isRow (a0 : Int32) (a1 : Int32) (a2 : Int32) : Option (Int32 × Unit) :=
if a0 < (-100000) then
  some (0, ())
else
  if 100000 < a1 then
    some (0, ())
  else
    if a1 < a0 then
      some (0, ())
    else
      if a2 < 1 then
        some (0, ())
      else
        ckD a2 <|
        if 2000 ≤ ((a1 - a0) / a2) then
          some (0, ())
        else
          some (1, ())

noncomputable def lp_X8_sortBy_20 (a1 : Int32) (x3 : Int32) (J64 : Int32 → (Nat → Int32) → Option ((Nat → Int32))) : Nat → Int32 → (Nat → Int32) → Option ((Nat → Int32))
  | 0, _, _ => none
  | n + 1, x7, f8 =>
    if x7 < a1 then
      J64 x7 f8
    else
      ckI (x7 - a1) 2000 <|
      if (f8 (x7 - a1).toNatClampNeg) ≤ x3 then
        J64 x7 f8
      else
        ckI (x7 - a1) 2000 <|
        nm (f8 (x7 - a1).toNatClampNeg) fun x9 =>
        ckI x7 2000 <|
        nm (x7 - a1) fun x10 =>
        lp_X8_sortBy_20 a1 x3 J64 n x10 (upd f8 x7.toNatClampNeg x9)
noncomputable def lp_X8_sortBy_2 (a1 : Int32) (t_codeMany : Int32) : Nat → Int32 → (Nat → Int32) → Option ((Nat → Int32))
  | 0, _, _ => none
  | n + 1, x1, f2 =>
    if t_codeMany ≤ x1 then
      some f2
    else
      ckI x1 2000 <|
      nm (f2 x1.toNatClampNeg) fun x3 =>
      jn (fun (x4 : Int32) (f5 : Nat → Int32) =>
      ckI x4 2000 <|
      nm (x1 + 1) fun x6 =>
      lp_X8_sortBy_2 a1 t_codeMany n x6 (upd f5 x4.toNatClampNeg x3)) fun J64 =>
      lp_X8_sortBy_20 a1 x3 J64 FU x1 f2
noncomputable def pf_X8_sortBy (a1 : Int32) (t_sorted : Nat → Int32) (t_codeMany : Int32) : Option ((Nat → Int32)) :=
lp_X8_sortBy_2 a1 t_codeMany FU a1 t_sorted

noncomputable def lp_X8_layCodes_65 (x1 : Int32) (f2 : Nat → Int32) (f3 : Nat → Int32) (f4 : Nat → Int32) (f5 : Nat → Int32) (f6 : Nat → Int32) (x7 : Int32) (x8 : Int32) (x9 : Int32) (f10 : Nat → Int32) : Nat → Int32 → (Nat → Int32) → Option ((Nat → Int32) × (Nat → Int32) × (Nat → Int32) × (Nat → Int32) × (Nat → Int32) × Int32 × Int32 × Int32 × (Nat → Int32) × (Nat → Int32) × Int32)
  | 0, _, _ => none
  | n + 1, x12, f13 =>
    if x12 ≤ 0 then
      some (f2, f3, f4, f5, f6, x7, x8, x9, f10, f13, x1)
    else
      bv_1 (pf_X8_sortBy x12 f13 x1) fun f14 =>
      nm (x12 / 3) fun x15 =>
      lp_X8_layCodes_65 x1 f2 f3 f4 f5 f6 x7 x8 x9 f10 n x15 f14
noncomputable def lp_X8_layCodes_14 (a1 : Int32) (a3 : Int32) (t_base : Int32) (t_turned : Int32) (x1 : Int32) (J60 : (Nat → Int32) → (Nat → Int32) → (Nat → Int32) → (Nat → Int32) → (Nat → Int32) → Int32 → Int32 → Int32 → (Nat → Int32) → (Nat → Int32) → Option ((Nat → Int32) × (Nat → Int32) × (Nat → Int32) × (Nat → Int32) × (Nat → Int32) × Int32 × Int32 × Int32 × (Nat → Int32) × (Nat → Int32) × Int32)) : Nat → Int32 → (Nat → Int32) → (Nat → Int32) → (Nat → Int32) → (Nat → Int32) → (Nat → Int32) → Int32 → Int32 → Int32 → (Nat → Int32) → (Nat → Int32) → Option ((Nat → Int32) × (Nat → Int32) × (Nat → Int32) × (Nat → Int32) × (Nat → Int32) × Int32 × Int32 × Int32 × (Nat → Int32) × (Nat → Int32) × Int32)
  | 0, _, _, _, _, _, _, _, _, _, _, _ => none
  | n + 1, x16, f17, f18, f19, f20, f21, x22, x23, x24, f25, f26 =>
    if x1 ≤ x16 then
      J60 f17 f18 f19 f20 f21 x22 x23 x24 f25 f26
    else
      bi_8 (pf_X8_paperCode (a1 + (a3 * x16)) f17 t_base f18 f19 f20 f21 t_turned) fun r27 f28 f29 f30 f31 f32 x33 x34 x35 =>
      ckI x16 2000 <|
      ckI x16 2000 <|
      nm ((upd f25 x16.toNatClampNeg r27) x16.toNatClampNeg) fun x36 =>
      ckI x16 2000 <|
      nm (x16 + 1) fun x37 =>
      lp_X8_layCodes_14 a1 a3 t_base t_turned x1 J60 n x37 f28 f29 f30 f31 f32 x33 x34 x35 (upd f25 x16.toNatClampNeg r27) (upd f26 x16.toNatClampNeg x36)
noncomputable def pf_X8_layCodes (a1 : Int32) (a2 : Int32) (a3 : Int32) (t_all : Nat → Int32) (t_base : Int32) (t_decided : Nat → Int32) (t_wasLate : Nat → Int32) (t_askedOf : Nat → Int32) (t_heldBehind : Nat → Int32) (t_sum : Int32) (t_heldAll : Int32) (t_onPaper : Int32) (t_turned : Int32) (t_codes : Nat → Int32) (t_sorted : Nat → Int32) : Option ((Nat → Int32) × (Nat → Int32) × (Nat → Int32) × (Nat → Int32) × (Nat → Int32) × Int32 × Int32 × Int32 × (Nat → Int32) × (Nat → Int32) × Int32) :=
ckD a3 <|
nm (((a2 - a1) / a3) + 1) fun x1 =>
jn (fun (f2 : Nat → Int32) (f3 : Nat → Int32) (f4 : Nat → Int32) (f5 : Nat → Int32) (f6 : Nat → Int32) (x7 : Int32) (x8 : Int32) (x9 : Int32) (f10 : Nat → Int32) (f11 : Nat → Int32) =>
lp_X8_layCodes_65 x1 f2 f3 f4 f5 f6 x7 x8 x9 f10 FU 1093 f11) fun J60 =>
lp_X8_layCodes_14 a1 a3 t_base t_turned x1 J60 FU 0 t_all t_decided t_wasLate t_askedOf t_heldBehind t_sum t_heldAll t_onPaper t_codes t_sorted

noncomputable def lp_X8_unlikeCodes_4 (t_codeMany : Int32) (t_sorted : Nat → Int32) : Nat → Int32 → Int32 → Option (Int32 × Unit)
  | 0, _, _ => none
  | n + 1, x1, x2 =>
    if t_codeMany ≤ x2 then
      some (x1, ())
    else
      ckI x2 2000 <|
      ckI (x2 - 1) 2000 <|
      if (t_sorted x2.toNatClampNeg) = (t_sorted (x2 - 1).toNatClampNeg) then
        nm (x1 + 0) fun x3 =>
        nm (x2 + 1) fun x4 =>
        lp_X8_unlikeCodes_4 t_codeMany t_sorted n x3 x4
      else
        nm (x1 + 1) fun x5 =>
        nm (x2 + 1) fun x6 =>
        lp_X8_unlikeCodes_4 t_codeMany t_sorted n x5 x6
noncomputable def pf_X8_unlikeCodes (t_sorted : Nat → Int32) (t_codeMany : Int32) : Option (Int32 × Unit) :=
lp_X8_unlikeCodes_4 t_codeMany t_sorted FU 1 1

noncomputable def lp_X8_firstMissing_2 (t_codeMany : Int32) (t_sorted : Nat → Int32) (J29 : Int32 → Option (Int32 × Unit)) : Nat → Int32 → Option (Int32 × Unit)
  | 0, _ => none
  | n + 1, x2 =>
    if t_codeMany ≤ x2 then
      some ((-1), ())
    else
      ckI x2 2000 <|
      ckI (x2 - 1) 2000 <|
      if (t_sorted x2.toNatClampNeg) ≤ ((t_sorted (x2 - 1).toNatClampNeg) + 1) then
        nm (x2 + 1) fun x3 =>
        lp_X8_firstMissing_2 t_codeMany t_sorted J29 n x3
      else
        J29 x2
noncomputable def pf_X8_firstMissing (t_sorted : Nat → Int32) (t_codeMany : Int32) : Option (Int32 × Unit) :=
jn (fun (x1 : Int32) =>
ckI (x1 - 1) 2000 <|
some (((t_sorted (x1 - 1).toNatClampNeg) + 1), ())) fun J29 =>
lp_X8_firstMissing_2 t_codeMany t_sorted J29 FU 1

noncomputable def lp_X8_falls_4 (t_codeMany : Int32) (t_codes : Nat → Int32) : Nat → Int32 → Int32 → Option (Int32 × Unit)
  | 0, _, _ => none
  | n + 1, x1, x2 =>
    if t_codeMany ≤ x2 then
      some (x1, ())
    else
      ckI x2 2000 <|
      ckI (x2 - 1) 2000 <|
      if (t_codes (x2 - 1).toNatClampNeg) ≤ (t_codes x2.toNatClampNeg) then
        nm (x1 + 0) fun x3 =>
        nm (x2 + 1) fun x4 =>
        lp_X8_falls_4 t_codeMany t_codes n x3 x4
      else
        nm (x1 + 1) fun x5 =>
        nm (x2 + 1) fun x6 =>
        lp_X8_falls_4 t_codeMany t_codes n x5 x6
noncomputable def pf_X8_falls (t_codes : Nat → Int32) (t_codeMany : Int32) : Option (Int32 × Unit) :=
lp_X8_falls_4 t_codeMany t_codes FU 0 1

noncomputable def pf_X8_offBy (a1 : Int32) (a2 : Int32) (a3 : Int32) (t_all : Nat → Int32) (t_base : Int32) (t_codes : Nat → Int32) : Option (Int32 × Unit) :=
ckI a3 2000 <|
bi_0 (pf_X8_get 5 t_all t_base) fun r1 =>
nm ((((t_codes a3.toNatClampNeg) * r1) - a1) - (a2 * a3)) fun x2 =>
if 0 ≤ x2 then
  some (x2, ())
else
  some ((-x2), ())

noncomputable def lp_X8_mostOff_5 (a1 : Int32) (a2 : Int32) (t_base : Int32) (t_codeMany : Int32) (t_all : Nat → Int32) (t_codes : Nat → Int32) : Nat → Int32 → Int32 → Option (Int32 × Unit)
  | 0, _, _ => none
  | n + 1, x1, x2 =>
    if t_codeMany ≤ x2 then
      some (x1, ())
    else
      bi_0 (pf_X8_offBy a1 a2 x2 t_all t_base t_codes) fun r3 =>
      bi_0 (pf_X8_offBy a1 a2 x1 t_all t_base t_codes) fun r4 =>
      if r3 ≤ r4 then
        nm (x2 + 1) fun x5 =>
        lp_X8_mostOff_5 a1 a2 t_base t_codeMany t_all t_codes n x1 x5
      else
        nm (x2 + 1) fun x6 =>
        lp_X8_mostOff_5 a1 a2 t_base t_codeMany t_all t_codes n x2 x6
noncomputable def pf_X8_mostOff (a1 : Int32) (a2 : Int32) (t_all : Nat → Int32) (t_base : Int32) (t_codes : Nat → Int32) (t_codeMany : Int32) : Option (Int32 × Unit) :=
lp_X8_mostOff_5 a1 a2 t_base t_codeMany t_all t_codes FU 0 1

noncomputable def lp_X8_countOf_4 (a1 : Int32) (t_codeMany : Int32) (t_sorted : Nat → Int32) : Nat → Int32 → Int32 → Option (Int32 × Unit)
  | 0, _, _ => none
  | n + 1, x1, x2 =>
    if t_codeMany ≤ x2 then
      some (x1, ())
    else
      ckI x2 2000 <|
      if (t_sorted x2.toNatClampNeg) = a1 then
        nm (x1 + 1) fun x5 =>
        nm (x2 + 1) fun x6 =>
        lp_X8_countOf_4 a1 t_codeMany t_sorted n x5 x6
      else
        nm (x1 + 0) fun x3 =>
        nm (x2 + 1) fun x4 =>
        lp_X8_countOf_4 a1 t_codeMany t_sorted n x3 x4
noncomputable def pf_X8_countOf (a1 : Int32) (t_sorted : Nat → Int32) (t_codeMany : Int32) : Option (Int32 × Unit) :=
lp_X8_countOf_4 a1 t_codeMany t_sorted FU 0 0

noncomputable def lp_X8_mostOften_14 (t_codeMany : Int32) (t_sorted : Nat → Int32) : Nat → Int32 → Int32 → Int32 → Int32 → Option (Int32 × Unit)
  | 0, _, _, _, _ => none
  | n + 1, x2, x3, x4, x5 =>
    if t_codeMany ≤ x5 then
      some (x2, ())
    else
      jn (fun (x6 : Int32) =>
      if x3 < x6 then
        ckI x5 2000 <|
        nm (t_sorted x5.toNatClampNeg) fun x7 =>
        nm (x5 + 1) fun x8 =>
        lp_X8_mostOften_14 t_codeMany t_sorted n x7 x6 x6 x8
      else
        nm (x5 + 1) fun x9 =>
        lp_X8_mostOften_14 t_codeMany t_sorted n x2 x3 x6 x9) fun J54 =>
      jn (J54 1) fun J53 =>
      if x5 ≤ 0 then
        J53
      else
        ckI x5 2000 <|
        ckI (x5 - 1) 2000 <|
        if (t_sorted x5.toNatClampNeg) = (t_sorted (x5 - 1).toNatClampNeg) then
          J54 (x4 + 1)
        else
          J53
noncomputable def pf_X8_mostOften (t_sorted : Nat → Int32) (t_codeMany : Int32) : Option (Int32 × Unit) :=
ckI 0 2000 <|
nm (t_sorted (0 : Int32).toNatClampNeg) fun x1 =>
lp_X8_mostOften_14 t_codeMany t_sorted FU x1 0 0 0

noncomputable def pf_X8_ofHistogram (a1 : Int32) (a2 : Int32) (a3 : Int32) (t_all : Nat → Int32) (t_base : Int32) (t_codes : Nat → Int32) (t_sorted : Nat → Int32) (t_codeMany : Int32) : Option (Int32 × Unit) :=
if a3 = 0 then
  bi_0 (pf_X8_unlikeCodes t_sorted t_codeMany) fun r1 =>
  some (r1, ())
else
if a3 = 1 then
  ckI (t_codeMany - 1) 2000 <|
  ckI 0 2000 <|
  bi_0 (pf_X8_unlikeCodes t_sorted t_codeMany) fun r2 =>
  some (((((t_sorted (t_codeMany - 1).toNatClampNeg) - (t_sorted (0 : Int32).toNatClampNeg)) + 1) - r2), ())
else
if a3 = 2 then
  bi_0 (pf_X8_falls t_codes t_codeMany) fun r3 =>
  some (r3, ())
else
if a3 = 3 then
  bi_0 (pf_X8_mostOff a1 a2 t_all t_base t_codes t_codeMany) fun r4 =>
  bi_0 (pf_X8_offBy a1 a2 r4 t_all t_base t_codes) fun r5 =>
  some (r5, ())
else
if a3 = 4 then
  bi_0 (pf_X8_mostOff a1 a2 t_all t_base t_codes t_codeMany) fun r6 =>
  some ((a1 + (a2 * r6)), ())
else
if a3 = 5 then
  bi_0 (pf_X8_mostOften t_sorted t_codeMany) fun r7 =>
  some (r7, ())
else
if a3 = 6 then
  bi_0 (pf_X8_mostOften t_sorted t_codeMany) fun r8 =>
  bi_0 (pf_X8_countOf r8 t_sorted t_codeMany) fun r9 =>
  some (r9, ())
else
if a3 = 7 then
  ckI 0 2000 <|
  some ((t_sorted (0 : Int32).toNatClampNeg), ())
else
if a3 = 8 then
  ckI (t_codeMany - 1) 2000 <|
  some ((t_sorted (t_codeMany - 1).toNatClampNeg), ())
else
bi_0 (pf_X8_firstMissing t_sorted t_codeMany) fun r10 =>
some (r10, ())

noncomputable def pf_X8_histogram (a1 : Int32) (a2 : Int32) (a3 : Int32) (a4 : Int32) (t_all : Nat → Int32) (t_base : Int32) (t_decided : Nat → Int32) (t_wasLate : Nat → Int32) (t_askedOf : Nat → Int32) (t_heldBehind : Nat → Int32) (t_sum : Int32) (t_heldAll : Int32) (t_onPaper : Int32) (t_turned : Int32) (t_codes : Nat → Int32) (t_sorted : Nat → Int32) (t_codeMany : Int32) : Option (Int32 × (Nat → Int32) × (Nat → Int32) × (Nat → Int32) × (Nat → Int32) × (Nat → Int32) × Int32 × Int32 × Int32 × (Nat → Int32) × (Nat → Int32) × Int32) :=
bi_0 (pf_X8_get 0 t_all t_base) fun r1 =>
if r1 = 0 then
  some ((-1000000), t_all, t_decided, t_wasLate, t_askedOf, t_heldBehind, t_sum, t_heldAll, t_onPaper, t_codes, t_sorted, t_codeMany)
else
  bi_0 (pf_X8_isRow a1 a2 a3) fun r2 =>
  if r2 = 0 then
    some ((-1000000), t_all, t_decided, t_wasLate, t_askedOf, t_heldBehind, t_sum, t_heldAll, t_onPaper, t_codes, t_sorted, t_codeMany)
  else
    bi_0 (pf_X8_isIn a4 0 9) fun r3 =>
    if r3 = 0 then
      some ((-1000000), t_all, t_decided, t_wasLate, t_askedOf, t_heldBehind, t_sum, t_heldAll, t_onPaper, t_codes, t_sorted, t_codeMany)
    else
      bv_11 (pf_X8_layCodes a1 a2 a3 t_all t_base t_decided t_wasLate t_askedOf t_heldBehind t_sum t_heldAll t_onPaper t_turned t_codes t_sorted) fun f4 f5 f6 f7 f8 x9 x10 x11 f12 f13 x14 =>
      bi_0 (pf_X8_ofHistogram a1 a3 a4 f4 t_base f12 f13 x14) fun r15 =>
      some (r15, f4, f5, f6, f7, f8, x9, x10, x11, f12, f13, x14)

noncomputable def pf_X8_often (a1 : Int32) (a2 : Int32) (a3 : Int32) (a4 : Int32) (t_all : Nat → Int32) (t_base : Int32) (t_decided : Nat → Int32) (t_wasLate : Nat → Int32) (t_askedOf : Nat → Int32) (t_heldBehind : Nat → Int32) (t_sum : Int32) (t_heldAll : Int32) (t_onPaper : Int32) (t_turned : Int32) (t_codes : Nat → Int32) (t_sorted : Nat → Int32) (t_codeMany : Int32) : Option (Int32 × (Nat → Int32) × (Nat → Int32) × (Nat → Int32) × (Nat → Int32) × (Nat → Int32) × Int32 × Int32 × Int32 × (Nat → Int32) × (Nat → Int32) × Int32) :=
bi_0 (pf_X8_get 0 t_all t_base) fun r1 =>
if r1 = 0 then
  some ((-1), t_all, t_decided, t_wasLate, t_askedOf, t_heldBehind, t_sum, t_heldAll, t_onPaper, t_codes, t_sorted, t_codeMany)
else
  bi_0 (pf_X8_isRow a1 a2 a3) fun r2 =>
  if r2 = 0 then
    some ((-1), t_all, t_decided, t_wasLate, t_askedOf, t_heldBehind, t_sum, t_heldAll, t_onPaper, t_codes, t_sorted, t_codeMany)
  else
    bv_11 (pf_X8_layCodes a1 a2 a3 t_all t_base t_decided t_wasLate t_askedOf t_heldBehind t_sum t_heldAll t_onPaper t_turned t_codes t_sorted) fun f3 f4 f5 f6 f7 x8 x9 x10 f11 f12 x13 =>
    bi_0 (pf_X8_countOf a4 f12 x13) fun r14 =>
    some (r14, f3, f4, f5, f6, f7, x8, x9, x10, f11, f12, x13)

noncomputable def lp_X8_first_24 (a2 : Int32) (a3 : Int32) (t_base : Int32) (t_turned : Int32) : Nat → Int32 → (Nat → Int32) → (Nat → Int32) → (Nat → Int32) → (Nat → Int32) → (Nat → Int32) → Int32 → Int32 → Int32 → Option (Int32 × (Nat → Int32) × (Nat → Int32) × (Nat → Int32) × (Nat → Int32) × (Nat → Int32) × Int32 × Int32 × Int32)
  | 0, _, _, _, _, _, _, _, _, _ => none
  | n + 1, x3, f4, f5, f6, f7, f8, x9, x10, x11 =>
    if a2 < x3 then
      some ((-1000000), f4, f5, f6, f7, f8, x9, x10, x11)
    else
      bi_8 (pf_X8_paperCode x3 f4 t_base f5 f6 f7 f8 t_turned) fun r12 f13 f14 f15 f16 f17 x18 x19 x20 =>
      if r12 < a3 then
        nm (x3 + 1) fun x21 =>
        lp_X8_first_24 a2 a3 t_base t_turned n x21 f13 f14 f15 f16 f17 x18 x19 x20
      else
        some (x3, f13, f14, f15, f16, f17, x18, x19, x20)
noncomputable def pf_X8_first (a1 : Int32) (a2 : Int32) (a3 : Int32) (t_all : Nat → Int32) (t_base : Int32) (t_decided : Nat → Int32) (t_wasLate : Nat → Int32) (t_askedOf : Nat → Int32) (t_heldBehind : Nat → Int32) (t_sum : Int32) (t_heldAll : Int32) (t_onPaper : Int32) (t_turned : Int32) : Option (Int32 × (Nat → Int32) × (Nat → Int32) × (Nat → Int32) × (Nat → Int32) × (Nat → Int32) × Int32 × Int32 × Int32) :=
bi_0 (pf_X8_get 0 t_all t_base) fun r1 =>
if r1 = 0 then
  some ((-1000000), t_all, t_decided, t_wasLate, t_askedOf, t_heldBehind, t_sum, t_heldAll, t_onPaper)
else
  bi_0 (pf_X8_isRow a1 a2 1) fun r2 =>
  if r2 = 0 then
    some ((-1000000), t_all, t_decided, t_wasLate, t_askedOf, t_heldBehind, t_sum, t_heldAll, t_onPaper)
  else
    lp_X8_first_24 a2 a3 t_base t_turned FU a1 t_all t_decided t_wasLate t_askedOf t_heldBehind t_sum t_heldAll t_onPaper

noncomputable def pf_X8_allSizes (t_all : Nat → Int32) (t_base : Int32) : Option (Int32 × Unit) :=
bi_0 (pf_X8_get 0 t_all t_base) fun r1 =>
bi_0 (pf_X8_sumOf 9 r1 t_all t_base) fun r2 =>
some (r2, ())

noncomputable def pf_X8_isShortRow (t_all : Nat → Int32) (t_base : Int32) : Option (Int32 × Unit) :=
bi_0 (pf_X8_get 0 t_all t_base) fun r1 =>
if r1 ≤ 0 then
  some (0, ())
else
  bi_0 (pf_X8_allSizes t_all t_base) fun r2 =>
  bi_0 (pf_X8_get 5 t_all t_base) fun r3 =>
  ckD r3 <|
  if 2000 ≤ (r2 / r3) then
    some (0, ())
  else
    some (1, ())

noncomputable def pf_X8_isMissing (t_all : Nat → Int32) (t_base : Int32) (t_decided : Nat → Int32) (t_wasLate : Nat → Int32) (t_askedOf : Nat → Int32) (t_heldBehind : Nat → Int32) (t_sum : Int32) (t_heldAll : Int32) (t_onPaper : Int32) (t_turned : Int32) (t_codes : Nat → Int32) (t_sorted : Nat → Int32) : Option (Int32 × (Nat → Int32) × (Nat → Int32) × (Nat → Int32) × (Nat → Int32) × (Nat → Int32) × Int32 × Int32 × Int32 × (Nat → Int32) × (Nat → Int32) × Int32) :=
bi_0 (pf_X8_allSizes t_all t_base) fun r1 =>
bi_0 (pf_X8_get 5 t_all t_base) fun r2 =>
bv_11 (pf_X8_layCodes 0 r1 r2 t_all t_base t_decided t_wasLate t_askedOf t_heldBehind t_sum t_heldAll t_onPaper t_turned t_codes t_sorted) fun f3 f4 f5 f6 f7 x8 x9 x10 f11 f12 x13 =>
bi_0 (pf_X8_firstMissing f12 x13) fun r14 =>
if r14 = (-1) then
  some (0, f3, f4, f5, f6, f7, x8, x9, x10, f11, f12, x13)
else
  some (1, f3, f4, f5, f6, f7, x8, x9, x10, f11, f12, x13)

noncomputable def lp_X8_layOne_2 (a1 : Int32) (t_base : Int32) : Nat → Int32 → (Nat → Int32) → Option ((Nat → Int32))
  | 0, _, _ => none
  | n + 1, x1, f2 =>
    bi_0 (pf_X8_get 0 f2 t_base) fun r3 =>
    if r3 ≤ x1 then
      some f2
    else
      bi_1 (pf_X8_draw ((2 * a1) + 1) f2 t_base) fun r4 f5 =>
      nm (r4 - a1) fun x6 =>
      bi_0 (pf_X8_get (9 + x1) f5 t_base) fun r7 =>
      jn (fun (x8 : Int32) =>
      bv_1 (pf_X8_put (21 + x1) x8 f5 t_base) fun f9 =>
      bi_0 (pf_X8_get (9 + x1) f9 t_base) fun r10 =>
      bv_1 (pf_X8_put (33 + x1) r10 f9 t_base) fun f11 =>
      bv_1 (pf_X8_put (45 + x1) (-1) f11 t_base) fun f12 =>
      nm (x1 + 1) fun x13 =>
      lp_X8_layOne_2 a1 t_base n x13 f12) fun J56 =>
      if (1 - r7) ≤ x6 then
        J56 x6
      else
        bi_0 (pf_X8_get (9 + x1) f5 t_base) fun r14 =>
        J56 (1 - r14)
noncomputable def pf_X8_layOne (a1 : Int32) (t_all : Nat → Int32) (t_base : Int32) : Option ((Nat → Int32)) :=
lp_X8_layOne_2 a1 t_base FU 0 t_all

noncomputable def lp_X8_crowd_70 (a2 : Int32) (a3 : Int32) (a4 : Int32) (a5 : Int32) (t_turned : Int32) (x8 : Int32) : Nat → Int32 → Int32 → (Nat → Int32) → (Nat → Int32) → (Nat → Int32) → (Nat → Int32) → (Nat → Int32) → Int32 → Int32 → Int32 → (Nat → Int32) → (Nat → Int32) → Int32 → Option (Int32 × (Nat → Int32) × Int32 × (Nat → Int32) × (Nat → Int32) × (Nat → Int32) × (Nat → Int32) × Int32 × Int32 × Int32 × (Nat → Int32) × (Nat → Int32) × Int32)
  | 0, _, _, _, _, _, _, _, _, _, _, _, _, _ => none
  | n + 1, x10, x11, f12, f13, f14, f15, f16, x17, x18, x19, f20, f21, x22 =>
    if a2 ≤ x11 then
      bv_1 (pf_X8_comeBack) fun x23 =>
      some (x10, f12, x23, f13, f14, f15, f16, x17, x18, x19, f20, f21, x22)
    else
      bv_1 (pf_X8_layOne a3 f12 x8) fun f24 =>
      bi_11 (pf_X8_isMissing f24 x8 f13 f14 f15 f16 x17 x18 x19 t_turned f20 f21) fun r25 f26 f27 f28 f29 f30 x31 x32 x33 f34 f35 x36 =>
      jn (fun (x37 : Int32) =>
      bv_8 (pf_X8_learnOnPaper a4 f26 x8 f27 f28 f29 f30 x31 x32 t_turned) fun f38 f39 f40 f41 f42 x43 x44 x45 =>
      bi_11 (pf_X8_isMissing f38 x8 f39 f40 f41 f42 x43 x44 x45 t_turned f34 f35) fun r46 f47 f48 f49 f50 f51 x52 x53 x54 f55 f56 x57 =>
      jn (fun (x58 : Int32) =>
      if a5 = 0 then
        if x37 = 0 then
          nm (x10 + 0) fun x69 =>
          nm (x11 + 1) fun x70 =>
          lp_X8_crowd_70 a2 a3 a4 a5 t_turned x8 n x69 x70 f47 f48 f49 f50 f51 x52 x53 x54 f55 f56 x57
        else
          nm (x10 + 1) fun x71 =>
          nm (x11 + 1) fun x72 =>
          lp_X8_crowd_70 a2 a3 a4 a5 t_turned x8 n x71 x72 f47 f48 f49 f50 f51 x52 x53 x54 f55 f56 x57
      else
        if a5 = 1 then
          if x58 = 0 then
            nm (x10 + 0) fun x65 =>
            nm (x11 + 1) fun x66 =>
            lp_X8_crowd_70 a2 a3 a4 a5 t_turned x8 n x65 x66 f47 f48 f49 f50 f51 x52 x53 x54 f55 f56 x57
          else
            nm (x10 + 1) fun x67 =>
            nm (x11 + 1) fun x68 =>
            lp_X8_crowd_70 a2 a3 a4 a5 t_turned x8 n x67 x68 f47 f48 f49 f50 f51 x52 x53 x54 f55 f56 x57
        else
          if x58 = 0 then
            nm (x10 + 0) fun x59 =>
            nm (x11 + 1) fun x60 =>
            lp_X8_crowd_70 a2 a3 a4 a5 t_turned x8 n x59 x60 f47 f48 f49 f50 f51 x52 x53 x54 f55 f56 x57
          else
            if x37 = 0 then
              nm (x10 + 1) fun x63 =>
              nm (x11 + 1) fun x64 =>
              lp_X8_crowd_70 a2 a3 a4 a5 t_turned x8 n x63 x64 f47 f48 f49 f50 f51 x52 x53 x54 f55 f56 x57
            else
              nm (x10 + 0) fun x61 =>
              nm (x11 + 1) fun x62 =>
              lp_X8_crowd_70 a2 a3 a4 a5 t_turned x8 n x61 x62 f47 f48 f49 f50 f51 x52 x53 x54 f55 f56 x57) fun J113 =>
      if r46 = 0 then
        J113 1
      else
        J113 0) fun J93 =>
      if r25 = 0 then
        J93 1
      else
        J93 0
noncomputable def pf_X8_crowd (a1 : Int32) (a2 : Int32) (a3 : Int32) (a4 : Int32) (a5 : Int32) (t_all : Nat → Int32) (t_base : Int32) (t_decided : Nat → Int32) (t_wasLate : Nat → Int32) (t_askedOf : Nat → Int32) (t_heldBehind : Nat → Int32) (t_sum : Int32) (t_heldAll : Int32) (t_onPaper : Int32) (t_turned : Int32) (t_codes : Nat → Int32) (t_sorted : Nat → Int32) (t_codeMany : Int32) : Option (Int32 × (Nat → Int32) × Int32 × (Nat → Int32) × (Nat → Int32) × (Nat → Int32) × (Nat → Int32) × Int32 × Int32 × Int32 × (Nat → Int32) × (Nat → Int32) × Int32) :=
bi_0 (pf_X8_isShortRow t_all t_base) fun r1 =>
if r1 = 0 then
  some ((-1), t_all, t_base, t_decided, t_wasLate, t_askedOf, t_heldBehind, t_sum, t_heldAll, t_onPaper, t_codes, t_sorted, t_codeMany)
else
  bi_0 (pf_X8_isIn a2 1 20) fun r2 =>
  if r2 = 0 then
    some ((-1), t_all, t_base, t_decided, t_wasLate, t_askedOf, t_heldBehind, t_sum, t_heldAll, t_onPaper, t_codes, t_sorted, t_codeMany)
  else
    bi_0 (pf_X8_isIn a3 0 99) fun r3 =>
    if r3 = 0 then
      some ((-1), t_all, t_base, t_decided, t_wasLate, t_askedOf, t_heldBehind, t_sum, t_heldAll, t_onPaper, t_codes, t_sorted, t_codeMany)
    else
      bi_0 (pf_X8_get 0 t_all t_base) fun r4 =>
      bi_0 (pf_X8_isIn a4 1 r4) fun r5 =>
      if r5 = 0 then
        some ((-1), t_all, t_base, t_decided, t_wasLate, t_askedOf, t_heldBehind, t_sum, t_heldAll, t_onPaper, t_codes, t_sorted, t_codeMany)
      else
        bi_0 (pf_X8_isIn a5 0 2) fun r6 =>
        if r6 = 0 then
          some ((-1), t_all, t_base, t_decided, t_wasLate, t_askedOf, t_heldBehind, t_sum, t_heldAll, t_onPaper, t_codes, t_sorted, t_codeMany)
        else
          bv_2 (pf_X8_goAside t_all) fun f7 x8 =>
          bv_1 (pf_X8_put 6 a1 f7 x8) fun f9 =>
          lp_X8_crowd_70 a2 a3 a4 a5 t_turned x8 FU 0 0 f9 t_decided t_wasLate t_askedOf t_heldBehind t_sum t_heldAll t_onPaper t_codes t_sorted t_codeMany

noncomputable def lp_X8_layDrawn_5 (a1 : Int32) (a2 : Int32) : Nat → Int32 → Int32 → (Nat → Int32) → Option (Int32 × (Nat → Int32))
  | 0, _, _, _ => none
  | n + 1, x1, x2, f3 =>
    if a1 ≤ x2 then
      some (x1, f3)
    else
      nm (1 + ((a2 * x1) / 100)) fun x4 =>
      ckI x2 12 <|
      ckI x2 12 <|
      nm (x1 + ((upd f3 x2.toNatClampNeg x4) x2.toNatClampNeg)) fun x5 =>
      nm (x2 + 1) fun x6 =>
      lp_X8_layDrawn_5 a1 a2 n x5 x6 (upd f3 x2.toNatClampNeg x4)
noncomputable def pf_X8_layDrawn (a1 : Int32) (a2 : Int32) (t_drawnSize : Nat → Int32) : Option (Int32 × (Nat → Int32)) :=
lp_X8_layDrawn_5 a1 a2 FU 0 0 t_drawnSize

noncomputable def pf_X8_isWide (a0 : Int32) : Option (Int32 × Unit) :=
bi_0 (pf_X8_isIn a0 2 12) fun r1 =>
ckZ r1 <|
some (r1, ())

noncomputable def pf_X8_isPart (a0 : Int32) : Option (Int32 × Unit) :=
bi_0 (pf_X8_isIn a0 0 100) fun r1 =>
ckZ r1 <|
some (r1, ())

noncomputable def pf_X8_isReach (a0 : Int32) : Option (Int32 × Unit) :=
bi_0 (pf_X8_isIn a0 1 4095) fun r1 =>
ckZ r1 <|
some (r1, ())

noncomputable def pf_X8_drawn (a1 : Int32) (a2 : Int32) (a3 : Int32) (a4 : Int32) (t_drawnSize : Nat → Int32) : Option (Int32 × (Nat → Int32)) :=
bi_0 (pf_X8_isWide a1) fun r1 =>
if r1 = 0 then
  some ((-1), t_drawnSize)
else
  bi_0 (pf_X8_isPart a2) fun r2 =>
  if r2 = 0 then
    some ((-1), t_drawnSize)
  else
    jn (bi_1 (pf_X8_layDrawn a1 a2 t_drawnSize) fun r3 f4 =>
    if a4 = 1 then
      some (r3, f4)
    else
      ckI a3 12 <|
      some ((f4 a3.toNatClampNeg), f4)) fun J38 =>
    if a4 = 1 then
      J38
    else
      if a4 = 0 then
        bi_0 (pf_X8_isIn a3 0 (a1 - 1)) fun r5 =>
        if r5 = 0 then
          some ((-1), t_drawnSize)
        else
          J38
      else
        some ((-1), t_drawnSize)

noncomputable def lp_X8_fewest_18 (a1 : Int32) (a2 : Int32) : Nat → Int32 → (Nat → Int32) → Option (Int32 × (Nat → Int32))
  | 0, _, _ => none
  | n + 1, x3, f4 =>
    if 12 < x3 then
      some ((-1), f4)
    else
      bi_1 (pf_X8_layDrawn x3 a1 f4) fun r5 f6 =>
      if r5 < a2 then
        nm (x3 + 1) fun x7 =>
        lp_X8_fewest_18 a1 a2 n x7 f6
      else
        some (x3, f6)
noncomputable def pf_X8_fewest (a1 : Int32) (a2 : Int32) (t_drawnSize : Nat → Int32) : Option (Int32 × (Nat → Int32)) :=
bi_0 (pf_X8_isPart a1) fun r1 =>
if r1 = 0 then
  some ((-1), t_drawnSize)
else
  bi_0 (pf_X8_isReach a2) fun r2 =>
  if r2 = 0 then
    some ((-1), t_drawnSize)
  else
    lp_X8_fewest_18 a1 a2 FU 2 t_drawnSize

noncomputable def lp_X8_loosest_18 (a1 : Int32) (a2 : Int32) : Nat → Int32 → (Nat → Int32) → Option (Int32 × (Nat → Int32))
  | 0, _, _ => none
  | n + 1, x3, f4 =>
    if 100 < x3 then
      some ((-1), f4)
    else
      bi_1 (pf_X8_layDrawn a1 x3 f4) fun r5 f6 =>
      if r5 < a2 then
        nm (x3 + 1) fun x7 =>
        lp_X8_loosest_18 a1 a2 n x7 f6
      else
        some (x3, f6)
noncomputable def pf_X8_loosest (a1 : Int32) (a2 : Int32) (t_drawnSize : Nat → Int32) : Option (Int32 × (Nat → Int32)) :=
bi_0 (pf_X8_isWide a1) fun r1 =>
if r1 = 0 then
  some ((-1), t_drawnSize)
else
  bi_0 (pf_X8_isReach a2) fun r2 =>
  if r2 = 0 then
    some ((-1), t_drawnSize)
  else
    lp_X8_loosest_18 a1 a2 FU 0 t_drawnSize

noncomputable def lp_X8_draw__32 (a1 : Int32) (t_base : Int32) (f4 : Nat → Int32) (J58 : (Nat → Int32) → Option (Int32 × (Nat → Int32) × Int32 × (Nat → Int32))) : Nat → Int32 → (Nat → Int32) → Option (Int32 × (Nat → Int32) × Int32 × (Nat → Int32))
  | 0, _, _ => none
  | n + 1, x8, f9 =>
    if a1 ≤ x8 then
      J58 f9
    else
      ckI x8 12 <|
      bv_1 (pf_X8_layBit x8 (f4 x8.toNatClampNeg) 0 f9 t_base) fun f10 =>
      nm (x8 + 1) fun x11 =>
      lp_X8_draw__32 a1 t_base f4 J58 n x11 f10
noncomputable def pf_X8_draw_ (a1 : Int32) (a2 : Int32) (t_all : Nat → Int32) (t_base : Int32) (t_wasConverted : Int32) (t_drawnSize : Nat → Int32) : Option (Int32 × (Nat → Int32) × Int32 × (Nat → Int32)) :=
bi_0 (pf_X8_isWide a1) fun r1 =>
if r1 = 0 then
  some (0, t_all, t_wasConverted, t_drawnSize)
else
  bi_0 (pf_X8_isPart a2) fun r2 =>
  if r2 = 0 then
    some (0, t_all, t_wasConverted, t_drawnSize)
  else
    bi_1 (pf_X8_layDrawn a1 a2 t_drawnSize) fun r3 f4 =>
    bv_1 (pf_X8_put 0 a1 t_all t_base) fun f5 =>
    jn (fun (f6 : Nat → Int32) =>
    bv_1 (pf_X8_put 57 0 f6 t_base) fun f7 =>
    some (1, f7, 0, f4)) fun J58 =>
    lp_X8_draw__32 a1 t_base f4 J58 FU 0 f5

noncomputable def lp_X8_due_41 (a1 : Int32) (a2 : Int32) (t_turned : Int32) (x5 : Int32) : Nat → Int32 → Int32 → (Nat → Int32) → (Nat → Int32) → (Nat → Int32) → (Nat → Int32) → (Nat → Int32) → (Nat → Int32) → (Nat → Int32) → Int32 → Int32 → Int32 → (Nat → Int32) → (Nat → Int32) → Int32 → Option (Int32 × (Nat → Int32) × Int32 × (Nat → Int32) × (Nat → Int32) × (Nat → Int32) × (Nat → Int32) × (Nat → Int32) × (Nat → Int32) × Int32 × Int32 × Int32 × (Nat → Int32) × (Nat → Int32) × Int32)
  | 0, _, _, _, _, _, _, _, _, _, _, _, _, _, _, _ => none
  | n + 1, x6, x7, f8, f9, f10, f11, f12, f13, f14, x15, x16, x17, f18, f19, x20 =>
    if 100 < x7 then
      bv_1 (pf_X8_comeBack) fun x21 =>
      some (x6, f8, x21, f9, f10, f11, f12, f13, f14, x15, x16, x17, f18, f19, x20)
    else
      if x6 = (-1) then
        bi_0 (pf_X8_get 5 f8 x5) fun r23 =>
        bv_11 (pf_X8_layCodes 0 a2 r23 f8 x5 f11 f12 f13 f14 x15 x16 x17 t_turned f18 f19) fun f24 f25 f26 f27 f28 x29 x30 x31 f32 f33 x34 =>
        bi_0 (pf_X8_get 5 f24 x5) fun r35 =>
        bi_0 (pf_X8_ofHistogram 0 r35 3 f24 x5 f32 f33 x34) fun r36 =>
        jn (fun (x37 : Int32) =>
        if x37 = (-1) then
          bi_3 (pf_X8_hour f24 x5 f9 f10) fun r39 f40 f41 f42 =>
          nm (x7 + 1) fun x43 =>
          lp_X8_due_41 a1 a2 t_turned x5 n x37 x43 f40 f41 f42 f25 f26 f27 f28 x29 x30 x31 f32 f33 x34
        else
          nm (x7 + 1) fun x38 =>
          lp_X8_due_41 a1 a2 t_turned x5 n x37 x38 f24 f9 f10 f25 f26 f27 f28 x29 x30 x31 f32 f33 x34) fun J82 =>
        if r36 ≤ a1 then
          J82 x6
        else
          J82 x7
      else
        bv_1 (pf_X8_comeBack) fun x22 =>
        some (x6, f8, x22, f9, f10, f11, f12, f13, f14, x15, x16, x17, f18, f19, x20)
noncomputable def pf_X8_due (a1 : Int32) (a2 : Int32) (t_all : Nat → Int32) (t_base : Int32) (t_pile : Nat → Int32) (t_nextOff : Nat → Int32) (t_decided : Nat → Int32) (t_wasLate : Nat → Int32) (t_askedOf : Nat → Int32) (t_heldBehind : Nat → Int32) (t_sum : Int32) (t_heldAll : Int32) (t_onPaper : Int32) (t_turned : Int32) (t_codes : Nat → Int32) (t_sorted : Nat → Int32) (t_codeMany : Int32) : Option (Int32 × (Nat → Int32) × Int32 × (Nat → Int32) × (Nat → Int32) × (Nat → Int32) × (Nat → Int32) × (Nat → Int32) × (Nat → Int32) × Int32 × Int32 × Int32 × (Nat → Int32) × (Nat → Int32) × Int32) :=
bi_0 (pf_X8_get 0 t_all t_base) fun r1 =>
if r1 = 0 then
  some ((-2), t_all, t_base, t_pile, t_nextOff, t_decided, t_wasLate, t_askedOf, t_heldBehind, t_sum, t_heldAll, t_onPaper, t_codes, t_sorted, t_codeMany)
else
  if a1 < 0 then
    some ((-2), t_all, t_base, t_pile, t_nextOff, t_decided, t_wasLate, t_askedOf, t_heldBehind, t_sum, t_heldAll, t_onPaper, t_codes, t_sorted, t_codeMany)
  else
    if a2 < 0 then
      some ((-2), t_all, t_base, t_pile, t_nextOff, t_decided, t_wasLate, t_askedOf, t_heldBehind, t_sum, t_heldAll, t_onPaper, t_codes, t_sorted, t_codeMany)
    else
      bi_0 (pf_X8_get 5 t_all t_base) fun r2 =>
      bi_0 (pf_X8_isRow 0 a2 r2) fun r3 =>
      if r3 = 0 then
        some ((-2), t_all, t_base, t_pile, t_nextOff, t_decided, t_wasLate, t_askedOf, t_heldBehind, t_sum, t_heldAll, t_onPaper, t_codes, t_sorted, t_codeMany)
      else
        bv_2 (pf_X8_goAside t_all) fun f4 x5 =>
        lp_X8_due_41 a1 a2 t_turned x5 FU (-1) 0 f4 t_pile t_nextOff t_decided t_wasLate t_askedOf t_heldBehind t_sum t_heldAll t_onPaper t_codes t_sorted t_codeMany

noncomputable def lp_X8_plan_57 (a1 : Int32) (a2 : Int32) (t_turned : Int32) (x7 : Int32) (J122 : Int32 → Int32 → Int32 → (Nat → Int32) → (Nat → Int32) → (Nat → Int32) → (Nat → Int32) → (Nat → Int32) → (Nat → Int32) → (Nat → Int32) → Int32 → Int32 → Int32 → (Nat → Int32) → (Nat → Int32) → Int32 → Option (Int32 × (Nat → Int32) × Int32 × (Nat → Int32) × (Nat → Int32) × (Nat → Int32) × (Nat → Int32) × (Nat → Int32) × (Nat → Int32) × Int32 × Int32 × Int32 × (Nat → Int32) × (Nat → Int32) × Int32)) : Nat → Int32 → Int32 → Int32 → Int32 → (Nat → Int32) → (Nat → Int32) → (Nat → Int32) → (Nat → Int32) → (Nat → Int32) → (Nat → Int32) → (Nat → Int32) → Int32 → Int32 → Int32 → (Nat → Int32) → (Nat → Int32) → Int32 → Option (Int32 × (Nat → Int32) × Int32 × (Nat → Int32) × (Nat → Int32) × (Nat → Int32) × (Nat → Int32) × (Nat → Int32) × (Nat → Int32) × Int32 × Int32 × Int32 × (Nat → Int32) × (Nat → Int32) × Int32)
  | 0, _, _, _, _, _, _, _, _, _, _, _, _, _, _, _, _, _ => none
  | n + 1, x25, x26, x27, x28, f29, f30, f31, f32, f33, f34, f35, x36, x37, x38, f39, f40, x41 =>
    if a2 ≤ x28 then
      J122 x25 x26 x27 f29 f30 f31 f32 f33 f34 f35 x36 x37 x38 f39 f40 x41
    else
      bi_11 (pf_X8_isMissing f29 x7 f32 f33 f34 f35 x36 x37 x38 t_turned f39 f40) fun r42 f43 f44 f45 f46 f47 x48 x49 x50 f51 f52 x53 =>
      jn (fun (x54 : Int32) (x55 : Int32) (x56 : Int32) (f57 : Nat → Int32) (f58 : Nat → Int32) (f59 : Nat → Int32) (f60 : Nat → Int32) (f61 : Nat → Int32) (x62 : Int32) (x63 : Int32) (x64 : Int32) (f65 : Nat → Int32) (f66 : Nat → Int32) (x67 : Int32) =>
      bi_3 (pf_X8_hour f57 x7 f30 f31) fun r68 f69 f70 f71 =>
      nm (x28 + 1) fun x72 =>
      lp_X8_plan_57 a1 a2 t_turned x7 J122 n x54 x55 x56 x72 f69 f70 f71 f58 f59 f60 f61 x62 x63 x64 f65 f66 x67) fun J110 =>
      if r42 = 0 then
        J110 x25 x26 x27 f43 f44 f45 f46 f47 x48 x49 x50 f51 f52 x53
      else
        bv_8 (pf_X8_learnOnPaper a1 f43 x7 f44 f45 f46 f47 x48 x49 t_turned) fun f73 f74 f75 f76 f77 x78 x79 x80 =>
        nm (x25 + 1) fun x81 =>
        jn (fun (x82 : Int32) =>
        bi_11 (pf_X8_isMissing f73 x7 f74 f75 f76 f77 x78 x79 x80 t_turned f51 f52) fun r83 f84 f85 f86 f87 f88 x89 x90 x91 f92 f93 x94 =>
        jn (fun (x95 : Int32) =>
        nm (x27 + x95) fun x96 =>
        J110 x81 x82 x96 f84 f85 f86 f87 f88 x89 x90 x91 f92 f93 x94) fun J107 =>
        if r83 = 0 then
          J107 0
        else
          J107 1) fun J91 =>
        if x26 = (-1) then
          J91 x28
        else
          J91 x26
noncomputable def pf_X8_plan (a1 : Int32) (a2 : Int32) (a3 : Int32) (t_all : Nat → Int32) (t_base : Int32) (t_pile : Nat → Int32) (t_nextOff : Nat → Int32) (t_decided : Nat → Int32) (t_wasLate : Nat → Int32) (t_askedOf : Nat → Int32) (t_heldBehind : Nat → Int32) (t_sum : Int32) (t_heldAll : Int32) (t_onPaper : Int32) (t_turned : Int32) (t_codes : Nat → Int32) (t_sorted : Nat → Int32) (t_codeMany : Int32) : Option (Int32 × (Nat → Int32) × Int32 × (Nat → Int32) × (Nat → Int32) × (Nat → Int32) × (Nat → Int32) × (Nat → Int32) × (Nat → Int32) × Int32 × Int32 × Int32 × (Nat → Int32) × (Nat → Int32) × Int32) :=
bi_0 (pf_X8_isShortRow t_all t_base) fun r1 =>
if r1 = 0 then
  some ((-1), t_all, t_base, t_pile, t_nextOff, t_decided, t_wasLate, t_askedOf, t_heldBehind, t_sum, t_heldAll, t_onPaper, t_codes, t_sorted, t_codeMany)
else
  bi_0 (pf_X8_get 0 t_all t_base) fun r2 =>
  bi_0 (pf_X8_isIn a1 1 r2) fun r3 =>
  if r3 = 0 then
    some ((-1), t_all, t_base, t_pile, t_nextOff, t_decided, t_wasLate, t_askedOf, t_heldBehind, t_sum, t_heldAll, t_onPaper, t_codes, t_sorted, t_codeMany)
  else
    bi_0 (pf_X8_isIn a2 1 40) fun r4 =>
    if r4 = 0 then
      some ((-1), t_all, t_base, t_pile, t_nextOff, t_decided, t_wasLate, t_askedOf, t_heldBehind, t_sum, t_heldAll, t_onPaper, t_codes, t_sorted, t_codeMany)
    else
      bi_0 (pf_X8_isIn a3 0 2) fun r5 =>
      if r5 = 0 then
        some ((-1), t_all, t_base, t_pile, t_nextOff, t_decided, t_wasLate, t_askedOf, t_heldBehind, t_sum, t_heldAll, t_onPaper, t_codes, t_sorted, t_codeMany)
      else
        bv_2 (pf_X8_goAside t_all) fun f6 x7 =>
        jn (fun (x8 : Int32) (x9 : Int32) (x10 : Int32) (f11 : Nat → Int32) (f12 : Nat → Int32) (f13 : Nat → Int32) (f14 : Nat → Int32) (f15 : Nat → Int32) (f16 : Nat → Int32) (f17 : Nat → Int32) (x18 : Int32) (x19 : Int32) (x20 : Int32) (f21 : Nat → Int32) (f22 : Nat → Int32) (x23 : Int32) =>
        bv_1 (pf_X8_comeBack) fun x24 =>
        if a3 = 0 then
          some (x8, f11, x24, f12, f13, f14, f15, f16, f17, x18, x19, x20, f21, f22, x23)
        else
          if a3 = 1 then
            some (x9, f11, x24, f12, f13, f14, f15, f16, f17, x18, x19, x20, f21, f22, x23)
          else
            some (x10, f11, x24, f12, f13, f14, f15, f16, f17, x18, x19, x20, f21, f22, x23)) fun J122 =>
        lp_X8_plan_57 a1 a2 t_turned x7 J122 FU 0 (-1) 0 0 f6 t_pile t_nextOff t_decided t_wasLate t_askedOf t_heldBehind t_sum t_heldAll t_onPaper t_codes t_sorted t_codeMany

noncomputable def pf_X8_canSum (t_all : Nat → Int32) (t_base : Int32) : Option (Int32 × Unit) :=
bi_0 (pf_X8_get 0 t_all t_base) fun r1 =>
if r1 ≤ 0 then
  some (0, ())
else
  bi_0 (pf_X8_get 0 t_all t_base) fun r2 =>
  bi_0 (pf_X8_sumOf 33 r2 t_all t_base) fun r3 =>
  if 20000 < r3 then
    some (0, ())
  else
    some (1, ())

noncomputable def lp_X8_layWays_71 (x5 : Int32) (r8 : Int32) (x9 : Int32) (B44 : Int32 → Int32 → (Nat → Int32) → Option (Int32 × (Nat → Int32))) : Nat → Int32 → (Nat → Int32) → Option (Int32 × (Nat → Int32))
  | 0, _, _ => none
  | n + 1, x10, f11 =>
    if x10 < r8 then
      nm (x5 + 1) fun x12 =>
      B44 x9 x12 f11
    else
      ckI x10 20001 <|
      jn (fun (x13 : Int32) =>
      nm ((f11 x10.toNatClampNeg) + x13) fun x14 =>
      ckI x10 20001 <|
      nm (x10 + (-1)) fun x15 =>
      lp_X8_layWays_71 x5 r8 x9 B44 n x15 (upd f11 x10.toNatClampNeg x14)) fun J111 =>
      if r8 = 0 then
        ckI x10 20001 <|
        J111 (f11 x10.toNatClampNeg)
      else
        ckI (x10 - r8) 20001 <|
        J111 (f11 (x10 - r8).toNatClampNeg)
noncomputable def lp_X8_layWays_44 (t_base : Int32) (t_all : Nat → Int32) (r2 : Int32) : Nat → Int32 → Int32 → (Nat → Int32) → Option (Int32 × (Nat → Int32))
  | 0, _, _, _ => none
  | n + 1, x4, x5, f6 =>
    bi_0 (pf_X8_get 0 t_all t_base) fun r7 =>
    if r7 ≤ x5 then
      some (r2, f6)
    else
      bi_0 (pf_X8_get (33 + x5) t_all t_base) fun r8 =>
      nm (x4 + r8) fun x9 =>
      jn (fun (x4' : Int32) (x5' : Int32) (f6' : Nat → Int32) => lp_X8_layWays_44 t_base t_all r2 n x4' x5' f6') fun B44 =>
      lp_X8_layWays_71 x5 r8 x9 B44 FU x9 f6
noncomputable def lp_X8_layWays_14 (r2 : Int32) (J40 : (Nat → Int32) → Option (Int32 × (Nat → Int32))) : Nat → Int32 → (Nat → Int32) → Option (Int32 × (Nat → Int32))
  | 0, _, _ => none
  | n + 1, x16, f17 =>
    if r2 < x16 then
      J40 f17
    else
      jn (fun (x18 : Int32) =>
      ckI x16 20001 <|
      nm (x16 + 1) fun x19 =>
      lp_X8_layWays_14 r2 J40 n x19 (upd f17 x16.toNatClampNeg x18)) fun J33 =>
      if x16 = 0 then
        J33 1
      else
        J33 0
noncomputable def pf_X8_layWays (t_all : Nat → Int32) (t_base : Int32) (t_ways : Nat → Int32) : Option (Int32 × (Nat → Int32)) :=
bi_0 (pf_X8_get 0 t_all t_base) fun r1 =>
bi_0 (pf_X8_sumOf 33 r1 t_all t_base) fun r2 =>
jn (fun (f3 : Nat → Int32) =>
lp_X8_layWays_44 t_base t_all r2 FU 0 0 f3) fun J40 =>
lp_X8_layWays_14 r2 J40 FU 0 t_ways

noncomputable def pf_X8_ways (a1 : Int32) (t_all : Nat → Int32) (t_base : Int32) (t_ways : Nat → Int32) : Option (Int32 × (Nat → Int32)) :=
bi_0 (pf_X8_canSum t_all t_base) fun r1 =>
if r1 = 0 then
  some ((-1), t_ways)
else
  bi_1 (pf_X8_layWays t_all t_base t_ways) fun r2 f3 =>
  bi_0 (pf_X8_isIn a1 0 r2) fun r4 =>
  if r4 = 0 then
    some (0, f3)
  else
    ckI a1 20001 <|
    some ((f3 a1.toNatClampNeg), f3)

noncomputable def lp_X8_sums_34 (r3 : Int32) (f4 : Nat → Int32) (J115 : Int32 → Int32 → Int32 → Option (Int32 × (Nat → Int32))) : Nat → Int32 → Int32 → Int32 → Int32 → Option (Int32 × (Nat → Int32))
  | 0, _, _, _, _ => none
  | n + 1, x8, x9, x10, x11 =>
    if r3 < x11 then
      J115 x8 x9 x10
    else
      ckI x11 20001 <|
      jn (fun (x12 : Int32) =>
      nm (x8 + x12) fun x13 =>
      ckI x11 20001 <|
      ckI x9 20001 <|
      jn (fun (x14 : Int32) =>
      ckI x11 20001 <|
      if (f4 x11.toNatClampNeg) = 0 then
        if x10 = (-1) then
          nm (x11 + 1) fun x17 =>
          lp_X8_sums_34 r3 f4 J115 n x13 x14 x11 x17
        else
          nm (x11 + 1) fun x16 =>
          lp_X8_sums_34 r3 f4 J115 n x13 x14 x10 x16
      else
        nm (x11 + 1) fun x15 =>
        lp_X8_sums_34 r3 f4 J115 n x13 x14 x10 x15) fun J82 =>
      if (f4 x11.toNatClampNeg) ≤ (f4 x9.toNatClampNeg) then
        J82 x9
      else
        J82 x11) fun J56 =>
      if (f4 x11.toNatClampNeg) ≤ 0 then
        J56 0
      else
        J56 1
noncomputable def pf_X8_sums (a1 : Int32) (t_all : Nat → Int32) (t_base : Int32) (t_ways : Nat → Int32) : Option (Int32 × (Nat → Int32)) :=
bi_0 (pf_X8_canSum t_all t_base) fun r1 =>
if r1 = 0 then
  some ((-1), t_ways)
else
  bi_0 (pf_X8_isIn a1 0 3) fun r2 =>
  if r2 = 0 then
    some ((-1), t_ways)
  else
    bi_1 (pf_X8_layWays t_all t_base t_ways) fun r3 f4 =>
    jn (fun (x5 : Int32) (x6 : Int32) (x7 : Int32) =>
    if a1 = 0 then
      some (x5, f4)
    else
      if a1 = 1 then
        ckI x6 20001 <|
        some ((f4 x6.toNatClampNeg), f4)
      else
        if a1 = 2 then
          some (x6, f4)
        else
          some (x7, f4)) fun J115 =>
    lp_X8_sums_34 r3 f4 J115 FU 0 0 (-1) 0

noncomputable def lp_X8_mean_34 (a1 : Int32) (a2 : Int32) (t_base : Int32) (t_onPaper : Int32) (t_turned : Int32) (J69 : Int64 → (Nat → Int32) → (Nat → Int32) → (Nat → Int32) → (Nat → Int32) → (Nat → Int32) → Int32 → Int32 → Option (Int32 × (Nat → Int32) × (Nat → Int32) × (Nat → Int32) × (Nat → Int32) × (Nat → Int32) × Int32 × Int32)) : Nat → Int64 → Int32 → (Nat → Int32) → (Nat → Int32) → (Nat → Int32) → (Nat → Int32) → (Nat → Int32) → Int32 → Int32 → Option (Int32 × (Nat → Int32) × (Nat → Int32) × (Nat → Int32) × (Nat → Int32) × (Nat → Int32) × Int32 × Int32)
  | 0, _, _, _, _, _, _, _, _, _ => none
  | n + 1, x12, x13, f14, f15, f16, f17, f18, x19, x20 =>
    if a2 ≤ x13 then
      J69 x12 f14 f15 f16 f17 f18 x19 x20
    else
      bi_0 (pf_X8_get 0 f14 t_base) fun r21 =>
      bi_0 (pf_X8_get 1 f14 t_base) fun r22 =>
      bv_7 (pf_X8_goThrough a1 r21 r22 f14 t_base f15 f16 f17 f18 t_onPaper t_turned) fun f23 f24 f25 f26 f27 x28 x29 =>
      bi_0 (pf_X8_codeNow f23 t_base x28) fun r30 =>
      nm (x12 + r30.toInt64) fun x31 =>
      nm (x13 + 1) fun x32 =>
      lp_X8_mean_34 a1 a2 t_base t_onPaper t_turned J69 n x31 x32 f23 f24 f25 f26 f27 x28 x29
noncomputable def pf_X8_mean (a1 : Int32) (a2 : Int32) (t_all : Nat → Int32) (t_base : Int32) (t_decided : Nat → Int32) (t_wasLate : Nat → Int32) (t_askedOf : Nat → Int32) (t_heldBehind : Nat → Int32) (t_sum : Int32) (t_heldAll : Int32) (t_onPaper : Int32) (t_turned : Int32) : Option (Int32 × (Nat → Int32) × (Nat → Int32) × (Nat → Int32) × (Nat → Int32) × (Nat → Int32) × Int32 × Int32) :=
bi_0 (pf_X8_isX a1) fun r1 =>
if r1 = 0 then
  some ((-1000000), t_all, t_decided, t_wasLate, t_askedOf, t_heldBehind, t_sum, t_heldAll)
else
  bi_0 (pf_X8_isIn a2 1 100) fun r2 =>
  if r2 = 0 then
    some ((-1000000), t_all, t_decided, t_wasLate, t_askedOf, t_heldBehind, t_sum, t_heldAll)
  else
    bi_0 (pf_X8_get 0 t_all t_base) fun r3 =>
    if r3 = 0 then
      some ((-1000000), t_all, t_decided, t_wasLate, t_askedOf, t_heldBehind, t_sum, t_heldAll)
    else
      jn (fun (x4 : Int64) (f5 : Nat → Int32) (f6 : Nat → Int32) (f7 : Nat → Int32) (f8 : Nat → Int32) (f9 : Nat → Int32) (x10 : Int32) (x11 : Int32) =>
      ckL (2 * a2.toInt64) <|
      some ((((2 * x4) + a2.toInt64) / (2 * a2.toInt64)).toInt32, f5, f6, f7, f8, f9, x10, x11)) fun J69 =>
      lp_X8_mean_34 a1 a2 t_base t_onPaper t_turned J69 FU 0 0 t_all t_decided t_wasLate t_askedOf t_heldBehind t_sum t_heldAll

noncomputable def pf_X8_keep (a1 : Int32) (t_all : Nat → Int32) (t_isKept : Nat → Int32) : Option (Int32 × (Nat → Int32) × (Nat → Int32)) :=
bi_0 (pf_X8_isIn a1 0 2) fun r1 =>
if r1 = 0 then
  some (0, t_all, t_isKept)
else
  bv_1 (pf_X8_copyRow 0 (1 + a1) t_all) fun f2 =>
  ckI a1 3 <|
  some (1, f2, (upd t_isKept a1.toNatClampNeg (vp_nar .boolean 1)))

noncomputable def pf_X8_back (a1 : Int32) (t_all : Nat → Int32) (t_wasConverted : Int32) (t_isKept : Nat → Int32) : Option (Int32 × (Nat → Int32) × Int32) :=
bi_0 (pf_X8_isIn a1 0 2) fun r1 =>
if r1 = 0 then
  some (0, t_all, t_wasConverted)
else
  ckI a1 3 <|
  if (t_isKept a1.toNatClampNeg) = 0 then
    some (0, t_all, t_wasConverted)
  else
    bv_1 (pf_X8_copyRow (1 + a1) 0 t_all) fun f2 =>
    some (1, f2, 0)

noncomputable def lp_X8_apart_80 (a1 : Int32) (a3 : Int32) (t_turned : Int32) (J184 : Int32 → Int32 → Int32 → (Nat → Int32) → Int32 → (Nat → Int32) → (Nat → Int32) → (Nat → Int32) → (Nat → Int32) → Int32 → Int32 → Int32 → Option (Int32 × (Nat → Int32) × Int32 × (Nat → Int32) × (Nat → Int32) × (Nat → Int32) × (Nat → Int32) × Int32 × Int32 × Int32)) : Nat → Int32 → Int32 → Int32 → Int32 → (Nat → Int32) → Int32 → (Nat → Int32) → (Nat → Int32) → (Nat → Int32) → (Nat → Int32) → Int32 → Int32 → Int32 → Option (Int32 × (Nat → Int32) × Int32 × (Nat → Int32) × (Nat → Int32) × (Nat → Int32) × (Nat → Int32) × Int32 × Int32 × Int32)
  | 0, _, _, _, _, _, _, _, _, _, _, _, _, _ => none
  | n + 1, x17, x18, x19, x20, f21, x22, f23, f24, f25, f26, x27, x28, x29 =>
    if a3 < x20 then
      J184 x17 x18 x19 f21 x22 f23 f24 f25 f26 x27 x28 x29
    else
      bi_8 (pf_X8_paperCode x20 f21 x22 f23 f24 f25 f26 t_turned) fun r30 f31 f32 f33 f34 f35 x36 x37 x38 =>
      nm (160 * (1 + a1)) fun x39 =>
      bi_8 (pf_X8_paperCode x20 f31 x39 f32 f33 f34 f35 t_turned) fun r40 f41 f42 f43 f44 f45 x46 x47 x48 =>
      nm (r30 - r40) fun x49 =>
      jn (fun (x50 : Int32) =>
      if x50 = 0 then
        nm (x20 + 1) fun x55 =>
        lp_X8_apart_80 a1 a3 t_turned J184 n x17 x18 x19 x55 f41 0 f42 f43 f44 f45 x46 x47 x48
      else
        nm (x17 + 1) fun x51 =>
        jn (fun (x52 : Int32) =>
        if x50 ≤ x19 then
          nm (x20 + 1) fun x53 =>
          lp_X8_apart_80 a1 a3 t_turned J184 n x51 x52 x19 x53 f41 0 f42 f43 f44 f45 x46 x47 x48
        else
          nm (x20 + 1) fun x54 =>
          lp_X8_apart_80 a1 a3 t_turned J184 n x51 x52 x50 x54 f41 0 f42 f43 f44 f45 x46 x47 x48) fun J160 =>
        if x51 = 1 then
          J160 x20
        else
          J160 x18) fun J134 =>
      if 0 ≤ x49 then
        J134 x49
      else
        J134 (-x49)
noncomputable def pf_X8_apart (a1 : Int32) (a2 : Int32) (a3 : Int32) (a4 : Int32) (t_all : Nat → Int32) (t_base : Int32) (t_decided : Nat → Int32) (t_wasLate : Nat → Int32) (t_askedOf : Nat → Int32) (t_heldBehind : Nat → Int32) (t_sum : Int32) (t_heldAll : Int32) (t_onPaper : Int32) (t_turned : Int32) (t_isKept : Nat → Int32) : Option (Int32 × (Nat → Int32) × Int32 × (Nat → Int32) × (Nat → Int32) × (Nat → Int32) × (Nat → Int32) × Int32 × Int32 × Int32) :=
bi_0 (pf_X8_isIn a1 0 2) fun r1 =>
if r1 = 0 then
  some ((-1000000), t_all, t_base, t_decided, t_wasLate, t_askedOf, t_heldBehind, t_sum, t_heldAll, t_onPaper)
else
  ckI a1 3 <|
  if (t_isKept a1.toNatClampNeg) = 0 then
    some ((-1000000), t_all, t_base, t_decided, t_wasLate, t_askedOf, t_heldBehind, t_sum, t_heldAll, t_onPaper)
  else
    bi_0 (pf_X8_get 0 t_all t_base) fun r2 =>
    if r2 = 0 then
      some ((-1000000), t_all, t_base, t_decided, t_wasLate, t_askedOf, t_heldBehind, t_sum, t_heldAll, t_onPaper)
    else
      ckI ((160 * (1 + a1)) + 0) 800 <|
      if (t_all ((160 * (1 + a1)) + 0).toNatClampNeg) = 0 then
        some ((-1000000), t_all, t_base, t_decided, t_wasLate, t_askedOf, t_heldBehind, t_sum, t_heldAll, t_onPaper)
      else
        bi_0 (pf_X8_isRow a2 a3 1) fun r3 =>
        if r3 = 0 then
          some ((-1000000), t_all, t_base, t_decided, t_wasLate, t_askedOf, t_heldBehind, t_sum, t_heldAll, t_onPaper)
        else
          bi_0 (pf_X8_isIn a4 0 2) fun r4 =>
          if r4 = 0 then
            some ((-1000000), t_all, t_base, t_decided, t_wasLate, t_askedOf, t_heldBehind, t_sum, t_heldAll, t_onPaper)
          else
            jn (fun (x5 : Int32) (x6 : Int32) (x7 : Int32) (f8 : Nat → Int32) (x9 : Int32) (f10 : Nat → Int32) (f11 : Nat → Int32) (f12 : Nat → Int32) (f13 : Nat → Int32) (x14 : Int32) (x15 : Int32) (x16 : Int32) =>
            if a4 = 0 then
              some (x5, f8, x9, f10, f11, f12, f13, x14, x15, x16)
            else
              if a4 = 1 then
                some (x6, f8, x9, f10, f11, f12, f13, x14, x15, x16)
              else
                some (x7, f8, x9, f10, f11, f12, f13, x14, x15, x16)) fun J184 =>
            lp_X8_apart_80 a1 a3 t_turned J184 FU 0 (-1000000) 0 a2 t_all t_base t_decided t_wasLate t_askedOf t_heldBehind t_sum t_heldAll t_onPaper

noncomputable def pf_X8_see (a1 : Int32) (a2 : Int32) (t_all : Nat → Int32) (t_base : Int32) : Option (Int32 × (Nat → Int32)) :=
bi_0 (pf_X8_isX a1) fun r1 =>
if r1 = 0 then
  some ((-2), t_all)
else
  bi_0 (pf_X8_get 57 t_all t_base) fun r2 =>
  if r2 = 8 then
    some ((-1), t_all)
  else
    bv_1 (pf_X8_put (58 + r2) a1 t_all t_base) fun f3 =>
    bv_1 (pf_X8_put (66 + r2) a2 f3 t_base) fun f4 =>
    bv_1 (pf_X8_put 57 (r2 + 1) f4 t_base) fun f5 =>
    some ((r2 + 1), f5)

noncomputable def pf_X8_wipe (t_all : Nat → Int32) (t_base : Int32) : Option (Int32 × (Nat → Int32)) :=
bi_0 (pf_X8_get 57 t_all t_base) fun r1 =>
bv_1 (pf_X8_put 57 0 t_all t_base) fun f2 =>
some (r1, f2)

noncomputable def lp_X8_isSeen_2 (t_base : Int32) (t_turned : Int32) : Nat → Int32 → (Nat → Int32) → (Nat → Int32) → (Nat → Int32) → (Nat → Int32) → (Nat → Int32) → Int32 → Int32 → Int32 → Option (Int32 × (Nat → Int32) × (Nat → Int32) × (Nat → Int32) × (Nat → Int32) × (Nat → Int32) × Int32 × Int32 × Int32)
  | 0, _, _, _, _, _, _, _, _, _ => none
  | n + 1, x1, f2, f3, f4, f5, f6, x7, x8, x9 =>
    bi_0 (pf_X8_get 57 f2 t_base) fun r10 =>
    if r10 ≤ x1 then
      some (1, f2, f3, f4, f5, f6, x7, x8, x9)
    else
      bi_0 (pf_X8_get (58 + x1) f2 t_base) fun r11 =>
      bi_8 (pf_X8_paperCode r11 f2 t_base f3 f4 f5 f6 t_turned) fun r12 f13 f14 f15 f16 f17 x18 x19 x20 =>
      bi_0 (pf_X8_get (66 + x1) f13 t_base) fun r21 =>
      if r12 = r21 then
        nm (x1 + 1) fun x22 =>
        lp_X8_isSeen_2 t_base t_turned n x22 f13 f14 f15 f16 f17 x18 x19 x20
      else
        some (0, f13, f14, f15, f16, f17, x18, x19, x20)
noncomputable def pf_X8_isSeen (t_all : Nat → Int32) (t_base : Int32) (t_decided : Nat → Int32) (t_wasLate : Nat → Int32) (t_askedOf : Nat → Int32) (t_heldBehind : Nat → Int32) (t_sum : Int32) (t_heldAll : Int32) (t_onPaper : Int32) (t_turned : Int32) : Option (Int32 × (Nat → Int32) × (Nat → Int32) × (Nat → Int32) × (Nat → Int32) × (Nat → Int32) × Int32 × Int32 × Int32) :=
lp_X8_isSeen_2 t_base t_turned FU 0 t_all t_decided t_wasLate t_askedOf t_heldBehind t_sum t_heldAll t_onPaper

noncomputable def pf_X8_isFault (a1 : Int32) (a2 : Int32) (a3 : Int32) (t_all : Nat → Int32) (t_base : Int32) (t_decided : Nat → Int32) (t_wasLate : Nat → Int32) (t_askedOf : Nat → Int32) (t_heldBehind : Nat → Int32) (t_sum : Int32) (t_heldAll : Int32) (t_onPaper : Int32) (t_turned : Int32) : Option (Int32 × (Nat → Int32) × (Nat → Int32) × (Nat → Int32) × (Nat → Int32) × (Nat → Int32) × Int32 × Int32 × Int32) :=
jn (fun (x1 : Int32) =>
bi_0 (pf_X8_get x1 t_all t_base) fun r2 =>
jn (jn (fun (x3 : Int32) =>
bv_1 (pf_X8_put x1 x3 t_all t_base) fun f4 =>
bi_8 (pf_X8_isSeen f4 t_base t_decided t_wasLate t_askedOf t_heldBehind t_sum t_heldAll t_onPaper t_turned) fun r5 f6 f7 f8 f9 f10 x11 x12 x13 =>
bv_1 (pf_X8_put x1 r2 f6 t_base) fun f14 =>
ckZ r5 <|
some (r5, f14, f7, f8, f9, f10, x11, x12, x13)) fun J58 =>
if a1 = 0 then
  J58 a3
else
  J58 (r2 + a3)) fun J43 =>
if a1 = 1 then
  bi_0 (pf_X8_weight a2 t_all t_base) fun r15 =>
  if 1 ≤ (r15 + a3) then
    J43
  else
    some (0, t_all, t_decided, t_wasLate, t_askedOf, t_heldBehind, t_sum, t_heldAll, t_onPaper)
else
  J43) fun J15 =>
if a1 = 0 then
  J15 (45 + a2)
else
  J15 (21 + a2)

noncomputable def lp_X8_faults_63 (a1 : Int32) (t_base : Int32) (t_turned : Int32) (x18 : Int32) (B45 : Int32 → Int32 → Int32 → Int32 → (Nat → Int32) → (Nat → Int32) → (Nat → Int32) → (Nat → Int32) → (Nat → Int32) → Int32 → Int32 → Int32 → Option (Int32 × (Nat → Int32) × (Nat → Int32) × (Nat → Int32) × (Nat → Int32) × (Nat → Int32) × Int32 × Int32 × Int32)) : Nat → Int32 → Int32 → Int32 → Int32 → (Nat → Int32) → (Nat → Int32) → (Nat → Int32) → (Nat → Int32) → (Nat → Int32) → Int32 → Int32 → Int32 → Option (Int32 × (Nat → Int32) × (Nat → Int32) × (Nat → Int32) × (Nat → Int32) × (Nat → Int32) × Int32 × Int32 × Int32)
  | 0, _, _, _, _, _, _, _, _, _, _, _, _ => none
  | n + 1, x28, x29, x30, x31, f32, f33, f34, f35, f36, x37, x38, x39 =>
    jn (fun (x40 : Int32) =>
    if x40 < x31 then
      nm (x18 + 1) fun x41 =>
      B45 x28 x29 x30 x41 f32 f33 f34 f35 f36 x37 x38 x39
    else
      jn (bi_8 (pf_X8_isFault a1 x18 x31 f32 t_base f33 f34 f35 f36 x37 x38 x39 t_turned) fun r42 f43 f44 f45 f46 f47 x48 x49 x50 =>
      if r42 = 0 then
        nm (x31 + 1) fun x55 =>
        lp_X8_faults_63 a1 t_base t_turned x18 B45 n x28 x29 x30 x55 f43 f44 f45 f46 f47 x48 x49 x50
      else
        nm (x28 + 1) fun x51 =>
        jn (fun (x52 : Int32) =>
        if x51 = 1 then
          nm (x31 + 1) fun x54 =>
          lp_X8_faults_63 a1 t_base t_turned x18 B45 n x51 x52 x31 x54 f43 f44 f45 f46 f47 x48 x49 x50
        else
          nm (x31 + 1) fun x53 =>
          lp_X8_faults_63 a1 t_base t_turned x18 B45 n x51 x52 x30 x53 f43 f44 f45 f46 f47 x48 x49 x50) fun J119 =>
        if x51 = 1 then
          J119 x18
        else
          J119 x29) fun J88 =>
      if a1 = 1 then
        if x31 = 0 then
          nm (x31 + 1) fun x56 =>
          lp_X8_faults_63 a1 t_base t_turned x18 B45 n x28 x29 x30 x56 f32 f33 f34 f35 f36 x37 x38 x39
        else
          J88
      else
        J88) fun J75 =>
    if a1 = 0 then
      J75 1
    else
      J75 20
noncomputable def lp_X8_faults_45 (a1 : Int32) (t_base : Int32) (t_turned : Int32) (r1 : Int32) (J148 : Int32 → Int32 → Int32 → (Nat → Int32) → (Nat → Int32) → (Nat → Int32) → (Nat → Int32) → (Nat → Int32) → Int32 → Int32 → Int32 → Option (Int32 × (Nat → Int32) × (Nat → Int32) × (Nat → Int32) × (Nat → Int32) × (Nat → Int32) × Int32 × Int32 × Int32)) : Nat → Int32 → Int32 → Int32 → Int32 → (Nat → Int32) → (Nat → Int32) → (Nat → Int32) → (Nat → Int32) → (Nat → Int32) → Int32 → Int32 → Int32 → Option (Int32 × (Nat → Int32) × (Nat → Int32) × (Nat → Int32) × (Nat → Int32) × (Nat → Int32) × Int32 × Int32 × Int32)
  | 0, _, _, _, _, _, _, _, _, _, _, _, _ => none
  | n + 1, x15, x16, x17, x18, f19, f20, f21, f22, f23, x24, x25, x26 =>
    if r1 ≤ x18 then
      J148 x15 x16 x17 f19 f20 f21 f22 f23 x24 x25 x26
    else
      jn (fun (x27 : Int32) =>
      jn (fun (x15' : Int32) (x16' : Int32) (x17' : Int32) (x18' : Int32) (f19' : Nat → Int32) (f20' : Nat → Int32) (f21' : Nat → Int32) (f22' : Nat → Int32) (f23' : Nat → Int32) (x24' : Int32) (x25' : Int32) (x26' : Int32) => lp_X8_faults_45 a1 t_base t_turned r1 J148 n x15' x16' x17' x18' f19' f20' f21' f22' f23' x24' x25' x26') fun B45 =>
      lp_X8_faults_63 a1 t_base t_turned x18 B45 FU x15 x16 x17 x27 f19 f20 f21 f22 f23 x24 x25 x26) fun J61 =>
      if a1 = 0 then
        J61 0
      else
        J61 (-20)
noncomputable def pf_X8_faults (a1 : Int32) (a2 : Int32) (t_all : Nat → Int32) (t_base : Int32) (t_decided : Nat → Int32) (t_wasLate : Nat → Int32) (t_askedOf : Nat → Int32) (t_heldBehind : Nat → Int32) (t_sum : Int32) (t_heldAll : Int32) (t_onPaper : Int32) (t_turned : Int32) : Option (Int32 × (Nat → Int32) × (Nat → Int32) × (Nat → Int32) × (Nat → Int32) × (Nat → Int32) × Int32 × Int32 × Int32) :=
bi_0 (pf_X8_get 0 t_all t_base) fun r1 =>
if r1 = 0 then
  some ((-100), t_all, t_decided, t_wasLate, t_askedOf, t_heldBehind, t_sum, t_heldAll, t_onPaper)
else
  bi_0 (pf_X8_isIn a1 0 1) fun r2 =>
  if r2 = 0 then
    some ((-100), t_all, t_decided, t_wasLate, t_askedOf, t_heldBehind, t_sum, t_heldAll, t_onPaper)
  else
    bi_0 (pf_X8_isIn a2 0 2) fun r3 =>
    if r3 = 0 then
      some ((-100), t_all, t_decided, t_wasLate, t_askedOf, t_heldBehind, t_sum, t_heldAll, t_onPaper)
    else
      jn (fun (x4 : Int32) (x5 : Int32) (x6 : Int32) (f7 : Nat → Int32) (f8 : Nat → Int32) (f9 : Nat → Int32) (f10 : Nat → Int32) (f11 : Nat → Int32) (x12 : Int32) (x13 : Int32) (x14 : Int32) =>
      if a2 = 0 then
        some (x4, f7, f8, f9, f10, f11, x12, x13, x14)
      else
        if a2 = 1 then
          some (x5, f7, f8, f9, f10, f11, x12, x13, x14)
        else
          some (x6, f7, f8, f9, f10, f11, x12, x13, x14)) fun J148 =>
      lp_X8_faults_45 a1 t_base t_turned r1 J148 FU 0 (-100) (-100) 0 t_all t_decided t_wasLate t_askedOf t_heldBehind t_sum t_heldAll t_onPaper

noncomputable def pf_X8_readValue (a1 : Int32) (t_tape : Nat → Int32) (t_taped : Int32) (t_at : Int32) (t_faultPlace : Int32) (t_number : Int32) : Option (Int32 × Int32 × Int32 × Int32) :=
jn (fun (x1 : Int32) =>
jn (fun (x2 : Int32) =>
bi_3 (pf_X8_readDigits t_tape t_taped x2 t_faultPlace t_number) fun r3 x4 x5 x6 =>
if r3 = 0 then
  some (0, x4, x5, x6)
else
  jn (fun (x7 : Int32) =>
  some (1, x4, x5, x7)) fun J59 =>
  if x1 = 0 then
    J59 x6
  else
    J59 (-x6)) fun J33 =>
if x1 = 0 then
  J33 t_at
else
  nm (t_at + 1) fun x8 =>
  J33 x8) fun J18 =>
jn (J18 0) fun J17 =>
if a1 = 0 then
  J17
else
  bi_0 (pf_X8_here t_tape t_taped t_at) fun r9 =>
  if r9 = 45 then
    J18 1
  else
    J17

noncomputable def pf_X8_isAct (a0 : Int32) : Option (Int32 × Unit) :=
if a0 = 99 then
  some (1, ())
else
  if a0 = 108 then
    some (1, ())
  else
    if a0 = 112 then
      some (1, ())
    else
      if a0 = 104 then
        some (1, ())
      else
        if a0 = 115 then
          some (1, ())
        else
          if a0 = 111 then
            some (1, ())
          else
            if a0 = 102 then
              some (1, ())
            else
              if a0 = 120 then
                some (1, ())
              else
                if a0 = 61 then
                  some (1, ())
                else
                  some (0, ())

noncomputable def pf_X8_readAct (t_tape : Nat → Int32) (t_taped : Int32) (t_at : Int32) (t_faultPlace : Int32) (t_number : Int32) (t_act : Nat → Int32) (t_actA : Nat → Int32) (t_actB : Nat → Int32) (t_acts : Int32) : Option (Int32 × Int32 × Int32 × Int32 × (Nat → Int32) × (Nat → Int32) × (Nat → Int32) × Int32) :=
bi_0 (pf_X8_here t_tape t_taped t_at) fun r1 =>
bi_0 (pf_X8_isAct r1) fun r2 =>
if r2 = 0 then
  bi_1 (pf_X8_fails t_at) fun r3 x4 =>
  ckZ r3 <|
  some (r3, t_at, x4, t_number, t_act, t_actA, t_actB, t_acts)
else
  if t_acts = 40 then
    bi_1 (pf_X8_fails t_at) fun r33 x34 =>
    ckZ r33 <|
    some (r33, t_at, x34, t_number, t_act, t_actA, t_actB, t_acts)
  else
    nm (t_at + 1) fun x5 =>
    ckI t_acts 40 <|
    ckI t_acts 40 <|
    ckI t_acts 40 <|
    jn (fun (x6 : Int32) (x7 : Int32) (x8 : Int32) (f9 : Nat → Int32) =>
    jn (fun (x10 : Int32) (x11 : Int32) (x12 : Int32) (f13 : Nat → Int32) =>
    bi_0 (pf_X8_here t_tape t_taped x10) fun r14 =>
    if r14 = 59 then
      nm (x10 + 1) fun x15 =>
      nm (t_acts + 1) fun x16 =>
      some (1, x15, x11, x12, (upd t_act t_acts.toNatClampNeg r1), f9, f13, x16)
    else
      bi_1 (pf_X8_fails x10) fun r17 x18 =>
      ckZ r17 <|
      some (r17, x10, x18, x12, (upd t_act t_acts.toNatClampNeg r1), f9, f13, t_acts)) fun J200 =>
    jn (bi_0 (pf_X8_here t_tape t_taped x6) fun r19 =>
    if r19 = 44 then
      nm (x6 + 1) fun x20 =>
      jn (fun (x21 : Int32) =>
      bi_3 (pf_X8_readValue x21 t_tape t_taped x20 x7 x8) fun r22 x23 x24 x25 =>
      if r22 = 0 then
        some (0, x23, x24, x25, (upd t_act t_acts.toNatClampNeg r1), f9, (upd t_actB t_acts.toNatClampNeg 0), t_acts)
      else
        ckI t_acts 40 <|
        J200 x23 x24 x25 (upd (upd t_actB t_acts.toNatClampNeg 0) t_acts.toNatClampNeg x25)) fun J179 =>
      if r1 = 108 then
        J179 0
      else
        J179 1
    else
      bi_1 (pf_X8_fails x6) fun r26 x27 =>
      ckZ r26 <|
      some (r26, x6, x27, x8, (upd t_act t_acts.toNatClampNeg r1), f9, (upd t_actB t_acts.toNatClampNeg 0), t_acts)) fun J139 =>
    if r1 = 108 then
      J139
    else
      if r1 = 115 then
        J139
      else
        if r1 = 111 then
          J139
        else
          J200 x6 x7 x8 (upd t_actB t_acts.toNatClampNeg 0)) fun J121 =>
    if r1 = 102 then
      J121 x5 t_faultPlace t_number (upd t_actA t_acts.toNatClampNeg 0)
    else
      jn (fun (x28 : Int32) =>
      bi_3 (pf_X8_readValue x28 t_tape t_taped x5 t_faultPlace t_number) fun r29 x30 x31 x32 =>
      if r29 = 0 then
        some (0, x30, x31, x32, (upd t_act t_acts.toNatClampNeg r1), (upd t_actA t_acts.toNatClampNeg 0), (upd t_actB t_acts.toNatClampNeg 0), t_acts)
      else
        ckI t_acts 40 <|
        J121 x30 x31 x32 (upd (upd t_actA t_acts.toNatClampNeg 0) t_acts.toNatClampNeg x32)) fun J100 =>
      jn (J100 1) fun J95 =>
      if r1 = 99 then
        J95
      else
        if r1 = 120 then
          J95
        else
          if r1 = 61 then
            J95
          else
            J100 0

noncomputable def lp_X8_readBench_15 (t_taped : Int32) (t_tape : Nat → Int32) : Nat → Int32 → Int32 → Int32 → (Nat → Int32) → (Nat → Int32) → (Nat → Int32) → Int32 → Option (Int32 × Int32 × Int32 × Int32 × (Nat → Int32) × (Nat → Int32) × (Nat → Int32) × Int32)
  | 0, _, _, _, _, _, _, _ => none
  | n + 1, x1, x2, x3, f4, f5, f6, x7 =>
    if t_taped ≤ x1 then
      some (1, x1, x2, x3, f4, f5, f6, x7)
    else
      bi_7 (pf_X8_readAct t_tape t_taped x1 x2 x3 f4 f5 f6 x7) fun r8 x9 x10 x11 f12 f13 f14 x15 =>
      if r8 = 0 then
        some (0, x9, x10, x11, f12, f13, f14, x15)
      else
        lp_X8_readBench_15 t_taped t_tape n x9 x10 x11 f12 f13 f14 x15
noncomputable def pf_X8_readBench (t_tape : Nat → Int32) (t_taped : Int32) (t_number : Int32) (t_act : Nat → Int32) (t_actA : Nat → Int32) (t_actB : Nat → Int32) : Option (Int32 × Int32 × Int32 × Int32 × (Nat → Int32) × (Nat → Int32) × (Nat → Int32) × Int32) :=
lp_X8_readBench_15 t_taped t_tape FU 0 (-1) t_number t_act t_actA t_actB 0

noncomputable def pf_X8_refusedBy (a0 : Int32) (a1 : Int32) : Option (Int32 × Unit) :=
if a0 = a1 then
  some ((-1000000), ())
else
  some (a0, ())

noncomputable def pf_X8_doAct (a1 : Int32) (t_all : Nat → Int32) (t_base : Int32) (t_pile : Nat → Int32) (t_nextOff : Nat → Int32) (t_decided : Nat → Int32) (t_wasLate : Nat → Int32) (t_askedOf : Nat → Int32) (t_heldBehind : Nat → Int32) (t_sum : Int32) (t_heldAll : Int32) (t_onPaper : Int32) (t_turned : Int32) (t_wasConverted : Int32) (t_lastBits : Int32) (t_lastSum : Int32) (t_lastHeld : Int32) (t_lastLeft : Int32) (t_lastCode : Int32) (t_last : Nat → Int32) (t_act : Nat → Int32) (t_actA : Nat → Int32) (t_actB : Nat → Int32) (t_toldBy : Nat → Int32) : Option (Int32 × (Nat → Int32) × (Nat → Int32) × (Nat → Int32) × (Nat → Int32) × (Nat → Int32) × (Nat → Int32) × (Nat → Int32) × Int32 × Int32 × Int32 × Int32 × Int32 × Int32 × Int32 × Int32 × (Nat → Int32)) :=
ckI a1 40 <|
nm (t_actA a1.toNatClampNeg) fun x1 =>
ckI a1 40 <|
nm (t_actB a1.toNatClampNeg) fun x2 =>
ckI a1 40 <|
nm (t_act a1.toNatClampNeg) fun x3 =>
if x3 = 99 then
  bi_14 (pf_X8_convert x1 t_all t_base t_decided t_wasLate t_askedOf t_heldBehind t_sum t_heldAll t_onPaper t_turned t_wasConverted t_lastBits t_lastSum t_lastHeld t_lastLeft t_lastCode t_last) fun r4 f5 f6 f7 f8 f9 x10 x11 x12 x13 x14 x15 x16 x17 f18 =>
  some (r4, f5, t_pile, t_nextOff, f6, f7, f8, f9, x10, x11, x12, x13, x14, x15, x16, x17, f18)
else
if x3 = 100 then
  if a1 ≤ 0 then
    some ((-1000000), t_all, t_pile, t_nextOff, t_decided, t_wasLate, t_askedOf, t_heldBehind, t_sum, t_heldAll, t_wasConverted, t_lastBits, t_lastSum, t_lastHeld, t_lastLeft, t_lastCode, t_last)
  else
    ckI (a1 - 1) 40 <|
    if (t_toldBy (a1 - 1).toNatClampNeg) = x1 then
      some (x1, t_all, t_pile, t_nextOff, t_decided, t_wasLate, t_askedOf, t_heldBehind, t_sum, t_heldAll, t_wasConverted, t_lastBits, t_lastSum, t_lastHeld, t_lastLeft, t_lastCode, t_last)
    else
      some ((-1000000), t_all, t_pile, t_nextOff, t_decided, t_wasLate, t_askedOf, t_heldBehind, t_sum, t_heldAll, t_wasConverted, t_lastBits, t_lastSum, t_lastHeld, t_lastLeft, t_lastCode, t_last)
else
if x3 = 101 then
  if a1 ≤ 0 then
    some ((-1000000), t_all, t_pile, t_nextOff, t_decided, t_wasLate, t_askedOf, t_heldBehind, t_sum, t_heldAll, t_wasConverted, t_lastBits, t_lastSum, t_lastHeld, t_lastLeft, t_lastCode, t_last)
  else
    ckI (a1 - 1) 40 <|
    if (t_toldBy (a1 - 1).toNatClampNeg) = x1 then
      some (x1, t_all, t_pile, t_nextOff, t_decided, t_wasLate, t_askedOf, t_heldBehind, t_sum, t_heldAll, t_wasConverted, t_lastBits, t_lastSum, t_lastHeld, t_lastLeft, t_lastCode, t_last)
    else
      some ((-1000000), t_all, t_pile, t_nextOff, t_decided, t_wasLate, t_askedOf, t_heldBehind, t_sum, t_heldAll, t_wasConverted, t_lastBits, t_lastSum, t_lastHeld, t_lastLeft, t_lastCode, t_last)
else
if x3 = 102 then
  bi_1 (pf_X8_forget t_all t_base) fun r19 f20 =>
  some (r19, f20, t_pile, t_nextOff, t_decided, t_wasLate, t_askedOf, t_heldBehind, t_sum, t_heldAll, t_wasConverted, t_lastBits, t_lastSum, t_lastHeld, t_lastLeft, t_lastCode, t_last)
else
if x3 = 103 then
  if a1 ≤ 0 then
    some ((-1000000), t_all, t_pile, t_nextOff, t_decided, t_wasLate, t_askedOf, t_heldBehind, t_sum, t_heldAll, t_wasConverted, t_lastBits, t_lastSum, t_lastHeld, t_lastLeft, t_lastCode, t_last)
  else
    ckI (a1 - 1) 40 <|
    if (t_toldBy (a1 - 1).toNatClampNeg) = x1 then
      some (x1, t_all, t_pile, t_nextOff, t_decided, t_wasLate, t_askedOf, t_heldBehind, t_sum, t_heldAll, t_wasConverted, t_lastBits, t_lastSum, t_lastHeld, t_lastLeft, t_lastCode, t_last)
    else
      some ((-1000000), t_all, t_pile, t_nextOff, t_decided, t_wasLate, t_askedOf, t_heldBehind, t_sum, t_heldAll, t_wasConverted, t_lastBits, t_lastSum, t_lastHeld, t_lastLeft, t_lastCode, t_last)
else
if x3 = 104 then
  bi_1 (pf_X8_heat x1 t_all t_base) fun r21 f22 =>
  if r21 = 0 then
    some ((-1000000), f22, t_pile, t_nextOff, t_decided, t_wasLate, t_askedOf, t_heldBehind, t_sum, t_heldAll, t_wasConverted, t_lastBits, t_lastSum, t_lastHeld, t_lastLeft, t_lastCode, t_last)
  else
    some (1, f22, t_pile, t_nextOff, t_decided, t_wasLate, t_askedOf, t_heldBehind, t_sum, t_heldAll, t_wasConverted, t_lastBits, t_lastSum, t_lastHeld, t_lastLeft, t_lastCode, t_last)
else
if x3 = 105 then
  if a1 ≤ 0 then
    some ((-1000000), t_all, t_pile, t_nextOff, t_decided, t_wasLate, t_askedOf, t_heldBehind, t_sum, t_heldAll, t_wasConverted, t_lastBits, t_lastSum, t_lastHeld, t_lastLeft, t_lastCode, t_last)
  else
    ckI (a1 - 1) 40 <|
    if (t_toldBy (a1 - 1).toNatClampNeg) = x1 then
      some (x1, t_all, t_pile, t_nextOff, t_decided, t_wasLate, t_askedOf, t_heldBehind, t_sum, t_heldAll, t_wasConverted, t_lastBits, t_lastSum, t_lastHeld, t_lastLeft, t_lastCode, t_last)
    else
      some ((-1000000), t_all, t_pile, t_nextOff, t_decided, t_wasLate, t_askedOf, t_heldBehind, t_sum, t_heldAll, t_wasConverted, t_lastBits, t_lastSum, t_lastHeld, t_lastLeft, t_lastCode, t_last)
else
if x3 = 106 then
  if a1 ≤ 0 then
    some ((-1000000), t_all, t_pile, t_nextOff, t_decided, t_wasLate, t_askedOf, t_heldBehind, t_sum, t_heldAll, t_wasConverted, t_lastBits, t_lastSum, t_lastHeld, t_lastLeft, t_lastCode, t_last)
  else
    ckI (a1 - 1) 40 <|
    if (t_toldBy (a1 - 1).toNatClampNeg) = x1 then
      some (x1, t_all, t_pile, t_nextOff, t_decided, t_wasLate, t_askedOf, t_heldBehind, t_sum, t_heldAll, t_wasConverted, t_lastBits, t_lastSum, t_lastHeld, t_lastLeft, t_lastCode, t_last)
    else
      some ((-1000000), t_all, t_pile, t_nextOff, t_decided, t_wasLate, t_askedOf, t_heldBehind, t_sum, t_heldAll, t_wasConverted, t_lastBits, t_lastSum, t_lastHeld, t_lastLeft, t_lastCode, t_last)
else
if x3 = 107 then
  if a1 ≤ 0 then
    some ((-1000000), t_all, t_pile, t_nextOff, t_decided, t_wasLate, t_askedOf, t_heldBehind, t_sum, t_heldAll, t_wasConverted, t_lastBits, t_lastSum, t_lastHeld, t_lastLeft, t_lastCode, t_last)
  else
    ckI (a1 - 1) 40 <|
    if (t_toldBy (a1 - 1).toNatClampNeg) = x1 then
      some (x1, t_all, t_pile, t_nextOff, t_decided, t_wasLate, t_askedOf, t_heldBehind, t_sum, t_heldAll, t_wasConverted, t_lastBits, t_lastSum, t_lastHeld, t_lastLeft, t_lastCode, t_last)
    else
      some ((-1000000), t_all, t_pile, t_nextOff, t_decided, t_wasLate, t_askedOf, t_heldBehind, t_sum, t_heldAll, t_wasConverted, t_lastBits, t_lastSum, t_lastHeld, t_lastLeft, t_lastCode, t_last)
else
if x3 = 108 then
  bi_7 (pf_X8_learn x1 x2 t_all t_base t_decided t_wasLate t_askedOf t_heldBehind t_sum t_heldAll t_onPaper t_turned) fun r23 f24 f25 f26 f27 f28 x29 x30 =>
  bi_0 (pf_X8_refusedBy r23 (-1)) fun r31 =>
  some (r31, f24, t_pile, t_nextOff, f25, f26, f27, f28, x29, x30, t_wasConverted, t_lastBits, t_lastSum, t_lastHeld, t_lastLeft, t_lastCode, t_last)
else
if x3 = 109 then
  if a1 ≤ 0 then
    some ((-1000000), t_all, t_pile, t_nextOff, t_decided, t_wasLate, t_askedOf, t_heldBehind, t_sum, t_heldAll, t_wasConverted, t_lastBits, t_lastSum, t_lastHeld, t_lastLeft, t_lastCode, t_last)
  else
    ckI (a1 - 1) 40 <|
    if (t_toldBy (a1 - 1).toNatClampNeg) = x1 then
      some (x1, t_all, t_pile, t_nextOff, t_decided, t_wasLate, t_askedOf, t_heldBehind, t_sum, t_heldAll, t_wasConverted, t_lastBits, t_lastSum, t_lastHeld, t_lastLeft, t_lastCode, t_last)
    else
      some ((-1000000), t_all, t_pile, t_nextOff, t_decided, t_wasLate, t_askedOf, t_heldBehind, t_sum, t_heldAll, t_wasConverted, t_lastBits, t_lastSum, t_lastHeld, t_lastLeft, t_lastCode, t_last)
else
if x3 = 110 then
  if a1 ≤ 0 then
    some ((-1000000), t_all, t_pile, t_nextOff, t_decided, t_wasLate, t_askedOf, t_heldBehind, t_sum, t_heldAll, t_wasConverted, t_lastBits, t_lastSum, t_lastHeld, t_lastLeft, t_lastCode, t_last)
  else
    ckI (a1 - 1) 40 <|
    if (t_toldBy (a1 - 1).toNatClampNeg) = x1 then
      some (x1, t_all, t_pile, t_nextOff, t_decided, t_wasLate, t_askedOf, t_heldBehind, t_sum, t_heldAll, t_wasConverted, t_lastBits, t_lastSum, t_lastHeld, t_lastLeft, t_lastCode, t_last)
    else
      some ((-1000000), t_all, t_pile, t_nextOff, t_decided, t_wasLate, t_askedOf, t_heldBehind, t_sum, t_heldAll, t_wasConverted, t_lastBits, t_lastSum, t_lastHeld, t_lastLeft, t_lastCode, t_last)
else
if x3 = 111 then
  bi_1 (pf_X8_off x1 x2 t_all t_base) fun r32 f33 =>
  if r32 = 0 then
    some ((-1000000), f33, t_pile, t_nextOff, t_decided, t_wasLate, t_askedOf, t_heldBehind, t_sum, t_heldAll, t_wasConverted, t_lastBits, t_lastSum, t_lastHeld, t_lastLeft, t_lastCode, t_last)
  else
    some (1, f33, t_pile, t_nextOff, t_decided, t_wasLate, t_askedOf, t_heldBehind, t_sum, t_heldAll, t_wasConverted, t_lastBits, t_lastSum, t_lastHeld, t_lastLeft, t_lastCode, t_last)
else
if x3 = 112 then
  bi_3 (pf_X8_pass x1 t_all t_base t_pile t_nextOff) fun r34 f35 f36 f37 =>
  bi_0 (pf_X8_refusedBy r34 (-1)) fun r38 =>
  some (r38, f35, f36, f37, t_decided, t_wasLate, t_askedOf, t_heldBehind, t_sum, t_heldAll, t_wasConverted, t_lastBits, t_lastSum, t_lastHeld, t_lastLeft, t_lastCode, t_last)
else
if x3 = 113 then
  if a1 ≤ 0 then
    some ((-1000000), t_all, t_pile, t_nextOff, t_decided, t_wasLate, t_askedOf, t_heldBehind, t_sum, t_heldAll, t_wasConverted, t_lastBits, t_lastSum, t_lastHeld, t_lastLeft, t_lastCode, t_last)
  else
    ckI (a1 - 1) 40 <|
    if (t_toldBy (a1 - 1).toNatClampNeg) = x1 then
      some (x1, t_all, t_pile, t_nextOff, t_decided, t_wasLate, t_askedOf, t_heldBehind, t_sum, t_heldAll, t_wasConverted, t_lastBits, t_lastSum, t_lastHeld, t_lastLeft, t_lastCode, t_last)
    else
      some ((-1000000), t_all, t_pile, t_nextOff, t_decided, t_wasLate, t_askedOf, t_heldBehind, t_sum, t_heldAll, t_wasConverted, t_lastBits, t_lastSum, t_lastHeld, t_lastLeft, t_lastCode, t_last)
else
if x3 = 114 then
  if a1 ≤ 0 then
    some ((-1000000), t_all, t_pile, t_nextOff, t_decided, t_wasLate, t_askedOf, t_heldBehind, t_sum, t_heldAll, t_wasConverted, t_lastBits, t_lastSum, t_lastHeld, t_lastLeft, t_lastCode, t_last)
  else
    ckI (a1 - 1) 40 <|
    if (t_toldBy (a1 - 1).toNatClampNeg) = x1 then
      some (x1, t_all, t_pile, t_nextOff, t_decided, t_wasLate, t_askedOf, t_heldBehind, t_sum, t_heldAll, t_wasConverted, t_lastBits, t_lastSum, t_lastHeld, t_lastLeft, t_lastCode, t_last)
    else
      some ((-1000000), t_all, t_pile, t_nextOff, t_decided, t_wasLate, t_askedOf, t_heldBehind, t_sum, t_heldAll, t_wasConverted, t_lastBits, t_lastSum, t_lastHeld, t_lastLeft, t_lastCode, t_last)
else
if x3 = 115 then
  bi_1 (pf_X8_stick x1 x2 t_all t_base) fun r39 f40 =>
  if r39 = 0 then
    some ((-1000000), f40, t_pile, t_nextOff, t_decided, t_wasLate, t_askedOf, t_heldBehind, t_sum, t_heldAll, t_wasConverted, t_lastBits, t_lastSum, t_lastHeld, t_lastLeft, t_lastCode, t_last)
  else
    some (1, f40, t_pile, t_nextOff, t_decided, t_wasLate, t_askedOf, t_heldBehind, t_sum, t_heldAll, t_wasConverted, t_lastBits, t_lastSum, t_lastHeld, t_lastLeft, t_lastCode, t_last)
else
if x3 = 116 then
  if a1 ≤ 0 then
    some ((-1000000), t_all, t_pile, t_nextOff, t_decided, t_wasLate, t_askedOf, t_heldBehind, t_sum, t_heldAll, t_wasConverted, t_lastBits, t_lastSum, t_lastHeld, t_lastLeft, t_lastCode, t_last)
  else
    ckI (a1 - 1) 40 <|
    if (t_toldBy (a1 - 1).toNatClampNeg) = x1 then
      some (x1, t_all, t_pile, t_nextOff, t_decided, t_wasLate, t_askedOf, t_heldBehind, t_sum, t_heldAll, t_wasConverted, t_lastBits, t_lastSum, t_lastHeld, t_lastLeft, t_lastCode, t_last)
    else
      some ((-1000000), t_all, t_pile, t_nextOff, t_decided, t_wasLate, t_askedOf, t_heldBehind, t_sum, t_heldAll, t_wasConverted, t_lastBits, t_lastSum, t_lastHeld, t_lastLeft, t_lastCode, t_last)
else
if x3 = 117 then
  if a1 ≤ 0 then
    some ((-1000000), t_all, t_pile, t_nextOff, t_decided, t_wasLate, t_askedOf, t_heldBehind, t_sum, t_heldAll, t_wasConverted, t_lastBits, t_lastSum, t_lastHeld, t_lastLeft, t_lastCode, t_last)
  else
    ckI (a1 - 1) 40 <|
    if (t_toldBy (a1 - 1).toNatClampNeg) = x1 then
      some (x1, t_all, t_pile, t_nextOff, t_decided, t_wasLate, t_askedOf, t_heldBehind, t_sum, t_heldAll, t_wasConverted, t_lastBits, t_lastSum, t_lastHeld, t_lastLeft, t_lastCode, t_last)
    else
      some ((-1000000), t_all, t_pile, t_nextOff, t_decided, t_wasLate, t_askedOf, t_heldBehind, t_sum, t_heldAll, t_wasConverted, t_lastBits, t_lastSum, t_lastHeld, t_lastLeft, t_lastCode, t_last)
else
if x3 = 118 then
  if a1 ≤ 0 then
    some ((-1000000), t_all, t_pile, t_nextOff, t_decided, t_wasLate, t_askedOf, t_heldBehind, t_sum, t_heldAll, t_wasConverted, t_lastBits, t_lastSum, t_lastHeld, t_lastLeft, t_lastCode, t_last)
  else
    ckI (a1 - 1) 40 <|
    if (t_toldBy (a1 - 1).toNatClampNeg) = x1 then
      some (x1, t_all, t_pile, t_nextOff, t_decided, t_wasLate, t_askedOf, t_heldBehind, t_sum, t_heldAll, t_wasConverted, t_lastBits, t_lastSum, t_lastHeld, t_lastLeft, t_lastCode, t_last)
    else
      some ((-1000000), t_all, t_pile, t_nextOff, t_decided, t_wasLate, t_askedOf, t_heldBehind, t_sum, t_heldAll, t_wasConverted, t_lastBits, t_lastSum, t_lastHeld, t_lastLeft, t_lastCode, t_last)
else
if x3 = 119 then
  if a1 ≤ 0 then
    some ((-1000000), t_all, t_pile, t_nextOff, t_decided, t_wasLate, t_askedOf, t_heldBehind, t_sum, t_heldAll, t_wasConverted, t_lastBits, t_lastSum, t_lastHeld, t_lastLeft, t_lastCode, t_last)
  else
    ckI (a1 - 1) 40 <|
    if (t_toldBy (a1 - 1).toNatClampNeg) = x1 then
      some (x1, t_all, t_pile, t_nextOff, t_decided, t_wasLate, t_askedOf, t_heldBehind, t_sum, t_heldAll, t_wasConverted, t_lastBits, t_lastSum, t_lastHeld, t_lastLeft, t_lastCode, t_last)
    else
      some ((-1000000), t_all, t_pile, t_nextOff, t_decided, t_wasLate, t_askedOf, t_heldBehind, t_sum, t_heldAll, t_wasConverted, t_lastBits, t_lastSum, t_lastHeld, t_lastLeft, t_lastCode, t_last)
else
if x3 = 120 then
  bv_1 (pf_X8_put 6 x1 t_all t_base) fun f41 =>
  some (1, f41, t_pile, t_nextOff, t_decided, t_wasLate, t_askedOf, t_heldBehind, t_sum, t_heldAll, t_wasConverted, t_lastBits, t_lastSum, t_lastHeld, t_lastLeft, t_lastCode, t_last)
else
if a1 ≤ 0 then
  some ((-1000000), t_all, t_pile, t_nextOff, t_decided, t_wasLate, t_askedOf, t_heldBehind, t_sum, t_heldAll, t_wasConverted, t_lastBits, t_lastSum, t_lastHeld, t_lastLeft, t_lastCode, t_last)
else
  ckI (a1 - 1) 40 <|
  if (t_toldBy (a1 - 1).toNatClampNeg) = x1 then
    some (x1, t_all, t_pile, t_nextOff, t_decided, t_wasLate, t_askedOf, t_heldBehind, t_sum, t_heldAll, t_wasConverted, t_lastBits, t_lastSum, t_lastHeld, t_lastLeft, t_lastCode, t_last)
  else
    some ((-1000000), t_all, t_pile, t_nextOff, t_decided, t_wasLate, t_askedOf, t_heldBehind, t_sum, t_heldAll, t_wasConverted, t_lastBits, t_lastSum, t_lastHeld, t_lastLeft, t_lastCode, t_last)

noncomputable def lp_X8_bench_26 (t_base : Int32) (t_onPaper : Int32) (t_turned : Int32) (x2 : Int32) (x3 : Int32) (x4 : Int32) (f5 : Nat → Int32) (f6 : Nat → Int32) (f7 : Nat → Int32) (x8 : Int32) : Nat → (Nat → Int32) → (Nat → Int32) → (Nat → Int32) → (Nat → Int32) → (Nat → Int32) → (Nat → Int32) → (Nat → Int32) → Int32 → Int32 → Int32 → Int32 → Int32 → Int32 → Int32 → Int32 → (Nat → Int32) → (Nat → Int32) → Int32 → Int32 → Option (Int32 × (Nat → Int32) × Int32 × Int32 × Int32 × Int32 × (Nat → Int32) × (Nat → Int32) × (Nat → Int32) × (Nat → Int32) × (Nat → Int32) × (Nat → Int32) × Int32 × Int32 × Int32 × Int32 × Int32 × Int32 × Int32 × Int32 × (Nat → Int32) × (Nat → Int32) × (Nat → Int32) × (Nat → Int32) × (Nat → Int32) × Int32 × Int32 × Int32)
  | 0, _, _, _, _, _, _, _, _, _, _, _, _, _, _, _, _, _, _, _ => none
  | n + 1, f9, f10, f11, f12, f13, f14, f15, x16, x17, x18, x19, x20, x21, x22, x23, f24, f25, x26, x27 =>
    if x8 ≤ x26 then
      some (x26, f9, 0, x2, x3, x4, f10, f11, f12, f13, f14, f15, x16, x17, x18, x19, x20, x21, x22, x23, f24, f5, f6, f7, f25, x8, x26, x27)
    else
      if x27 = (-1) then
        bi_16 (pf_X8_doAct x26 f9 t_base f10 f11 f12 f13 f14 f15 x16 x17 t_onPaper t_turned x18 x19 x20 x21 x22 x23 f24 f5 f6 f7 f25) fun r28 f29 f30 f31 f32 f33 f34 f35 x36 x37 x38 x39 x40 x41 x42 x43 f44 =>
        ckI x26 40 <|
        if r28 = (-1000000) then
          lp_X8_bench_26 t_base t_onPaper t_turned x2 x3 x4 f5 f6 f7 x8 n f29 f30 f31 f32 f33 f34 f35 x36 x37 x38 x39 x40 x41 x42 x43 f44 (upd f25 x26.toNatClampNeg r28) x26 x26
        else
          nm (x26 + 1) fun x45 =>
          lp_X8_bench_26 t_base t_onPaper t_turned x2 x3 x4 f5 f6 f7 x8 n f29 f30 f31 f32 f33 f34 f35 x36 x37 x38 x39 x40 x41 x42 x43 f44 (upd f25 x26.toNatClampNeg r28) x45 x27
      else
        some (x26, f9, 0, x2, x3, x4, f10, f11, f12, f13, f14, f15, x16, x17, x18, x19, x20, x21, x22, x23, f24, f5, f6, f7, f25, x8, x26, x27)
noncomputable def pf_X8_bench (t_all : Nat → Int32) (t_base : Int32) (t_tape : Nat → Int32) (t_taped : Int32) (t_number : Int32) (t_pile : Nat → Int32) (t_nextOff : Nat → Int32) (t_decided : Nat → Int32) (t_wasLate : Nat → Int32) (t_askedOf : Nat → Int32) (t_heldBehind : Nat → Int32) (t_sum : Int32) (t_heldAll : Int32) (t_onPaper : Int32) (t_turned : Int32) (t_wasConverted : Int32) (t_lastBits : Int32) (t_lastSum : Int32) (t_lastHeld : Int32) (t_lastLeft : Int32) (t_lastCode : Int32) (t_last : Nat → Int32) (t_act : Nat → Int32) (t_actA : Nat → Int32) (t_actB : Nat → Int32) (t_toldBy : Nat → Int32) (t_done0 : Int32) (t_stoppedAt : Int32) : Option (Int32 × (Nat → Int32) × Int32 × Int32 × Int32 × Int32 × (Nat → Int32) × (Nat → Int32) × (Nat → Int32) × (Nat → Int32) × (Nat → Int32) × (Nat → Int32) × Int32 × Int32 × Int32 × Int32 × Int32 × Int32 × Int32 × Int32 × (Nat → Int32) × (Nat → Int32) × (Nat → Int32) × (Nat → Int32) × (Nat → Int32) × Int32 × Int32 × Int32) :=
bi_7 (pf_X8_readBench t_tape t_taped t_number t_act t_actA t_actB) fun r1 x2 x3 x4 f5 f6 f7 x8 =>
if r1 = 0 then
  some ((-1), t_all, 0, x2, x3, x4, t_pile, t_nextOff, t_decided, t_wasLate, t_askedOf, t_heldBehind, t_sum, t_heldAll, t_wasConverted, t_lastBits, t_lastSum, t_lastHeld, t_lastLeft, t_lastCode, t_last, f5, f6, f7, t_toldBy, x8, t_done0, t_stoppedAt)
else
  lp_X8_bench_26 t_base t_onPaper t_turned x2 x3 x4 f5 f6 f7 x8 FU t_all t_pile t_nextOff t_decided t_wasLate t_askedOf t_heldBehind t_sum t_heldAll t_wasConverted t_lastBits t_lastSum t_lastHeld t_lastLeft t_lastCode t_last t_toldBy 0 (-1)

noncomputable def pf_X8_stopped (t_stoppedAt : Int32) : Option (Int32 × Unit) :=
some (t_stoppedAt, ())

noncomputable def pf_X8_row (a1 : Int32) (t_toldBy : Nat → Int32) (t_done0 : Int32) : Option (Int32 × Unit) :=
bi_0 (pf_X8_isIn a1 0 (t_done0 - 1)) fun r1 =>
if r1 = 0 then
  some ((-1000000), ())
else
  ckI a1 40 <|
  some ((t_toldBy a1.toNatClampNeg), ())

noncomputable def pf_X5_init : Option (Unit) :=
some ()

noncomputable def pf_X0_init : Option (Unit) :=
some ()

noncomputable def pf_X1_init : Option (Unit) :=
some ()

noncomputable def pf_X3_init : Option (Unit) :=
some ()

noncomputable def pf_X2_init : Option (Unit) :=
bv_0 (pf_X3_init) <|
some ()

noncomputable def pf_X4_init : Option (Unit) :=
some ()

noncomputable def pf_X7_init : Option (Unit) :=
bv_0 (pf_X5_init) <|
bv_0 (pf_X2_init) <|
bv_0 (pf_X2_init) <|
bv_0 (pf_X1_init) <|
bv_0 (pf_X1_init) <|
bv_0 (pf_X4_init) <|
bv_0 (pf_X0_init) <|
some ()

noncomputable def pf_X8_init : Option (Nat → Int32) :=
ckI 0 5 <|
ckI 1 5 <|
ckI 2 5 <|
ckI 3 5 <|
ckI 4 5 <|
ckI 0 5 <|
ckI 1 5 <|
ckI 2 5 <|
ckI 3 5 <|
ckI 4 5 <|
bv_1 (pf_X8_put 3 3 (fun _ => (0 : Int32)) 0) fun f31 =>
bv_1 (pf_X8_put 5 1 f31 0) fun f32 =>
bv_1 (pf_X8_put 6 1 f32 0) fun f33 =>
some f33

noncomputable def pf_X7_isKept (a1 : Int32) (t_kept : Nat → Option Nat) : Option (Int32 × Unit) :=
bi_0 (pf_X7_within a1 0 2) fun r1 =>
if r1 = 0 then
  some (0, ())
else
  ckI a1 3 <|
  if (t_kept a1.toNatClampNeg) = none then
    some (0, ())
  else
    some (1, ())

noncomputable def pf_X7_back_x (a1 : Int32) (t_kept : Nat → Option Nat) : Option (Int32 × Unit) :=
bi_0 (pf_X7_isKept a1 t_kept) fun r1 =>
if r1 = 0 then
  some (0, ())
else
  none

noncomputable def pf_X7_back_k (a1 : Int32) (t_kept : Nat → Option Nat) (t_kept_k_bits : Int32) (t_kept_k_size : Nat → Int32) (t_kept_k_off : Nat → Int32) (t_kept_k_worth : Nat → Int32) (t_kept_k_stuck : Nat → Int32) (t_kept_k_offset : Int32) (t_kept_k_band : Int32) (t_kept_k_rule : Int32) (t_kept_k_noise : Int32) (t_kept_k_step : Int32) (t_kept_k_draws : Int32) (t_kept_k_heat : Int32) (t_kept_k_hour : Int32) (t_kept_k_seenX : Nat → Int32) (t_kept_k_seenCode : Nat → Int32) (t_kept_k_seenCount : Int32) (t_now_size : Nat → Int32) (t_now_off : Nat → Int32) (t_now_worth : Nat → Int32) (t_now_stuck : Nat → Int32) (t_now_seenX : Nat → Int32) (t_now_seenCode : Nat → Int32) : Option (Int32 × Int32 × Int32 × (Nat → Int32) × (Nat → Int32) × (Nat → Int32) × (Nat → Int32) × Int32 × Int32 × Int32 × Int32 × Int32 × Int32 × Int32 × Int32 × (Nat → Int32) × (Nat → Int32) × Int32) :=
bi_0 (pf_X7_isKept a1 t_kept) fun r1 =>
if r1 = 0 then
  none
else
  ckI a1 3 <|
  bv_16 (pf_X2_copyFrom t_now_size t_now_off t_now_worth t_now_stuck t_now_seenX t_now_seenCode t_kept_k_bits t_kept_k_size t_kept_k_off t_kept_k_worth t_kept_k_stuck t_kept_k_offset t_kept_k_band t_kept_k_rule t_kept_k_noise t_kept_k_step t_kept_k_draws t_kept_k_heat t_kept_k_hour t_kept_k_seenX t_kept_k_seenCode t_kept_k_seenCount) fun x2 f3 f4 f5 f6 x7 x8 x9 x10 x11 x12 x13 x14 f15 f16 x17 =>
  some (1, 0, x2, f3, f4, f5, f6, x7, x8, x9, x10, x11, x12, x13, x14, f15, f16, x17)

noncomputable def pf_X7_apart_x (a1 : Int32) (a2 : Int32) (a3 : Int32) (a4 : Int32) (t_kept : Nat → Option Nat) (t_now_bits : Int32) : Option (Int32 × Unit) :=
if t_now_bits = 0 then
  some ((-1000000), ())
else
  bi_0 (pf_X7_isSpan a2 a3 1) fun r1 =>
  if r1 = 0 then
    some ((-1000000), ())
  else
    bi_0 (pf_X7_within a4 0 2) fun r2 =>
    if r2 = 0 then
      some ((-1000000), ())
    else
      bi_0 (pf_X7_isKept a1 t_kept) fun r3 =>
      if r3 = 0 then
        some ((-1000000), ())
      else
        none

noncomputable def lp_X7_apart_k_68 (a1 : Int32) (a3 : Int32) (t_now_bits : Int32) (t_now_offset : Int32) (t_now_step : Int32) (t_kept_k_bits : Int32) (t_kept_k_offset : Int32) (t_kept_k_step : Int32) (t_kept_k_off : Nat → Int32) (t_kept_k_size : Nat → Int32) (t_kept_k_stuck : Nat → Int32) (t_kept_k_worth : Nat → Int32) (t_now_off : Nat → Int32) (t_now_size : Nat → Int32) (t_now_stuck : Nat → Int32) (t_now_worth : Nat → Int32) (J137 : Int32 → Int32 → Int32 → Option (Int32 × Unit)) : Nat → Int32 → Int32 → Int32 → Int32 → Option (Int32 × Unit)
  | 0, _, _, _, _ => none
  | n + 1, x7, x8, x9, x10 =>
    if a3 < x10 then
      J137 x7 x8 x9
    else
      bi_0 (pf_X2_paperCode x10 t_now_bits t_now_size t_now_off t_now_worth t_now_stuck t_now_offset t_now_step) fun r11 =>
      ckI a1 3 <|
      bi_0 (pf_X2_paperCode x10 t_kept_k_bits t_kept_k_size t_kept_k_off t_kept_k_worth t_kept_k_stuck t_kept_k_offset t_kept_k_step) fun r12 =>
      nm (if 0 ≤ (r11 - r12) then (r11 - r12) else 0 - (r11 - r12)) fun x13 =>
      jn (fun (x14 : Int32) =>
      jn (fun (x15 : Int32) =>
      nm (if x9 < x13 then x13 else x9) fun x16 =>
      nm (x10 + 1) fun x17 =>
      lp_X7_apart_k_68 a1 a3 t_now_bits t_now_offset t_now_step t_kept_k_bits t_kept_k_offset t_kept_k_step t_kept_k_off t_kept_k_size t_kept_k_stuck t_kept_k_worth t_now_off t_now_size t_now_stuck t_now_worth J137 n x15 x14 x16 x17) fun J122 =>
      if x13 = 0 then
        J122 x7
      else
        nm (x7 + 1) fun x18 =>
        J122 x18) fun J114 =>
      if x13 = 0 then
        J114 x8
      else
        if x7 = 0 then
          J114 x10
        else
          J114 x8
noncomputable def pf_X7_apart_k (a1 : Int32) (a2 : Int32) (a3 : Int32) (a4 : Int32) (t_kept : Nat → Option Nat) (t_kept_k_bits : Int32) (t_kept_k_size : Nat → Int32) (t_kept_k_off : Nat → Int32) (t_kept_k_worth : Nat → Int32) (t_kept_k_stuck : Nat → Int32) (t_kept_k_offset : Int32) (t_kept_k_step : Int32) (t_now_bits : Int32) (t_now_size : Nat → Int32) (t_now_off : Nat → Int32) (t_now_worth : Nat → Int32) (t_now_stuck : Nat → Int32) (t_now_offset : Int32) (t_now_step : Int32) : Option (Int32 × Unit) :=
if t_now_bits = 0 then
  some ((-1000000), ())
else
  bi_0 (pf_X7_isSpan a2 a3 1) fun r1 =>
  if r1 = 0 then
    some ((-1000000), ())
  else
    bi_0 (pf_X7_within a4 0 2) fun r2 =>
    if r2 = 0 then
      some ((-1000000), ())
    else
      bi_0 (pf_X7_isKept a1 t_kept) fun r3 =>
      if r3 = 0 then
        some ((-1000000), ())
      else
        ckI a1 3 <|
        if t_kept_k_bits = 0 then
          some ((-1000000), ())
        else
          jn (fun (x4 : Int32) (x5 : Int32) (x6 : Int32) =>
          if a4 = 0 then
            some (x4, ())
          else
            if a4 = 1 then
              some (x5, ())
            else
              some (x6, ())) fun J137 =>
          lp_X7_apart_k_68 a1 a3 t_now_bits t_now_offset t_now_step t_kept_k_bits t_kept_k_offset t_kept_k_step t_kept_k_off t_kept_k_size t_kept_k_stuck t_kept_k_worth t_now_off t_now_size t_now_stuck t_now_worth J137 FU 0 (-1000000) 0 a2

noncomputable def pf_X7_keep_x (a1 : Int32) : Option (Int32 × Unit) :=
bi_0 (pf_X7_within a1 0 2) fun r1 =>
if r1 = 0 then
  some (0, ())
else
  none

noncomputable def pf_X7_keep_k (a1 : Int32) (t_kept_k_size : Nat → Int32) (t_kept_k_off : Nat → Int32) (t_kept_k_worth : Nat → Int32) (t_kept_k_stuck : Nat → Int32) (t_kept_k_seenX : Nat → Int32) (t_kept_k_seenCode : Nat → Int32) (t_now_bits : Int32) (t_now_size : Nat → Int32) (t_now_off : Nat → Int32) (t_now_worth : Nat → Int32) (t_now_stuck : Nat → Int32) (t_now_offset : Int32) (t_now_band : Int32) (t_now_rule : Int32) (t_now_noise : Int32) (t_now_step : Int32) (t_now_draws : Int32) (t_now_heat : Int32) (t_now_hour : Int32) (t_now_seenX : Nat → Int32) (t_now_seenCode : Nat → Int32) (t_now_seenCount : Int32) : Option (Int32 × Int32 × (Nat → Int32) × (Nat → Int32) × (Nat → Int32) × (Nat → Int32) × Int32 × Int32 × Int32 × Int32 × Int32 × Int32 × Int32 × Int32 × (Nat → Int32) × (Nat → Int32) × Int32) :=
bi_0 (pf_X7_within a1 0 2) fun r1 =>
if r1 = 0 then
  none
else
  ckI a1 3 <|
  ckI a1 3 <|
  bv_16 (pf_X2_copyFrom t_kept_k_size t_kept_k_off t_kept_k_worth t_kept_k_stuck t_kept_k_seenX t_kept_k_seenCode t_now_bits t_now_size t_now_off t_now_worth t_now_stuck t_now_offset t_now_band t_now_rule t_now_noise t_now_step t_now_draws t_now_heat t_now_hour t_now_seenX t_now_seenCode t_now_seenCount) fun x2 f3 f4 f5 f6 x7 x8 x9 x10 x11 x12 x13 x14 f15 f16 x17 =>
  some (1, x2, f3, f4, f5, f6, x7, x8, x9, x10, x11, x12, x13, x14, f15, f16, x17)

noncomputable def pf_X7_keep_n (a1 : Int32) (t_now_bits : Int32) (t_now_size : Nat → Int32) (t_now_off : Nat → Int32) (t_now_worth : Nat → Int32) (t_now_stuck : Nat → Int32) (t_now_offset : Int32) (t_now_band : Int32) (t_now_rule : Int32) (t_now_noise : Int32) (t_now_step : Int32) (t_now_draws : Int32) (t_now_heat : Int32) (t_now_hour : Int32) (t_now_seenX : Nat → Int32) (t_now_seenCode : Nat → Int32) (t_now_seenCount : Int32) : Option (Int32 × Int32 × (Nat → Int32) × (Nat → Int32) × (Nat → Int32) × (Nat → Int32) × Int32 × Int32 × Int32 × Int32 × Int32 × Int32 × Int32 × Int32 × (Nat → Int32) × (Nat → Int32) × Int32) :=
bi_0 (pf_X7_within a1 0 2) fun r1 =>
if r1 = 0 then
  none
else
  ckI a1 3 <|
  bv_0 (pf_X2_init) <|
  ckI a1 3 <|
  ckI a1 3 <|
  bv_16 (pf_X2_copyFrom (fun _ => (0 : Int32)) (fun _ => (0 : Int32)) (fun _ => (0 : Int32)) (fun _ => (0 : Int32)) (fun _ => (0 : Int32)) (fun _ => (0 : Int32)) t_now_bits t_now_size t_now_off t_now_worth t_now_stuck t_now_offset t_now_band t_now_rule t_now_noise t_now_step t_now_draws t_now_heat t_now_hour t_now_seenX t_now_seenCode t_now_seenCount) fun x3 f4 f5 f6 f7 x8 x9 x10 x11 x12 x13 x14 x15 f16 f17 x18 =>
  some (1, x3, f4, f5, f6, f7, x8, x9, x10, x11, x12, x13, x14, x15, f16, f17, x18)

noncomputable def pf_X7_drift_f (t_tape_bytes : Nat → Int32) (t_tape_count : Int32) : Option (Int32 × (Nat → Int32) × (Nat → Int32) × Int32 × Int32 × Int32 × Int32 × Int32 × Int32 × Int32) :=
bv_0 (pf_X3_init) <|
bv_6 (pf_X3_read (fun _ => (0 : Int32)) (fun _ => (0 : Int32)) 0 0 t_tape_bytes t_tape_count) fun f2 f3 x4 x5 x6 x7 =>
bi_2 (pf_X7_leaveTape x7) fun r8 x9 x10 =>
if r8 = 0 then
  some ((-1), f2, f3, x4, 0, x5, x9, x10, x6, x7)
else
  none

noncomputable def pf_X7_drift_t (t_tape_bytes : Nat → Int32) (t_tape_count : Int32) : Option (Int32 × (Nat → Int32) × (Nat → Int32) × Int32 × Int32 × Int32 × Int32 × Int32 × Int32 × Int32) :=
bv_0 (pf_X3_init) <|
bv_6 (pf_X3_read (fun _ => (0 : Int32)) (fun _ => (0 : Int32)) 0 0 t_tape_bytes t_tape_count) fun f2 f3 x4 x5 x6 x7 =>
bi_2 (pf_X7_leaveTape x7) fun r8 x9 x10 =>
if r8 = 0 then
  none
else
  some (x5, f2, f3, x4, 0, x5, x9, x10, x6, x7)
