def fJ7_fill (F : Nat) (k N : Nat) (x : HT) (v : Int32) : Option (Unit × HT) := some ((), sA x k (fun i => if i < N then v else x.1 k i))
def fJ6_bitCount_0f7a4 (F : Nat) (x : HT) (a0 : Int32) : Option (Int32 × HT) :=
  lt_ (a0 - ((a0.toUInt32 >>> ((1 : Int32).toUInt32 &&& Int32.toUInt32 31)).toInt32 &&& (1431655765 : Int32))) fun b1 =>
  lt_ ((b1 &&& (858993459 : Int32)) + ((b1.toUInt32 >>> ((2 : Int32).toUInt32 &&& Int32.toUInt32 31)).toInt32 &&& (858993459 : Int32))) fun b3 =>
  lt_ ((b3 + (b3.toUInt32 >>> ((4 : Int32).toUInt32 &&& Int32.toUInt32 31)).toInt32) &&& (252645135 : Int32)) fun b5 =>
  lt_ (b5 + (b5.toUInt32 >>> ((8 : Int32).toUInt32 &&& Int32.toUInt32 31)).toInt32) fun b7 =>
  lt_ (b7 + (b7.toUInt32 >>> ((16 : Int32).toUInt32 &&& Int32.toUInt32 31)).toInt32) fun b9 =>
  some ((b9 &&& (63 : Int32)), x)
def fJ13_bitCount_95d88 (F : Nat) (x : HT) (a0 : Int64) : Option (Int32 × HT) :=
  lt_ (a0 - ((a0.toUInt64 >>> ((1 : Int32).toInt64.toUInt64 &&& Int64.toUInt64 63)).toInt64 &&& (6148914691236517205 : Int64))) fun b1 =>
  lt_ ((b1 &&& (3689348814741910323 : Int64)) + ((b1.toUInt64 >>> ((2 : Int32).toInt64.toUInt64 &&& Int64.toUInt64 63)).toInt64 &&& (3689348814741910323 : Int64))) fun b3 =>
  lt_ ((b3 + (b3.toUInt64 >>> ((4 : Int32).toInt64.toUInt64 &&& Int64.toUInt64 63)).toInt64) &&& (1085102592571150095 : Int64)) fun b5 =>
  lt_ (b5 + (b5.toUInt64 >>> ((8 : Int32).toInt64.toUInt64 &&& Int64.toUInt64 63)).toInt64) fun b7 =>
  lt_ (b7 + (b7.toUInt64 >>> ((16 : Int32).toInt64.toUInt64 &&& Int64.toUInt64 63)).toInt64) fun b9 =>
  lt_ (b9 + (b9.toUInt64 >>> ((32 : Int32).toInt64.toUInt64 &&& Int64.toUInt64 63)).toInt64) fun b11 =>
  some ((b11.toInt32 &&& (127 : Int32)), x)
def fX2_standStill (F : Nat) (j : Nat) (x : HT) : Option (Unit × HT) :=
  lt_ (sI x (7 * j + 1) 2 (0 : Int32)) fun x1 =>
  bd (fJ7_fill F (7 * j + 6) 10 x1 (0 : Int32)) fun r5 x3 =>
  bd (fJ7_fill F (7 * j + 7) 10 x3 (0 : Int32)) fun r8 x6 =>
  some ((), x6)
def fX2_begin (F : Nat) (j : Nat) (x : HT) (a1 : Int32) (a2 : Int32) : Option (Unit × HT) :=
  lt_ (sI x (7 * j + 1) 0 a1) fun x1 =>
  lt_ (sI x1 (7 * j + 1) 1 a2) fun x3 =>
  lt_ (sI x3 (7 * j + 1) 3 (0 : Int32)) fun x5 =>
  bd (fJ7_fill F (7 * j + 2) 36 x5 (0 : Int32)) fun r9 x7 =>
  bd (fX2_standStill F j x7) fun r11 x10 =>
  some ((), x10)
def fX0_labelAt_24 (F : Nat) (x : HT) (t0 : Int32) (t1 : Int32) : Option (Int32 × HT) :=
  some ((t0 + t1), x)
def fX0_labelAt (F : Nat) (x : HT) (a1 : Int32) (a2 : Int32) : Option (Int32 × HT) :=
  if (a2 &&& (1 : Int32)) = 0 then (
    fX0_labelAt_24 F x (a2 * (x.1 59 0)) a1
  ) else (
    fX0_labelAt_24 F x (a2 * (x.1 59 0)) (((x.1 59 0) - (1 : Int32)) - a1)
  )
def fX0_has_28 (F : Nat) (x : HT) : Option (Int32 × HT) :=
  some ((0 : Int32), x)
def fX0_has (F : Nat) (x : HT) (a1 : Int32) (a2 : Int32) : Option (Int32 × HT) :=
  if a1 < 0 then (
    fX0_has_28 F x
  ) else (
    if (x.1 59 0) ≤ a1 then (
      fX0_has_28 F x
    ) else (
      if a2 < 0 then (
        fX0_has_28 F x
      ) else (
        if (x.1 59 1) ≤ a2 then (
          fX0_has_28 F x
        ) else (
          some ((1 : Int32), x)
        )
      )
    )
  )
def fX0_layPlace_83 (F : Nat) (rec24 : HT → Int32 → Int32 → Int32 → Int32 → Option (Unit × HT)) (x : HT) (a1 : Int32) (a2 : Int32) (a3 : Int32) (a4 : Int32) (t0 : Int32) (t1 : Int32) : Option (Unit × HT) :=
  ck (inb t0 144) <|
  lt_ (sI x 62 t0.toNatClampNeg t1) fun x25 =>
  lt_ (a4 + (1 : Int32)) fun b27 =>
  rec24 x25 a1 a2 a3 b27
def fX0_layPlace_24b (F : Nat) (rec24 : HT → Int32 → Int32 → Int32 → Int32 → Option (Unit × HT)) (x : HT) (a1 : Int32) (a2 : Int32) (a3 : Int32) (a4 : Int32) : Option (Unit × HT) :=
  if (4 : Int32) ≤ a4 then (
    some ((), x)
  ) else (
    ck (inb a4 4) <|
    lt_ (a1 + (xBy a4.toNatClampNeg)) fun b12 =>
    ck (inb a4 4) <|
    lt_ (a2 + (yBy a4.toNatClampNeg)) fun b15 =>
    bd (fX0_has F x b12 b15) fun r18 x17 =>
    if r18 = 0 then (
      fX0_layPlace_83 F rec24 x17 a1 a2 a3 a4 ((a3 * (4 : Int32)) + a4) (-1 : Int32)
    ) else (
      bd (fX0_labelAt F x17 b12 b15) fun r22 x21 =>
      fX0_layPlace_83 F rec24 x21 a1 a2 a3 a4 ((a3 * (4 : Int32)) + a4) r22
    )
  )
def fX0_layPlace_24 (F : Nat) : Nat → HT → Int32 → Int32 → Int32 → Int32 → Option (Unit × HT)
  | 0 => fun _ _ _ _ _ => none
  | n + 1 => fX0_layPlace_24b F (fX0_layPlace_24 F n)
def fX0_layPlace (F : Nat) (x : HT) (a1 : Int32) (a2 : Int32) : Option (Unit × HT) :=
  bd (fX0_labelAt F x a1 a2) fun r2 x1 =>
  ck (inb r2 36) <|
  lt_ (sI x1 60 r2.toNatClampNeg a1) fun x5 =>
  ck (inb r2 36) <|
  lt_ (sI x5 61 r2.toNatClampNeg a2) fun x8 =>
  fX0_layPlace_24 F F x8 a1 a2 r2 (0 : Int32)
def fX0_lay_40b (F : Nat) (rec29 : HT → Int32 → Option (Unit × HT)) (rec40 : HT → Int32 → Int32 → Option (Unit × HT)) (x : HT) (a3 : Int32) (a4 : Int32) : Option (Unit × HT) :=
  if (x.1 59 0) ≤ a4 then (
    lt_ (a3 + (1 : Int32)) fun b9 =>
    rec29 x b9
  ) else (
    bd (fX0_layPlace F x a4 a3) fun r12 x11 =>
    lt_ (a4 + (1 : Int32)) fun b14 =>
    rec40 x11 a3 b14
  )
def fX0_lay_40 (F : Nat) (rec29 : HT → Int32 → Option (Unit × HT)) : Nat → HT → Int32 → Int32 → Option (Unit × HT)
  | 0 => fun _ _ _ => none
  | n + 1 => fX0_lay_40b F rec29 (fX0_lay_40 F rec29 n)
def fX0_lay_29b (F : Nat) (rec29 : HT → Int32 → Option (Unit × HT)) (x : HT) (a3 : Int32) : Option (Unit × HT) :=
  if (x.1 59 1) ≤ a3 then (
    some ((), x)
  ) else (
    fX0_lay_40 F rec29 F x a3 (0 : Int32)
  )
def fX0_lay_29 (F : Nat) : Nat → HT → Int32 → Option (Unit × HT)
  | 0 => fun _ _ => none
  | n + 1 => fX0_lay_29b F (fX0_lay_29 F n)
def fX0_lay_17 (F : Nat) (x : HT) (a1 : Int32) (a2 : Int32) : Option (Unit × HT) :=
  lt_ (sI x 59 0 a1) fun x3 =>
  lt_ (sI x3 59 1 a2) fun x5 =>
  fX0_lay_29 F F x5 (0 : Int32)
def fX0_lay (F : Nat) (x : HT) (a1 : Int32) (a2 : Int32) : Option (Unit × HT) :=
  if a1 = (x.1 59 0) then (
    if a2 = (x.1 59 1) then (
      some ((), x)
    ) else (
      fX0_lay_17 F x a1 a2
    )
  ) else (
    fX0_lay_17 F x a1 a2
  )
def fX2_copyFrom (F : Nat) (j : Nat) (j2 : Nat) (x : HT) : Option (Unit × HT) :=
  lt_ (sI x (7 * j + 1) 0 (x.1 (7 * j2 + 1) 0)) fun x1 =>
  lt_ (sI x1 (7 * j + 1) 1 (x1.1 (7 * j2 + 1) 1)) fun x3 =>
  lt_ (sI x3 (7 * j + 1) 2 (x3.1 (7 * j2 + 1) 2)) fun x5 =>
  lt_ (sI x5 (7 * j + 1) 3 (x5.1 (7 * j2 + 1) 3)) fun x7 =>
  lt_ (sA x7 (7 * j + 2) (va_cpy (x7.1 (7 * j2 + 2)) (x7.1 (7 * j + 2)) 0 0 36)) fun x9 =>
  lt_ (sA x9 (7 * j + 3) (va_cpy (x9.1 (7 * j2 + 3)) (x9.1 (7 * j + 3)) 0 0 5)) fun x11 =>
  lt_ (sA x11 (7 * j + 4) (va_cpy (x11.1 (7 * j2 + 4)) (x11.1 (7 * j + 4)) 0 0 5)) fun x13 =>
  lt_ (sB x13 (7 * j + 5) (va_cpy (x13.2 (7 * j2 + 5)) (x13.2 (7 * j + 5)) 0 0 5)) fun x15 =>
  lt_ (sA x15 (7 * j + 6) (va_cpy (x15.1 (7 * j2 + 6)) (x15.1 (7 * j + 6)) 0 0 10)) fun x17 =>
  lt_ (sA x17 (7 * j + 7) (va_cpy (x17.1 (7 * j2 + 7)) (x17.1 (7 * j + 7)) 0 0 10)) fun x19 =>
  some ((), x19)
def fX0_places (F : Nat) (x : HT) : Option (Int32 × HT) :=
  some (((x.1 59 0) * (x.1 59 1)), x)
def fX6_makeMesh_22 (F : Nat) (x : HT) : Option (Int32 × HT) :=
  some ((-2 : Int32), x)
def fX6_makeMesh (F : Nat) (x : HT) (a1 : Int32) (a2 : Int32) : Option (Int32 × HT) :=
  if a1 < (2 : Int32) then (
    fX6_makeMesh_22 F x
  ) else (
    if (6 : Int32) < a1 then (
      fX6_makeMesh_22 F x
    ) else (
      if a2 < (2 : Int32) then (
        fX6_makeMesh_22 F x
      ) else (
        if a2 ≤ (6 : Int32) then (
          bd (fX0_places F x) fun r6 x5 =>
          bd (fX2_begin F 0 x5 a1 a2) fun r9 x8 =>
          bd (fX0_lay F x8 a1 a2) fun r12 x11 =>
          some (r6, x11)
        ) else (
          fX6_makeMesh_22 F x
        )
      )
    )
  )
def fX6_refuse_64 (F : Nat) (x : HT) (a1 : Int32) : Option (Int32 × HT) :=
  some (a1, x)
def fX6_refuse (F : Nat) (x : HT) (a1 : Int32) : Option (Int32 × HT) :=
  if a1 = (-3 : Int32) then (
    lt_ (sI x 0 9 ((x.1 0 9) + (1 : Int32))) fun x2 =>
    fX6_refuse_64 F x2 a1
  ) else (
  if a1 = (-2 : Int32) then (
    lt_ (sI x 0 8 ((x.1 0 8) + (1 : Int32))) fun x5 =>
    fX6_refuse_64 F x5 a1
  ) else (
  lt_ (sI x 0 10 ((x.1 0 10) + (1 : Int32))) fun x7 =>
  fX6_refuse_64 F x7 a1
  ))
def fX1_push_34 (F : Nat) (j : Nat) (x : HT) (t0 : Int32) : Option (Unit × HT) :=
  lt_ (sI x 57 1 t0) fun x7 =>
  lt_ (sI x7 57 2 (if (5 : Int32) < ((x7.1 57 2) + (1 : Int32)) then (5 : Int32) else ((x7.1 57 2) + (1 : Int32)))) fun x9 =>
  some ((), x9)
def fX1_push (F : Nat) (j : Nat) (x : HT) : Option (Unit × HT) :=
  ck (inb (x.1 57 1) 5) <|
  bd (fX2_copyFrom F (3 + (x.1 57 1).toNatClampNeg) j x) fun r4 x3 =>
  if (5 : Int32) ≤ ((x3.1 57 1) + (1 : Int32)) then (
    fX1_push_34 F j x3 (0 : Int32)
  ) else (
    fX1_push_34 F j x3 ((x3.1 57 1) + (1 : Int32))
  )
def fX6_settle (F : Nat) (x : HT) (a1 : Int32) : Option (Int32 × HT) :=
  if 0 ≤ a1 then (
    bd (fX1_push F 1 x) fun r3 x2 =>
    some (a1, x2)
  ) else (
    bd (fX6_refuse F x a1) fun r6 x5 =>
    some (r6, x5)
  )
def fX6_mesh (F : Nat) (x : HT) (a1 : Int32) (a2 : Int32) : Option (Int32 × HT) :=
  bd (fX2_copyFrom F 1 0 x) fun r2 x1 =>
  bd (fX6_makeMesh F x1 a1 a2) fun r5 x4 =>
  bd (fX6_settle F x4 r5) fun r8 x7 =>
  some (r8, x7)
def fX2_addMessage_39b (F : Nat) (rec39 : HT → Int32 → Int32 → Option (Int32 × HT)) (j : Nat) (x : HT) (a3 : Int32) (a4 : Int32) : Option (Int32 × HT) :=
  if ((a3 * (2 : Int32)) + (2 : Int32)) ≤ a4 then (
    lt_ (sI x (7 * j + 1) 3 ((x.1 (7 * j + 1) 3) + (1 : Int32))) fun x16 =>
    some (a3, x16)
  ) else (
    ck (inb a4 10) <|
    lt_ (sI x (7 * j + 6) a4.toNatClampNeg (0 : Int32)) fun x19 =>
    ck (inb a4 10) <|
    lt_ (sI x19 (7 * j + 7) a4.toNatClampNeg (0 : Int32)) fun x22 =>
    lt_ (a4 + (1 : Int32)) fun b24 =>
    rec39 x22 a3 b24
  )
def fX2_addMessage_39 (F : Nat) (j : Nat) : Nat → HT → Int32 → Int32 → Option (Int32 × HT)
  | 0 => fun _ _ _ => none
  | n + 1 => fX2_addMessage_39b F (fX2_addMessage_39 F j n) j
def fX2_addMessage (F : Nat) (j : Nat) (x : HT) (a1 : Int32) (a2 : Int32) : Option (Int32 × HT) :=
  lt_ (x.1 (7 * j + 1) 3) fun b1 =>
  if b1 < (5 : Int32) then (
    ck (inb b1 5) <|
    lt_ (sI x (7 * j + 3) b1.toNatClampNeg a1) fun x5 =>
    ck (inb b1 5) <|
    lt_ (sI x5 (7 * j + 4) b1.toNatClampNeg a2) fun x8 =>
    ck (inb b1 5) <|
    lt_ (sL x8 (7 * j + 5) b1.toNatClampNeg (0 : Int64)) fun x11 =>
    lt_ (b1 * (2 : Int32)) fun b13 =>
    fX2_addMessage_39 F j F x11 b1 b13
  ) else (
    some ((-4 : Int32), x)
  )
def fX2_sourceOf (F : Nat) (j : Nat) (x : HT) (a1 : Int32) : Option (Int32 × HT) :=
  ck (inb (a1 >>> ((1 : Int32) &&& 31)) 5) <|
  some ((x.1 (7 * j + 3) (a1 >>> ((1 : Int32) &&& 31)).toNatClampNeg), x)
def fX2_rises (F : Nat) (j : Nat) (x : HT) (a1 : Int32) : Option (Int32 × HT) :=
  if (a1 &&& (1 : Int32)) = 0 then (
    some ((1 : Int32), x)
  ) else (
    some ((0 : Int32), x)
  )
def fX2_goalsOfWorm_35 (F : Nat) (j : Nat) (x : HT) (t0 : Int64) (t1 : Int64) : Option (Int64 × HT) :=
  some ((t0 &&& t1), x)
def fX2_goalsOfWorm (F : Nat) (j : Nat) (x : HT) (a1 : Int32) : Option (Int64 × HT) :=
  bd (fX2_sourceOf F j x a1) fun r2 x1 =>
  lt_ (((1 : Int64) <<< (r2.toInt64 &&& 63)) - (1 : Int64)) fun b4 =>
  ck (inb (a1 >>> ((1 : Int32) &&& 31)) 5) <|
  bd (fX2_rises F j x1 a1) fun r8 x7 =>
  if r8 = 0 then (
    fX2_goalsOfWorm_35 F j x7 (x1.2 (7 * j + 5) (a1 >>> ((1 : Int32) &&& 31)).toNatClampNeg) b4
  ) else (
    fX2_goalsOfWorm_35 F j x7 (x1.2 (7 * j + 5) (a1 >>> ((1 : Int32) &&& 31)).toNatClampNeg) (b4 ^^^ (-1 : Int64))
  )
def fX0_channelTowards_114 (F : Nat) (rec22 : HT → Int32 → Int32 → Int32 → Int32 → Int32 → Option (Int32 × HT)) (x : HT) (a1 : Int32) (a2 : Int32) (a3 : Int32) (a4 : Int32) (a5 : Int32) : Option (Int32 × HT) :=
  lt_ (a5 + (1 : Int32)) fun b16 =>
  rec22 x a1 a2 a3 a4 b16
def fX0_channelTowards_100 (F : Nat) (rec22 : HT → Int32 → Int32 → Int32 → Int32 → Int32 → Option (Int32 × HT)) (x : HT) (a1 : Int32) (a2 : Int32) (a3 : Int32) (a4 : Int32) (a5 : Int32) (a6 : Int32) (t0 : Int32) : Option (Int32 × HT) :=
  if t0 = 0 then (
    fX0_channelTowards_114 F rec22 x a1 a2 a3 a4 a5
  ) else (
    fX0_channelTowards_114 F rec22 x a1 a2 a5 a6 a5
  )
def fX0_channelTowards_99 (F : Nat) (rec22 : HT → Int32 → Int32 → Int32 → Int32 → Int32 → Option (Int32 × HT)) (x : HT) (a1 : Int32) (a2 : Int32) (a3 : Int32) (a4 : Int32) (a5 : Int32) (a6 : Int32) : Option (Int32 × HT) :=
  fX0_channelTowards_100 F rec22 x a1 a2 a3 a4 a5 a6 (0 : Int32)
def fX0_channelTowards_95 (F : Nat) (rec22 : HT → Int32 → Int32 → Int32 → Int32 → Int32 → Option (Int32 × HT)) (x : HT) (a1 : Int32) (a2 : Int32) (a3 : Int32) (a4 : Int32) (a5 : Int32) (a6 : Int32) : Option (Int32 × HT) :=
  fX0_channelTowards_100 F rec22 x a1 a2 a3 a4 a5 a6 (1 : Int32)
def fX0_channelTowards_72 (F : Nat) (rec22 : HT → Int32 → Int32 → Int32 → Int32 → Int32 → Option (Int32 × HT)) (x : HT) (a1 : Int32) (a2 : Int32) (a3 : Int32) (a4 : Int32) (a5 : Int32) (a6 : Int32) : Option (Int32 × HT) :=
  fX0_channelTowards_100 F rec22 x a1 a2 a3 a4 a5 a6 (0 : Int32)
def fX0_channelTowards_22b (F : Nat) (rec22 : HT → Int32 → Int32 → Int32 → Int32 → Int32 → Option (Int32 × HT)) (x : HT) (a1 : Int32) (a2 : Int32) (a3 : Int32) (a4 : Int32) (a5 : Int32) : Option (Int32 × HT) :=
  if ((a1 * (4 : Int32)) + (4 : Int32)) ≤ a5 then (
    some (a3, x)
  ) else (
    ck (inb a5 144) <|
    lt_ (x.1 62 a5.toNatClampNeg) fun b7 =>
    if b7 = (-1 : Int32) then (
      fX0_channelTowards_114 F rec22 x a1 a2 a3 a4 a5
    ) else (
      if a2 ≤ a1 then (
        if b7 < a2 then (
          fX0_channelTowards_99 F rec22 x a1 a2 a3 a4 a5 b7
        ) else (
          if a4 = (-1 : Int32) then (
            fX0_channelTowards_95 F rec22 x a1 a2 a3 a4 a5 b7
          ) else (
            if a4 ≤ b7 then (
              fX0_channelTowards_99 F rec22 x a1 a2 a3 a4 a5 b7
            ) else (
              fX0_channelTowards_95 F rec22 x a1 a2 a3 a4 a5 b7
            )
          )
        )
      ) else (
        if a2 < b7 then (
          fX0_channelTowards_72 F rec22 x a1 a2 a3 a4 a5 b7
        ) else (
          if b7 ≤ a4 then (
            fX0_channelTowards_72 F rec22 x a1 a2 a3 a4 a5 b7
          ) else (
            fX0_channelTowards_100 F rec22 x a1 a2 a3 a4 a5 b7 (1 : Int32)
          )
        )
      )
    )
  )
def fX0_channelTowards_22 (F : Nat) : Nat → HT → Int32 → Int32 → Int32 → Int32 → Int32 → Option (Int32 × HT)
  | 0 => fun _ _ _ _ _ _ => none
  | n + 1 => fX0_channelTowards_22b F (fX0_channelTowards_22 F n)
def fX0_channelTowards_10 (F : Nat) (x : HT) : Option (Int32 × HT) :=
  some ((-1 : Int32), x)
def fX0_channelTowards (F : Nat) (x : HT) (a1 : Int32) (a2 : Int32) : Option (Int32 × HT) :=
  if a1 < 0 then (
    fX0_channelTowards_10 F x
  ) else (
    if a1 < (36 : Int32) then (
      lt_ (a1 * (4 : Int32)) fun b3 =>
      fX0_channelTowards_22 F F x a1 a2 (-1 : Int32) (-1 : Int32) b3
    ) else (
      fX0_channelTowards_10 F x
    )
  )
def fX0_endOf_20 (F : Nat) (x : HT) : Option (Int32 × HT) :=
  some ((-1 : Int32), x)
def fX0_endOf (F : Nat) (x : HT) (a1 : Int32) : Option (Int32 × HT) :=
  if a1 < 0 then (
    fX0_endOf_20 F x
  ) else (
    if (144 : Int32) ≤ a1 then (
      fX0_endOf_20 F x
    ) else (
      ck (inb a1 144) <|
      some ((x.1 62 a1.toNatClampNeg), x)
    )
  )
def fX5_layTo_89 (F : Nat) (x : HT) (a2 : Int32) (a4 : Int32) : Option (Unit × HT) :=
  ck (inb a2 10) <|
  lt_ (sI x 64 a2.toNatClampNeg a4) fun x32 =>
  some ((), x32)
def fX5_layTo_8b (F : Nat) (rec8 : HT → Int32 → Int32 → Int32 → Option (Unit × HT)) (x : HT) (a2 : Int32) (a3 : Int32) (a4 : Int32) : Option (Unit × HT) :=
  if (36 : Int32) ≤ (a4 + (1 : Int32)) then (
    fX5_layTo_89 F x a2 a4
  ) else (
    ck (inb a2 10) <|
    ck (inb a4 36) <|
    if (x.1 (67 + a2.toNatClampNeg) a4.toNatClampNeg) = a3 then (
      fX5_layTo_89 F x a2 a4
    ) else (
      ck (inb a2 10) <|
      ck (inb a4 36) <|
      bd (fX0_channelTowards F x (x.1 (67 + a2.toNatClampNeg) a4.toNatClampNeg) a3) fun r13 x12 =>
      if r13 = (-1 : Int32) then (
        fX5_layTo_89 F x12 a2 a4
      ) else (
        ck (inb a2 10) <|
        ck (inb a4 36) <|
        lt_ (sI x12 (77 + a2.toNatClampNeg) a4.toNatClampNeg r13) fun x19 =>
        ck (inb a2 10) <|
        bd (fX0_endOf F x19 r13) fun r24 x23 =>
        ck (inb (a4 + (1 : Int32)) 36) <|
        lt_ (sI x23 (67 + a2.toNatClampNeg) (a4 + (1 : Int32)).toNatClampNeg r24) fun x27 =>
        lt_ (a4 + (1 : Int32)) fun b29 =>
        rec8 x27 a2 a3 b29
      )
    )
  )
def fX5_layTo_8 (F : Nat) : Nat → HT → Int32 → Int32 → Int32 → Option (Unit × HT)
  | 0 => fun _ _ _ _ => none
  | n + 1 => fX5_layTo_8b F (fX5_layTo_8 F n)
def fX5_layTo (F : Nat) (x : HT) (a2 : Int32) (a3 : Int32) : Option (Unit × HT) :=
  ck (inb a2 10) <|
  lt_ (x.1 64 a2.toNatClampNeg) fun b2 =>
  fX5_layTo_8 F F x a2 a3 b2
def fX5_lay_84 (F : Nat) (rec52 : HT → Int32 → Int64 → Int32 → Int32 → Option (Unit × HT)) (j : Nat) (x : HT) (a3 : Int32) (a4 : Int64) (a6 : Int32) (a7 : Int32) : Option (Unit × HT) :=
  lt_ (a7 + a6) fun b30 =>
  rec52 x a3 a4 a6 b30
def fX5_lay_52b (F : Nat) (rec52 : HT → Int32 → Int64 → Int32 → Int32 → Option (Unit × HT)) (j : Nat) (x : HT) (a3 : Int32) (a4 : Int64) (a6 : Int32) (a7 : Int32) : Option (Unit × HT) :=
  if a7 < 0 then (
    some ((), x)
  ) else (
    if (36 : Int32) ≤ a7 then (
      some ((), x)
    ) else (
      if (lg_cmp ((a4 >>> (a7.toInt64 &&& 63)) &&& (1 : Int64)) (0 : Int64)) = 0 then (
        fX5_lay_84 F rec52 j x a3 a4 a6 a7
      ) else (
        bd (fX5_layTo F x a3 a7) fun r28 x27 =>
        fX5_lay_84 F rec52 j x27 a3 a4 a6 a7
      )
    )
  )
def fX5_lay_52 (F : Nat) (j : Nat) : Nat → HT → Int32 → Int64 → Int32 → Int32 → Option (Unit × HT)
  | 0 => fun _ _ _ _ _ => none
  | n + 1 => fX5_lay_52b F (fX5_lay_52 F j n) j
def fX5_lay_20 (F : Nat) (j : Nat) (x : HT) (a3 : Int32) (a4 : Int64) (t0 : Int32) : Option (Unit × HT) :=
  ck (inb a3 10) <|
  lt_ (sI x 64 a3.toNatClampNeg (0 : Int32)) fun x9 =>
  ck (inb a3 10) <|
  bd (fX2_sourceOf F j x9 a3) fun r14 x13 =>
  ck (inb (0 : Int32) 36) <|
  lt_ (sI x13 (67 + a3.toNatClampNeg) (0 : Int32).toNatClampNeg r14) fun x17 =>
  bd (fX2_sourceOf F j x17 a3) fun r20 x19 =>
  lt_ (r20 + t0) fun b22 =>
  fX5_lay_52 F j F x19 a3 a4 t0 b22
def fX5_lay (F : Nat) (j : Nat) (x : HT) (a3 : Int32) : Option (Unit × HT) :=
  bd (fX2_goalsOfWorm F j x a3) fun r2 x1 =>
  bd (fX2_rises F j x1 a3) fun r5 x4 =>
  if r5 = 0 then (
    fX5_lay_20 F j x4 a3 r2 (-1 : Int32)
  ) else (
    fX5_lay_20 F j x4 a3 r2 (1 : Int32)
  )
def fX6_layMessage (F : Nat) (x : HT) (a1 : Int32) : Option (Unit × HT) :=
  bd (fX5_lay F 0 x (a1 * (2 : Int32))) fun r2 x1 =>
  bd (fX5_lay F 0 x1 ((a1 * (2 : Int32)) + (1 : Int32))) fun r5 x4 =>
  some ((), x4)
def fX6_addMessage_56 (F : Nat) (x : HT) (a4 : Int32) : Option (Int32 × HT) :=
  some (a4, x)
def fX6_addMessage_23 (F : Nat) (x : HT) : Option (Int32 × HT) :=
  some ((-2 : Int32), x)
def fX6_addMessage (F : Nat) (x : HT) (a1 : Int32) (a2 : Int32) (a3 : Int32) : Option (Int32 × HT) :=
  bd (fX0_has F x a1 a2) fun r2 x1 =>
  if r2 = 0 then (
    fX6_addMessage_23 F x1
  ) else (
    if a3 < (1 : Int32) then (
      fX6_addMessage_23 F x1
    ) else (
      if a3 ≤ (9 : Int32) then (
        bd (fX0_labelAt F x1 a1 a2) fun r8 x7 =>
        bd (fX2_addMessage F 0 x7 r8 a3) fun r11 x10 =>
        if r11 < 0 then (
          fX6_addMessage_56 F x10 r11
        ) else (
          bd (fX6_layMessage F x10 r11) fun r15 x14 =>
          fX6_addMessage_56 F x14 r11
        )
      ) else (
        fX6_addMessage_23 F x1
      )
    )
  )
def fX6_message (F : Nat) (x : HT) (a1 : Int32) (a2 : Int32) (a3 : Int32) : Option (Int32 × HT) :=
  bd (fX2_copyFrom F 1 0 x) fun r2 x1 =>
  bd (fX6_addMessage F x1 a1 a2 a3) fun r5 x4 =>
  bd (fX6_settle F x4 r5) fun r8 x7 =>
  some (r8, x7)
def fX6_hasMessage_19 (F : Nat) (x : HT) : Option (Int32 × HT) :=
  some ((0 : Int32), x)
def fX6_hasMessage (F : Nat) (x : HT) (a1 : Int32) : Option (Int32 × HT) :=
  if a1 < 0 then (
    fX6_hasMessage_19 F x
  ) else (
    if (x.1 (7 * 0 + 1) 3) ≤ a1 then (
      fX6_hasMessage_19 F x
    ) else (
      some ((1 : Int32), x)
    )
  )
def fX6_turnGoal_81 (F : Nat) (x : HT) : Option (Int32 × HT) :=
  some ((-3 : Int32), x)
def fX6_turnGoal_20 (F : Nat) (x : HT) : Option (Int32 × HT) :=
  some ((-2 : Int32), x)
def fX6_turnGoal (F : Nat) (x : HT) (a1 : Int32) (a2 : Int32) (a3 : Int32) : Option (Int32 × HT) :=
  bd (fX6_hasMessage F x a1) fun r2 x1 =>
  if r2 = 0 then (
    fX6_turnGoal_20 F x1
  ) else (
    bd (fX0_has F x1 a2 a3) fun r6 x5 =>
    if r6 = 0 then (
      fX6_turnGoal_20 F x5
    ) else (
      bd (fX0_labelAt F x5 a2 a3) fun r10 x9 =>
      ck (inb a1 5) <|
      if r10 = (x9.1 (7 * 0 + 3) a1.toNatClampNeg) then (
        some ((-2 : Int32), x9)
      ) else (
        ck (inb (a1 * (2 : Int32)) 10) <|
        if 0 < (x9.1 (7 * 0 + 6) (a1 * (2 : Int32)).toNatClampNeg) then (
          fX6_turnGoal_81 F x9
        ) else (
          ck (inb ((a1 * (2 : Int32)) + (1 : Int32)) 10) <|
          if (x9.1 (7 * 0 + 6) ((a1 * (2 : Int32)) + (1 : Int32)).toNatClampNeg) ≤ 0 then (
            ck (inb a1 5) <|
            ck (inb a1 5) <|
            lt_ (sL x9 (7 * 0 + 5) a1.toNatClampNeg ((x9.2 (7 * 0 + 5) a1.toNatClampNeg) ^^^ ((1 : Int64) <<< (r10.toInt64 &&& 63)))) fun x20 =>
            bd (fX6_layMessage F x20 a1) fun r23 x22 =>
            ck (inb a1 5) <|
            bd (fJ13_bitCount_95d88 F x22 (x22.2 (7 * 0 + 5) a1.toNatClampNeg)) fun r27 x26 =>
            some (r27, x26)
          ) else (
            fX6_turnGoal_81 F x9
          )
        )
      )
    )
  )
def fX6_goal (F : Nat) (x : HT) (a1 : Int32) (a2 : Int32) (a3 : Int32) : Option (Int32 × HT) :=
  bd (fX2_copyFrom F 1 0 x) fun r2 x1 =>
  bd (fX6_turnGoal F x1 a1 a2 a3) fun r5 x4 =>
  bd (fX6_settle F x4 r5) fun r8 x7 =>
  some (r8, x7)
def fX0_channelAt_18 (F : Nat) (x : HT) : Option (Int32 × HT) :=
  some ((-1 : Int32), x)
def fX0_channelAt (F : Nat) (x : HT) (a1 : Int32) (a2 : Int32) (a3 : Int32) : Option (Int32 × HT) :=
  bd (fX0_has F x a1 a2) fun r2 x1 =>
  if r2 = 0 then (
    fX0_channelAt_18 F x1
  ) else (
    if a3 < 0 then (
      fX0_channelAt_18 F x1
    ) else (
      if a3 < (4 : Int32) then (
        bd (fX0_labelAt F x1 a1 a2) fun r8 x7 =>
        lt_ ((r8 * (4 : Int32)) + a3) fun b10 =>
        ck (inb b10 144) <|
        if (x7.1 62 b10.toNatClampNeg) = (-1 : Int32) then (
          some ((-1 : Int32), x7)
        ) else (
          some (b10, x7)
        )
      ) else (
        fX0_channelAt_18 F x1
      )
    )
  )
def fX2_turn (F : Nat) (j : Nat) (x : HT) (a1 : Int32) : Option (Unit × HT) :=
  if a1 < 0 then (
    some ((), x)
  ) else (
    if (144 : Int32) ≤ a1 then (
      some ((), x)
    ) else (
      ck (inb (a1 >>> ((2 : Int32) &&& 31)) 36) <|
      ck (inb (a1 >>> ((2 : Int32) &&& 31)) 36) <|
      lt_ (sI x (7 * j + 2) (a1 >>> ((2 : Int32) &&& 31)).toNatClampNeg ((x.1 (7 * j + 2) (a1 >>> ((2 : Int32) &&& 31)).toNatClampNeg) ^^^ ((1 : Int32) <<< ((a1 &&& (3 : Int32)) &&& 31)))) fun x5 =>
      some ((), x5)
    )
  )
def fX2_isDown_32 (F : Nat) (j : Nat) (x : HT) : Option (Int32 × HT) :=
  some ((0 : Int32), x)
def fX2_isDown (F : Nat) (j : Nat) (x : HT) (a1 : Int32) : Option (Int32 × HT) :=
  if a1 < 0 then (
    fX2_isDown_32 F j x
  ) else (
    if (144 : Int32) ≤ a1 then (
      fX2_isDown_32 F j x
    ) else (
      ck (inb (a1 >>> ((2 : Int32) &&& 31)) 36) <|
      if (((x.1 (7 * j + 2) (a1 >>> ((2 : Int32) &&& 31)).toNatClampNeg) >>> ((a1 &&& (3 : Int32)) &&& 31)) &&& (1 : Int32)) = 0 then (
        fX2_isDown_32 F j x
      ) else (
        some ((1 : Int32), x)
      )
    )
  )
def fX6_turnChannel (F : Nat) (x : HT) (a1 : Int32) (a2 : Int32) (a3 : Int32) : Option (Int32 × HT) :=
  bd (fX0_channelAt F x a1 a2 a3) fun r2 x1 =>
  if r2 = (-1 : Int32) then (
    some ((-2 : Int32), x1)
  ) else (
    bd (fX2_turn F 0 x1 r2) fun r6 x5 =>
    bd (fX2_isDown F 0 x5 r2) fun r9 x8 =>
    if r9 = 0 then (
      some ((1 : Int32), x8)
    ) else (
      some ((0 : Int32), x8)
    )
  )
def fX6_turns (F : Nat) (x : HT) (a1 : Int32) (a2 : Int32) (a3 : Int32) : Option (Int32 × HT) :=
  bd (fX2_copyFrom F 1 0 x) fun r2 x1 =>
  bd (fX6_turnChannel F x1 a1 a2 a3) fun r5 x4 =>
  bd (fX6_settle F x4 r5) fun r8 x7 =>
  some (r8, x7)
def fX2_worms (F : Nat) (j : Nat) (x : HT) : Option (Int32 × HT) :=
  some (((x.1 (7 * j + 1) 3) * (2 : Int32)), x)
def fX2_lengthOf (F : Nat) (j : Nat) (x : HT) (a1 : Int32) : Option (Int32 × HT) :=
  ck (inb (a1 >>> ((1 : Int32) &&& 31)) 5) <|
  some ((x.1 (7 * j + 4) (a1 >>> ((1 : Int32) &&& 31)).toNatClampNeg), x)
def fX5_tailOf (F : Nat) (j : Nat) (x : HT) (a2 : Int32) : Option (Int32 × HT) :=
  ck (inb a2 10) <|
  bd (fX2_lengthOf F j x a2) fun r3 x2 =>
  some ((if (0 : Int32) < ((x.1 (7 * j + 6) a2.toNatClampNeg) - r3) then ((x.1 (7 * j + 6) a2.toNatClampNeg) - r3) else (0 : Int32)), x2)
def fX5_headOf (F : Nat) (j : Nat) (x : HT) (a2 : Int32) : Option (Int32 × HT) :=
  ck (inb a2 10) <|
  ck (inb a2 10) <|
  some ((if (x.1 64 a2.toNatClampNeg) < (x.1 (7 * j + 6) a2.toNatClampNeg) then (x.1 64 a2.toNatClampNeg) else (x.1 (7 * j + 6) a2.toNatClampNeg)), x)
def fX5_channelOf (F : Nat) (x : HT) (a1 : Int32) (a2 : Int32) : Option (Int32 × HT) :=
  ck (inb a1 10) <|
  ck (inb a2 36) <|
  some ((x.1 (77 + a1.toNatClampNeg) a2.toNatClampNeg), x)
def fX4_mark (F : Nat) (x : HT) (a1 : Int32) (a2 : Int32) : Option (Unit × HT) :=
  if a1 < 0 then (
    some ((), x)
  ) else (
    if (144 : Int32) ≤ a1 then (
      some ((), x)
    ) else (
      ck (inb a1 144) <|
      lt_ (sI x 88 a1.toNatClampNeg (vp_nar .boolean a2)) fun x4 =>
      some ((), x4)
    )
  )
def fX4_enter_40b (F : Nat) (rec24 : HT → Int32 → Option (Unit × HT)) (rec40 : HT → Int32 → Int32 → Option (Unit × HT)) (j : Nat) (x : HT) (a3 : Int32) (a4 : Int32) : Option (Unit × HT) :=
  bd (fX5_headOf F j x a3) fun r15 x14 =>
  if r15 ≤ a4 then (
    lt_ (a3 + (1 : Int32)) fun b18 =>
    rec24 x14 b18
  ) else (
    bd (fX5_channelOf F x14 a3 a4) fun r21 x20 =>
    bd (fX4_mark F x20 r21 (1 : Int32)) fun r24 x23 =>
    lt_ (a4 + (1 : Int32)) fun b26 =>
    rec40 x23 a3 b26
  )
def fX4_enter_40 (F : Nat) (rec24 : HT → Int32 → Option (Unit × HT)) (j : Nat) : Nat → HT → Int32 → Int32 → Option (Unit × HT)
  | 0 => fun _ _ _ => none
  | n + 1 => fX4_enter_40b F rec24 (fX4_enter_40 F rec24 j n) j
def fX4_enter_24b (F : Nat) (rec24 : HT → Int32 → Option (Unit × HT)) (j : Nat) (x : HT) (a3 : Int32) : Option (Unit × HT) :=
  bd (fX2_worms F j x) fun r8 x7 =>
  if r8 ≤ a3 then (
    some ((), x7)
  ) else (
    bd (fX5_tailOf F j x7 a3) fun r12 x11 =>
    fX4_enter_40 F rec24 j F x11 a3 r12
  )
def fX4_enter_24 (F : Nat) (j : Nat) : Nat → HT → Int32 → Option (Unit × HT)
  | 0 => fun _ _ => none
  | n + 1 => fX4_enter_24b F (fX4_enter_24 F j n) j
def fX4_enter_2b (F : Nat) (rec2 : HT → Int32 → Option (Unit × HT)) (j : Nat) (x : HT) (a3 : Int32) : Option (Unit × HT) :=
  if (144 : Int32) ≤ a3 then (
    fX4_enter_24 F j F x (0 : Int32)
  ) else (
    ck (inb a3 144) <|
    lt_ (sI x 88 a3.toNatClampNeg (vp_nar .boolean (0 : Int32))) fun x3 =>
    lt_ (a3 + (1 : Int32)) fun b5 =>
    rec2 x3 b5
  )
def fX4_enter_2 (F : Nat) (j : Nat) : Nat → HT → Int32 → Option (Unit × HT)
  | 0 => fun _ _ => none
  | n + 1 => fX4_enter_2b F (fX4_enter_2 F j n) j
def fX4_enter (F : Nat) (j : Nat) (x : HT) : Option (Unit × HT) :=
  fX4_enter_2 F j F x (0 : Int32)
def fX5_isDone_30 (F : Nat) (j : Nat) (x : HT) : Option (Int32 × HT) :=
  some ((1 : Int32), x)
def fX5_isDone (F : Nat) (j : Nat) (x : HT) (a2 : Int32) : Option (Int32 × HT) :=
  ck (inb a2 10) <|
  if (x.1 64 a2.toNatClampNeg) = 0 then (
    fX5_isDone_30 F j x
  ) else (
    ck (inb a2 10) <|
    ck (inb a2 10) <|
    bd (fX2_lengthOf F j x a2) fun r6 x5 =>
    if (x.1 (7 * j + 6) a2.toNatClampNeg) < ((x.1 64 a2.toNatClampNeg) + r6) then (
      some ((0 : Int32), x5)
    ) else (
      fX5_isDone_30 F j x5
    )
  )
def fX5_channelsOf (F : Nat) (x : HT) (a1 : Int32) : Option (Int32 × HT) :=
  ck (inb a1 10) <|
  some ((x.1 64 a1.toNatClampNeg), x)
def fX4_isTaken_24 (F : Nat) (x : HT) : Option (Int32 × HT) :=
  some ((0 : Int32), x)
def fX4_isTaken (F : Nat) (x : HT) (a1 : Int32) : Option (Int32 × HT) :=
  if a1 < 0 then (
    fX4_isTaken_24 F x
  ) else (
    if (144 : Int32) ≤ a1 then (
      fX4_isTaken_24 F x
    ) else (
      ck (inb a1 144) <|
      if (x.1 88 a1.toNatClampNeg) = 0 then (
        fX4_isTaken_24 F x
      ) else (
        some ((1 : Int32), x)
      )
    )
  )
def fX4_isStopped_47 (F : Nat) (j : Nat) (x : HT) : Option (Int32 × HT) :=
  some ((1 : Int32), x)
def fX4_isStopped (F : Nat) (j : Nat) (x : HT) (a3 : Int32) : Option (Int32 × HT) :=
  ck (inb a3 10) <|
  lt_ (x.1 (7 * j + 6) a3.toNatClampNeg) fun b2 =>
  bd (fX5_channelsOf F x a3) fun r5 x4 =>
  if b2 < r5 then (
    bd (fX5_channelOf F x4 a3 b2) fun r9 x8 =>
    bd (fX2_isDown F j x8 r9) fun r12 x11 =>
    if r12 = 0 then (
      bd (fX4_isTaken F x11 r9) fun r16 x15 =>
      if r16 = 0 then (
        some ((0 : Int32), x15)
      ) else (
        fX4_isStopped_47 F j x15
      )
    ) else (
      fX4_isStopped_47 F j x11
    )
  ) else (
    some ((0 : Int32), x4)
  )
def fX4_moveOn_67 (F : Nat) (j : Nat) (x : HT) (a3 : Int32) (a4 : Int32) : Option (Unit × HT) :=
  ck (inb a3 10) <|
  lt_ (sI x (7 * j + 6) a3.toNatClampNeg (a4 + (1 : Int32))) fun x31 =>
  some ((), x31)
def fX4_moveOn_40 (F : Nat) (j : Nat) (x : HT) (a3 : Int32) (a4 : Int32) (a5 : Int32) : Option (Unit × HT) :=
  if a5 < 0 then (
    fX4_moveOn_67 F j x a3 a4
  ) else (
    bd (fX5_channelsOf F x a3) fun r21 x20 =>
    if r21 ≤ a5 then (
      fX4_moveOn_67 F j x20 a3 a4
    ) else (
      bd (fX5_channelOf F x20 a3 a5) fun r25 x24 =>
      bd (fX4_mark F x24 r25 (0 : Int32)) fun r28 x27 =>
      fX4_moveOn_67 F j x27 a3 a4
    )
  )
def fX4_moveOn (F : Nat) (j : Nat) (x : HT) (a3 : Int32) : Option (Unit × HT) :=
  ck (inb a3 10) <|
  lt_ (x.1 (7 * j + 6) a3.toNatClampNeg) fun b2 =>
  bd (fX2_lengthOf F j x a3) fun r5 x4 =>
  lt_ (b2 - r5) fun b7 =>
  bd (fX5_channelsOf F x4 a3) fun r10 x9 =>
  if r10 ≤ b2 then (
    fX4_moveOn_40 F j x9 a3 b2 b7
  ) else (
    bd (fX5_channelOf F x9 a3 b2) fun r14 x13 =>
    bd (fX4_mark F x13 r14 (1 : Int32)) fun r17 x16 =>
    fX4_moveOn_40 F j x16 a3 b2 b7
  )
def fX4_stepOnce_62 (F : Nat) (rec5 : HT → Int32 → Int32 → Option (Int32 × HT)) (j : Nat) (x : HT) (a3 : Int32) (a4 : Int32) : Option (Int32 × HT) :=
  lt_ (a4 + (1 : Int32)) fun b23 =>
  rec5 x a3 b23
def fX4_stepOnce_5b (F : Nat) (rec5 : HT → Int32 → Int32 → Option (Int32 × HT)) (j : Nat) (x : HT) (a3 : Int32) (a4 : Int32) : Option (Int32 × HT) :=
  bd (fX2_worms F j x) fun r2 x1 =>
  if r2 ≤ a4 then (
    lt_ (sI x1 (7 * j + 1) 2 ((x1.1 (7 * j + 1) 2) + (1 : Int32))) fun x5 =>
    ck (isb a3) <|
    some (a3, x5)
  ) else (
    bd (fX5_isDone F j x1 a4) fun r9 x8 =>
    if r9 = 0 then (
      bd (fX4_isStopped F j x8 a4) fun r13 x12 =>
      if r13 = 0 then (
        bd (fX4_moveOn F j x12 a4) fun r17 x16 =>
        fX4_stepOnce_62 F rec5 j x16 (1 : Int32) a4
      ) else (
        ck (inb a4 10) <|
        ck (inb a4 10) <|
        lt_ (sI x12 (7 * j + 7) a4.toNatClampNeg ((x12.1 (7 * j + 7) a4.toNatClampNeg) + (1 : Int32))) fun x21 =>
        fX4_stepOnce_62 F rec5 j x21 a3 a4
      )
    ) else (
      fX4_stepOnce_62 F rec5 j x8 a3 a4
    )
  )
def fX4_stepOnce_5 (F : Nat) (j : Nat) : Nat → HT → Int32 → Int32 → Option (Int32 × HT)
  | 0 => fun _ _ _ => none
  | n + 1 => fX4_stepOnce_5b F (fX4_stepOnce_5 F j n) j
def fX4_stepOnce (F : Nat) (j : Nat) (x : HT) : Option (Int32 × HT) :=
  fX4_stepOnce_5 F j F x (0 : Int32) (0 : Int32)
def fX4_waitFor_43 (F : Nat) (rec13 : HT → Int32 → Int32 → Option (Unit × HT)) (j : Nat) (x : HT) (a3 : Int32) (a4 : Int32) : Option (Unit × HT) :=
  lt_ (a4 + (1 : Int32)) fun b15 =>
  rec13 x a3 b15
def fX4_waitFor_13b (F : Nat) (rec13 : HT → Int32 → Int32 → Option (Unit × HT)) (j : Nat) (x : HT) (a3 : Int32) (a4 : Int32) : Option (Unit × HT) :=
  bd (fX2_worms F j x) fun r4 x3 =>
  if r4 ≤ a4 then (
    some ((), x3)
  ) else (
    bd (fX5_isDone F j x3 a4) fun r8 x7 =>
    if r8 = 0 then (
      ck (inb a4 10) <|
      ck (inb a4 10) <|
      lt_ (sI x7 (7 * j + 7) a4.toNatClampNeg ((x7.1 (7 * j + 7) a4.toNatClampNeg) + a3)) fun x13 =>
      fX4_waitFor_43 F rec13 j x13 a3 a4
    ) else (
      fX4_waitFor_43 F rec13 j x7 a3 a4
    )
  )
def fX4_waitFor_13 (F : Nat) (j : Nat) : Nat → HT → Int32 → Int32 → Option (Unit × HT)
  | 0 => fun _ _ _ => none
  | n + 1 => fX4_waitFor_13b F (fX4_waitFor_13 F j n) j
def fX4_waitFor (F : Nat) (j : Nat) (x : HT) (a3 : Int32) : Option (Unit × HT) :=
  lt_ (sI x (7 * j + 1) 2 ((x.1 (7 * j + 1) 2) + a3)) fun x1 =>
  fX4_waitFor_13 F j F x1 a3 (0 : Int32)
def fX4_run_5b (F : Nat) (rec5 : HT → Int32 → Option (Unit × HT)) (j : Nat) (x : HT) (a4 : Int32) : Option (Unit × HT) :=
  if a4 < 0 then (
    some ((), x)
  ) else (
    bd (fX4_stepOnce F j x) fun r5 x4 =>
    if r5 = 0 then (
      bd (fX4_waitFor F j x4 a4) fun r11 x10 =>
      some ((), x10)
    ) else (
      lt_ (a4 + (-1 : Int32)) fun b8 =>
      rec5 x4 b8
    )
  )
def fX4_run_5 (F : Nat) (j : Nat) : Nat → HT → Int32 → Option (Unit × HT)
  | 0 => fun _ _ => none
  | n + 1 => fX4_run_5b F (fX4_run_5 F j n) j
def fX4_run (F : Nat) (j : Nat) (x : HT) (a3 : Int32) : Option (Unit × HT) :=
  lt_ (a3 - (1 : Int32)) fun b1 =>
  fX4_run_5 F j F x b1
def fX5_undone_56 (F : Nat) (rec36 : HT → Int32 → Int32 → Int32 → Option (Int32 × HT)) (j : Nat) (x : HT) (a4 : Int32) (a5 : Int32) (a6 : Int32) : Option (Int32 × HT) :=
  lt_ (a6 + (1 : Int32)) fun b13 =>
  rec36 x a4 a5 b13
def fX5_undone_36b (F : Nat) (rec36 : HT → Int32 → Int32 → Int32 → Option (Int32 × HT)) (j : Nat) (x : HT) (a4 : Int32) (a5 : Int32) (a6 : Int32) : Option (Int32 × HT) :=
  if a4 ≤ a6 then (
    some (a5, x)
  ) else (
    bd (fX5_isDone F j x a6) fun r8 x7 =>
    if r8 = 0 then (
      lt_ (a5 + (1 : Int32)) fun b11 =>
      fX5_undone_56 F rec36 j x7 a4 b11 a6
    ) else (
      fX5_undone_56 F rec36 j x7 a4 a5 a6
    )
  )
def fX5_undone_36 (F : Nat) (j : Nat) : Nat → HT → Int32 → Int32 → Int32 → Option (Int32 × HT)
  | 0 => fun _ _ _ _ => none
  | n + 1 => fX5_undone_36b F (fX5_undone_36 F j n) j
def fX5_undone_28 (F : Nat) (j : Nat) (x : HT) (a3 : Int32) (t0 : Int32) : Option (Int32 × HT) :=
  fX5_undone_36 F j F x t0 (0 : Int32) a3
def fX5_undone_12 (F : Nat) (j : Nat) (x : HT) (a2 : Int32) (t0 : Int32) : Option (Int32 × HT) :=
  if a2 = (-1 : Int32) then (
    bd (fX2_worms F j x) fun r4 x3 =>
    fX5_undone_28 F j x3 t0 r4
  ) else (
    fX5_undone_28 F j x t0 (t0 + (2 : Int32))
  )
def fX5_undone (F : Nat) (j : Nat) (x : HT) (a2 : Int32) : Option (Int32 × HT) :=
  if a2 = (-1 : Int32) then (
    fX5_undone_12 F j x a2 (0 : Int32)
  ) else (
    fX5_undone_12 F j x a2 (a2 * (2 : Int32))
  )
def fX6_goSteps_12 (F : Nat) (x : HT) : Option (Int32 × HT) :=
  some ((-2 : Int32), x)
def fX6_goSteps (F : Nat) (x : HT) (a1 : Int32) : Option (Int32 × HT) :=
  if a1 < (1 : Int32) then (
    fX6_goSteps_12 F x
  ) else (
    if a1 ≤ (200 : Int32) then (
      bd (fX4_enter F 0 x) fun r4 x3 =>
      bd (fX4_run F 0 x3 a1) fun r7 x6 =>
      bd (fX5_undone F 0 x6 (-1 : Int32)) fun r10 x9 =>
      some (r10, x9)
    ) else (
      fX6_goSteps_12 F x
    )
  )
def fX6_steps (F : Nat) (x : HT) (a1 : Int32) : Option (Int32 × HT) :=
  bd (fX2_copyFrom F 1 0 x) fun r2 x1 =>
  bd (fX6_goSteps F x1 a1) fun r5 x4 =>
  bd (fX6_settle F x4 r5) fun r8 x7 =>
  some (r8, x7)
def fX6_startAgain (F : Nat) (x : HT) : Option (Int32 × HT) :=
  lt_ (x.1 (7 * 0 + 1) 2) fun b1 =>
  bd (fX2_standStill F 0 x) fun r4 x3 =>
  some (b1, x3)
def fX6_again (F : Nat) (x : HT) : Option (Int32 × HT) :=
  bd (fX2_copyFrom F 1 0 x) fun r2 x1 =>
  bd (fX6_startAgain F x1) fun r5 x4 =>
  bd (fX6_settle F x4 r5) fun r8 x7 =>
  some (r8, x7)
def fX6_label (F : Nat) (x : HT) (a1 : Int32) (a2 : Int32) : Option (Int32 × HT) :=
  bd (fX0_has F x a1 a2) fun r2 x1 =>
  if r2 = 0 then (
    bd (fX6_refuse F x1 (-2 : Int32)) fun r6 x5 =>
    some (r6, x5)
  ) else (
    bd (fX0_labelAt F x1 a1 a2) fun r9 x8 =>
    some (r9, x8)
  )
def fX0_hasLabel_16 (F : Nat) (x : HT) : Option (Int32 × HT) :=
  some ((0 : Int32), x)
def fX0_hasLabel (F : Nat) (x : HT) (a1 : Int32) : Option (Int32 × HT) :=
  if a1 < 0 then (
    fX0_hasLabel_16 F x
  ) else (
    bd (fX0_places F x) fun r3 x2 =>
    if r3 ≤ a1 then (
      fX0_hasLabel_16 F x2
    ) else (
      some ((1 : Int32), x2)
    )
  )
def fX0_tell (F : Nat) (x : HT) (a1 : Int32) : Option (Int32 × HT) :=
  bd (fX0_hasLabel F x a1) fun r2 x1 =>
  if r2 = 0 then (
    some ((-1 : Int32), x1)
  ) else (
    ck (inb a1 36) <|
    ck (inb a1 36) <|
    some ((((10 : Int32) * (x1.1 60 a1.toNatClampNeg)) + (x1.1 61 a1.toNatClampNeg)), x1)
  )
def fX6_place (F : Nat) (x : HT) (a1 : Int32) : Option (Int32 × HT) :=
  bd (fX0_hasLabel F x a1) fun r2 x1 =>
  if r2 = 0 then (
    bd (fX6_refuse F x1 (-2 : Int32)) fun r6 x5 =>
    some (r6, x5)
  ) else (
    bd (fX0_tell F x1 a1) fun r9 x8 =>
    some (r9, x8)
  )
def fX6_next_43 (F : Nat) (x : HT) (a1 : Int32) (a2 : Int32) (a3 : Int32) (a4 : Int32) : Option (Int32 × HT) :=
  bd (fX0_labelAt F x a1 a2) fun r12 x11 =>
  bd (fX0_labelAt F x11 a3 a4) fun r15 x14 =>
  bd (fX0_channelTowards F x14 r12 r15) fun r18 x17 =>
  bd (fX0_endOf F x17 r18) fun r21 x20 =>
  bd (fX0_tell F x20 r21) fun r24 x23 =>
  some (r24, x23)
def fX6_next_36 (F : Nat) (x : HT) : Option (Int32 × HT) :=
  bd (fX6_refuse F x (-2 : Int32)) fun r27 x26 =>
  some (r27, x26)
def fX6_next (F : Nat) (x : HT) (a1 : Int32) (a2 : Int32) (a3 : Int32) (a4 : Int32) : Option (Int32 × HT) :=
  bd (fX0_has F x a1 a2) fun r2 x1 =>
  if r2 = 0 then (
    fX6_next_36 F x1
  ) else (
    bd (fX0_has F x1 a3 a4) fun r6 x5 =>
    if r6 = 0 then (
      fX6_next_36 F x5
    ) else (
      if a1 = a3 then (
        if a2 = a4 then (
          fX6_next_36 F x5
        ) else (
          fX6_next_43 F x5 a1 a2 a3 a4
        )
      ) else (
        fX6_next_43 F x5 a1 a2 a3 a4
      )
    )
  )
def fX0_distance_34 (F : Nat) (x : HT) (a4 : Int32) : Option (Int32 × HT) :=
  some (a4, x)
def fX0_distance_5b (F : Nat) (rec5 : HT → Int32 → Int32 → Int32 → Option (Int32 × HT)) (x : HT) (a2 : Int32) (a3 : Int32) (a4 : Int32) : Option (Int32 × HT) :=
  if a3 = a2 then (
    fX0_distance_34 F x a4
  ) else (
    if (36 : Int32) ≤ a4 then (
      fX0_distance_34 F x a4
    ) else (
      bd (fX0_channelTowards F x a3 a2) fun r4 x3 =>
      bd (fX0_endOf F x3 r4) fun r7 x6 =>
      lt_ (a4 + (1 : Int32)) fun b9 =>
      rec5 x6 a2 r7 b9
    )
  )
def fX0_distance_5 (F : Nat) : Nat → HT → Int32 → Int32 → Int32 → Option (Int32 × HT)
  | 0 => fun _ _ _ _ => none
  | n + 1 => fX0_distance_5b F (fX0_distance_5 F n)
def fX0_distance (F : Nat) (x : HT) (a1 : Int32) (a2 : Int32) : Option (Int32 × HT) :=
  fX0_distance_5 F F x a2 a1 (0 : Int32)
def fX6_far_25 (F : Nat) (x : HT) : Option (Int32 × HT) :=
  bd (fX6_refuse F x (-2 : Int32)) fun r19 x18 =>
  some (r19, x18)
def fX6_far (F : Nat) (x : HT) (a1 : Int32) (a2 : Int32) (a3 : Int32) (a4 : Int32) : Option (Int32 × HT) :=
  bd (fX0_has F x a1 a2) fun r2 x1 =>
  if r2 = 0 then (
    fX6_far_25 F x1
  ) else (
    bd (fX0_has F x1 a3 a4) fun r6 x5 =>
    if r6 = 0 then (
      fX6_far_25 F x5
    ) else (
      bd (fX0_labelAt F x5 a1 a2) fun r10 x9 =>
      bd (fX0_labelAt F x9 a3 a4) fun r13 x12 =>
      bd (fX0_distance F x12 r10 r13) fun r16 x15 =>
      some (r16, x15)
    )
  )
def fX5_holderOf_18b (F : Nat) (rec2 : HT → Int32 → Int32 → Option (Int32 × HT)) (rec18 : HT → Int32 → Int32 → Int32 → Option (Int32 × HT)) (j : Nat) (x : HT) (a2 : Int32) (a3 : Int32) (a4 : Int32) : Option (Int32 × HT) :=
  bd (fX5_headOf F j x a3) fun r9 x8 =>
  if r9 ≤ a4 then (
    lt_ (a3 + (1 : Int32)) fun b12 =>
    rec2 x8 a2 b12
  ) else (
    ck (inb a3 10) <|
    ck (inb a4 36) <|
    if (x8.1 (77 + a3.toNatClampNeg) a4.toNatClampNeg) = a2 then (
      some (a3, x8)
    ) else (
      lt_ (a4 + (1 : Int32)) fun b18 =>
      rec18 x8 a2 a3 b18
    )
  )
def fX5_holderOf_18 (F : Nat) (rec2 : HT → Int32 → Int32 → Option (Int32 × HT)) (j : Nat) : Nat → HT → Int32 → Int32 → Int32 → Option (Int32 × HT)
  | 0 => fun _ _ _ _ => none
  | n + 1 => fX5_holderOf_18b F rec2 (fX5_holderOf_18 F rec2 j n) j
def fX5_holderOf_2b (F : Nat) (rec2 : HT → Int32 → Int32 → Option (Int32 × HT)) (j : Nat) (x : HT) (a2 : Int32) (a3 : Int32) : Option (Int32 × HT) :=
  bd (fX2_worms F j x) fun r2 x1 =>
  if r2 ≤ a3 then (
    some ((-1 : Int32), x1)
  ) else (
    bd (fX5_tailOf F j x1 a3) fun r6 x5 =>
    fX5_holderOf_18 F rec2 j F x5 a2 a3 r6
  )
def fX5_holderOf_2 (F : Nat) (j : Nat) : Nat → HT → Int32 → Int32 → Option (Int32 × HT)
  | 0 => fun _ _ _ => none
  | n + 1 => fX5_holderOf_2b F (fX5_holderOf_2 F j n) j
def fX5_holderOf (F : Nat) (j : Nat) (x : HT) (a2 : Int32) : Option (Int32 × HT) :=
  fX5_holderOf_2 F j F x a2 (0 : Int32)
def fX6_holds (F : Nat) (x : HT) (a1 : Int32) (a2 : Int32) (a3 : Int32) : Option (Int32 × HT) :=
  bd (fX0_channelAt F x a1 a2 a3) fun r2 x1 =>
  if r2 = (-1 : Int32) then (
    bd (fX6_refuse F x1 (-2 : Int32)) fun r9 x8 =>
    some (r9, x8)
  ) else (
    bd (fX5_holderOf F 0 x1 r2) fun r6 x5 =>
    some (r6, x5)
  )
def fX6_hasWorm_21 (F : Nat) (x : HT) : Option (Int32 × HT) :=
  some ((0 : Int32), x)
def fX6_hasWorm (F : Nat) (x : HT) (a1 : Int32) (a2 : Int32) : Option (Int32 × HT) :=
  bd (fX6_hasMessage F x a1) fun r2 x1 =>
  if r2 = 0 then (
    fX6_hasWorm_21 F x1
  ) else (
    if a2 < 0 then (
      fX6_hasWorm_21 F x1
    ) else (
      if (2 : Int32) ≤ a2 then (
        fX6_hasWorm_21 F x1
      ) else (
        some ((1 : Int32), x1)
      )
    )
  )
def fX5_placeOf (F : Nat) (x : HT) (a1 : Int32) (a2 : Int32) : Option (Int32 × HT) :=
  ck (inb a1 10) <|
  ck (inb a2 36) <|
  some ((x.1 (67 + a1.toNatClampNeg) a2.toNatClampNeg), x)
def fX5_arrived_44 (F : Nat) (rec12 : HT → Int32 → Int64 → Int32 → Int32 → Option (Int32 × HT)) (j : Nat) (x : HT) (a2 : Int32) (a3 : Int64) (a5 : Int32) (a6 : Int32) : Option (Int32 × HT) :=
  lt_ (a6 + (1 : Int32)) fun b14 =>
  rec12 x a2 a3 a5 b14
def fX5_arrived_12b (F : Nat) (rec12 : HT → Int32 → Int64 → Int32 → Int32 → Option (Int32 × HT)) (j : Nat) (x : HT) (a2 : Int32) (a3 : Int64) (a5 : Int32) (a6 : Int32) : Option (Int32 × HT) :=
  bd (fX5_headOf F j x a2) fun r5 x4 =>
  if r5 < a6 then (
    some (a5, x4)
  ) else (
    ck (inb a2 10) <|
    ck (inb a6 36) <|
    if (lg_cmp ((a3 >>> ((x4.1 (67 + a2.toNatClampNeg) a6.toNatClampNeg).toInt64 &&& 63)) &&& (1 : Int64)) (0 : Int64)) = 0 then (
      fX5_arrived_44 F rec12 j x4 a2 a3 a5 a6
    ) else (
      lt_ (a5 + (1 : Int32)) fun b12 =>
      fX5_arrived_44 F rec12 j x4 a2 a3 b12 a6
    )
  )
def fX5_arrived_12 (F : Nat) (j : Nat) : Nat → HT → Int32 → Int64 → Int32 → Int32 → Option (Int32 × HT)
  | 0 => fun _ _ _ _ _ => none
  | n + 1 => fX5_arrived_12b F (fX5_arrived_12 F j n) j
def fX5_arrived (F : Nat) (j : Nat) (x : HT) (a2 : Int32) : Option (Int32 × HT) :=
  bd (fX2_goalsOfWorm F j x a2) fun r2 x1 =>
  fX5_arrived_12 F j F x1 a2 r2 (0 : Int32) (1 : Int32)
def fX5_channelsDown_35 (F : Nat) (rec5 : HT → Int32 → Int32 → Int32 → Option (Int32 × HT)) (j : Nat) (x : HT) (a2 : Int32) (a3 : Int32) (a4 : Int32) : Option (Int32 × HT) :=
  lt_ (a4 + (1 : Int32)) fun b12 =>
  rec5 x a2 a3 b12
def fX5_channelsDown_5b (F : Nat) (rec5 : HT → Int32 → Int32 → Int32 → Option (Int32 × HT)) (j : Nat) (x : HT) (a2 : Int32) (a3 : Int32) (a4 : Int32) : Option (Int32 × HT) :=
  ck (inb a2 10) <|
  if (x.1 64 a2.toNatClampNeg) ≤ a4 then (
    some (a3, x)
  ) else (
    ck (inb a2 10) <|
    ck (inb a4 36) <|
    bd (fX2_isDown F j x (x.1 (77 + a2.toNatClampNeg) a4.toNatClampNeg)) fun r7 x6 =>
    if r7 = 0 then (
      fX5_channelsDown_35 F rec5 j x6 a2 a3 a4
    ) else (
      lt_ (a3 + (1 : Int32)) fun b10 =>
      fX5_channelsDown_35 F rec5 j x6 a2 b10 a4
    )
  )
def fX5_channelsDown_5 (F : Nat) (j : Nat) : Nat → HT → Int32 → Int32 → Int32 → Option (Int32 × HT)
  | 0 => fun _ _ _ _ => none
  | n + 1 => fX5_channelsDown_5b F (fX5_channelsDown_5 F j n) j
def fX5_channelsDown (F : Nat) (j : Nat) (x : HT) (a2 : Int32) : Option (Int32 × HT) :=
  fX5_channelsDown_5 F j F x a2 (0 : Int32) (0 : Int32)
def fX6_wormFact (F : Nat) (x : HT) (a1 : Int32) (a2 : Int32) : Option (Int32 × HT) :=
  if a2 = (0 : Int32) then (
    bd (fX2_goalsOfWorm F 0 x a1) fun r3 x2 =>
    bd (fJ13_bitCount_95d88 F x2 r3) fun r6 x5 =>
    some (r6, x5)
  ) else (
  if a2 = (1 : Int32) then (
    bd (fX5_channelsOf F x a1) fun r10 x9 =>
    some (r10, x9)
  ) else (
  if a2 = (2 : Int32) then (
    ck (inb a1 10) <|
    some ((x.1 (7 * 0 + 6) a1.toNatClampNeg), x)
  ) else (
  if a2 = (3 : Int32) then (
    bd (fX5_headOf F 0 x a1) fun r16 x15 =>
    bd (fX5_placeOf F x15 a1 r16) fun r19 x18 =>
    bd (fX0_tell F x18 r19) fun r22 x21 =>
    some (r22, x21)
  ) else (
  if a2 = (4 : Int32) then (
    bd (fX5_arrived F 0 x a1) fun r26 x25 =>
    some (r26, x25)
  ) else (
  if a2 = (5 : Int32) then (
    ck (inb a1 10) <|
    some ((x.1 (7 * 0 + 7) a1.toNatClampNeg), x)
  ) else (
  if a2 = (6 : Int32) then (
    bd (fX5_isDone F 0 x a1) fun r32 x31 =>
    if r32 = 0 then (
      some ((0 : Int32), x31)
    ) else (
      some ((1 : Int32), x31)
    )
  ) else (
  if a2 = (7 : Int32) then (
    bd (fX5_headOf F 0 x a1) fun r37 x36 =>
    bd (fX5_tailOf F 0 x36 a1) fun r40 x39 =>
    some ((r37 - r40), x39)
  ) else (
  bd (fX5_channelsDown F 0 x a1) fun r43 x42 =>
  some (r43, x42)
  ))))))))
def fX6_worm_19 (F : Nat) (x : HT) : Option (Int32 × HT) :=
  bd (fX6_refuse F x (-2 : Int32)) fun r11 x10 =>
  some (r11, x10)
def fX6_worm (F : Nat) (x : HT) (a1 : Int32) (a2 : Int32) (a3 : Int32) : Option (Int32 × HT) :=
  bd (fX6_hasWorm F x a1 a2) fun r2 x1 =>
  if r2 = 0 then (
    fX6_worm_19 F x1
  ) else (
    if a3 < 0 then (
      fX6_worm_19 F x1
    ) else (
      if a3 < (9 : Int32) then (
        bd (fX6_wormFact F x1 ((a1 * (2 : Int32)) + a2) a3) fun r8 x7 =>
        some (r8, x7)
      ) else (
        fX6_worm_19 F x1
      )
    )
  )
def fX6_way_13 (F : Nat) (x : HT) : Option (Int32 × HT) :=
  bd (fX6_refuse F x (-2 : Int32)) fun r19 x18 =>
  some (r19, x18)
def fX6_way (F : Nat) (x : HT) (a1 : Int32) (a2 : Int32) (a3 : Int32) : Option (Int32 × HT) :=
  bd (fX6_hasWorm F x a1 a2) fun r2 x1 =>
  if r2 = 0 then (
    fX6_way_13 F x1
  ) else (
    if 0 ≤ a3 then (
      lt_ ((a1 * (2 : Int32)) + a2) fun b6 =>
      bd (fX5_channelsOf F x1 b6) fun r9 x8 =>
      if a3 ≤ r9 then (
        bd (fX5_placeOf F x8 b6 a3) fun r13 x12 =>
        bd (fX0_tell F x12 r13) fun r16 x15 =>
        some (r16, x15)
      ) else (
        some ((-1 : Int32), x8)
      )
    ) else (
      fX6_way_13 F x1
    )
  )
def fX5_goalOf_59 (F : Nat) (rec13 : HT → Int32 → Int32 → Int64 → Int32 → Int32 → Option (Int32 × HT)) (j : Nat) (x : HT) (a2 : Int32) (a3 : Int32) (a4 : Int64) (a6 : Int32) (a7 : Int32) : Option (Int32 × HT) :=
  lt_ (a7 + (1 : Int32)) fun b15 =>
  rec13 x a2 a3 a4 a6 b15
def fX5_goalOf_13b (F : Nat) (rec13 : HT → Int32 → Int32 → Int64 → Int32 → Int32 → Option (Int32 × HT)) (j : Nat) (x : HT) (a2 : Int32) (a3 : Int32) (a4 : Int64) (a6 : Int32) (a7 : Int32) : Option (Int32 × HT) :=
  ck (inb a2 10) <|
  if (x.1 64 a2.toNatClampNeg) < a7 then (
    some ((-1 : Int32), x)
  ) else (
    ck (inb a2 10) <|
    ck (inb a7 36) <|
    lt_ (x.1 (67 + a2.toNatClampNeg) a7.toNatClampNeg) fun b9 =>
    if (lg_cmp ((a4 >>> (b9.toInt64 &&& 63)) &&& (1 : Int64)) (0 : Int64)) = 0 then (
      fX5_goalOf_59 F rec13 j x a2 a3 a4 a6 a7
    ) else (
      if a6 = a3 then (
        some (b9, x)
      ) else (
        lt_ (a6 + (1 : Int32)) fun b13 =>
        fX5_goalOf_59 F rec13 j x a2 a3 a4 b13 a7
      )
    )
  )
def fX5_goalOf_13 (F : Nat) (j : Nat) : Nat → HT → Int32 → Int32 → Int64 → Int32 → Int32 → Option (Int32 × HT)
  | 0 => fun _ _ _ _ _ _ => none
  | n + 1 => fX5_goalOf_13b F (fX5_goalOf_13 F j n) j
def fX5_goalOf (F : Nat) (j : Nat) (x : HT) (a2 : Int32) (a3 : Int32) : Option (Int32 × HT) :=
  bd (fX2_goalsOfWorm F j x a2) fun r2 x1 =>
  fX5_goalOf_13 F j F x1 a2 a3 r2 (0 : Int32) (1 : Int32)
def fX6_goalAt_13 (F : Nat) (x : HT) : Option (Int32 × HT) :=
  bd (fX6_refuse F x (-2 : Int32)) fun r14 x13 =>
  some (r14, x13)
def fX6_goalAt (F : Nat) (x : HT) (a1 : Int32) (a2 : Int32) (a3 : Int32) : Option (Int32 × HT) :=
  bd (fX6_hasWorm F x a1 a2) fun r2 x1 =>
  if r2 = 0 then (
    fX6_goalAt_13 F x1
  ) else (
    if 0 ≤ a3 then (
      bd (fX5_goalOf F 0 x1 ((a1 * (2 : Int32)) + a2) a3) fun r7 x6 =>
      if r7 = (-1 : Int32) then (
        some ((-1 : Int32), x6)
      ) else (
        bd (fX0_tell F x6 r7) fun r11 x10 =>
        some (r11, x10)
      )
    ) else (
      fX6_goalAt_13 F x1
    )
  )
def fX0_xOf (F : Nat) (x : HT) (a1 : Int32) : Option (Int32 × HT) :=
  bd (fX0_hasLabel F x a1) fun r2 x1 =>
  if r2 = 0 then (
    some ((-1 : Int32), x1)
  ) else (
    ck (inb a1 36) <|
    some ((x1.1 60 a1.toNatClampNeg), x1)
  )
def fX0_yOf (F : Nat) (x : HT) (a1 : Int32) : Option (Int32 × HT) :=
  bd (fX0_hasLabel F x a1) fun r2 x1 =>
  if r2 = 0 then (
    some ((-1 : Int32), x1)
  ) else (
    ck (inb a1 36) <|
    some ((x1.1 61 a1.toNatClampNeg), x1)
  )
def fX6_straightWays_53 (F : Nat) (rec4 : HT → Int32 → Int32 → Int32 → Option (Int32 × HT)) (x : HT) (a1 : Int32) (a2 : Int32) (a3 : Int32) : Option (Int32 × HT) :=
  lt_ (a3 + (1 : Int32)) fun b13 =>
  rec4 x a1 a2 b13
def fX6_straightWays_4b (F : Nat) (rec4 : HT → Int32 → Int32 → Int32 → Option (Int32 × HT)) (x : HT) (a1 : Int32) (a2 : Int32) (a3 : Int32) : Option (Int32 × HT) :=
  bd (fX0_places F x) fun r2 x1 =>
  if r2 ≤ a3 then (
    some (a2, x1)
  ) else (
    ck (inb a1 5) <|
    if (lg_cmp (((x1.2 (7 * 0 + 5) a1.toNatClampNeg) >>> (a3.toInt64 &&& 63)) &&& (1 : Int64)) (0 : Int64)) = 0 then (
      fX6_straightWays_53 F rec4 x1 a1 a2 a3
    ) else (
      ck (inb a1 5) <|
      bd (fX0_distance F x1 (x1.1 (7 * 0 + 3) a1.toNatClampNeg) a3) fun r9 x8 =>
      lt_ (a2 + r9) fun b11 =>
      fX6_straightWays_53 F rec4 x8 a1 b11 a3
    )
  )
def fX6_straightWays_4 (F : Nat) : Nat → HT → Int32 → Int32 → Int32 → Option (Int32 × HT)
  | 0 => fun _ _ _ _ => none
  | n + 1 => fX6_straightWays_4b F (fX6_straightWays_4 F n)
def fX6_straightWays (F : Nat) (x : HT) (a1 : Int32) : Option (Int32 × HT) :=
  fX6_straightWays_4 F F x a1 (0 : Int32) (0 : Int32)
def fX6_messageFact (F : Nat) (x : HT) (a1 : Int32) (a2 : Int32) : Option (Int32 × HT) :=
  if a2 = (0 : Int32) then (
    ck (inb a1 5) <|
    bd (fX0_xOf F x (x.1 (7 * 0 + 3) a1.toNatClampNeg)) fun r4 x3 =>
    some (r4, x3)
  ) else (
  if a2 = (1 : Int32) then (
    ck (inb a1 5) <|
    bd (fX0_yOf F x (x.1 (7 * 0 + 3) a1.toNatClampNeg)) fun r9 x8 =>
    some (r9, x8)
  ) else (
  if a2 = (2 : Int32) then (
    ck (inb a1 5) <|
    some ((x.1 (7 * 0 + 4) a1.toNatClampNeg), x)
  ) else (
  if a2 = (3 : Int32) then (
    ck (inb a1 5) <|
    bd (fJ13_bitCount_95d88 F x (x.2 (7 * 0 + 5) a1.toNatClampNeg)) fun r16 x15 =>
    some (r16, x15)
  ) else (
  if a2 = (4 : Int32) then (
    bd (fX5_channelsOf F x (a1 * (2 : Int32))) fun r20 x19 =>
    bd (fX5_channelsOf F x19 ((a1 * (2 : Int32)) + (1 : Int32))) fun r23 x22 =>
    some ((r20 + r23), x22)
  ) else (
  bd (fX6_straightWays F x a1) fun r26 x25 =>
  some (r26, x25)
  )))))
def fX6_of_18 (F : Nat) (x : HT) : Option (Int32 × HT) :=
  bd (fX6_refuse F x (-2 : Int32)) fun r11 x10 =>
  some (r11, x10)
def fX6_of (F : Nat) (x : HT) (a1 : Int32) (a2 : Int32) : Option (Int32 × HT) :=
  bd (fX6_hasMessage F x a1) fun r2 x1 =>
  if r2 = 0 then (
    fX6_of_18 F x1
  ) else (
    if a2 < 0 then (
      fX6_of_18 F x1
    ) else (
      if a2 < (6 : Int32) then (
        bd (fX6_messageFact F x1 a1 a2) fun r8 x7 =>
        some (r8, x7)
      ) else (
        fX6_of_18 F x1
      )
    )
  )
def fX6_stepsUntilDone_28b (F : Nat) (rec28 : HT → Int32 → Int32 → Option (Int32 × HT)) (x : HT) (a1 : Int32) (a2 : Int32) : Option (Int32 × HT) :=
  if (400 : Int32) < a2 then (
    some ((-1 : Int32), x)
  ) else (
    bd (fX5_undone F 2 x a1) fun r9 x8 =>
    if r9 = 0 then (
      some (a2, x8)
    ) else (
      bd (fX4_stepOnce F 2 x8) fun r13 x12 =>
      if r13 = 0 then (
        some ((-1 : Int32), x12)
      ) else (
        lt_ (a2 + (1 : Int32)) fun b16 =>
        rec28 x12 a1 b16
      )
    )
  )
def fX6_stepsUntilDone_28 (F : Nat) : Nat → HT → Int32 → Int32 → Option (Int32 × HT)
  | 0 => fun _ _ _ => none
  | n + 1 => fX6_stepsUntilDone_28b F (fX6_stepsUntilDone_28 F n)
def fX6_stepsUntilDone (F : Nat) (x : HT) (a1 : Int32) : Option (Int32 × HT) :=
  bd (fX2_copyFrom F 2 0 x) fun r2 x1 =>
  bd (fX4_enter F 2 x1) fun r5 x4 =>
  fX6_stepsUntilDone_28 F F x4 a1 (0 : Int32)
def fX6_when_13 (F : Nat) (x : HT) (a1 : Int32) : Option (Int32 × HT) :=
  bd (fX6_stepsUntilDone F x a1) fun r10 x9 =>
  some (r10, x9)
def fX6_when (F : Nat) (x : HT) (a1 : Int32) : Option (Int32 × HT) :=
  if a1 = (-1 : Int32) then (
    fX6_when_13 F x a1
  ) else (
    bd (fX6_hasMessage F x a1) fun r3 x2 =>
    if r3 = 0 then (
      bd (fX6_refuse F x2 (-2 : Int32)) fun r7 x6 =>
      some (r7, x6)
    ) else (
      fX6_when_13 F x2 a1
    )
  )
def fX2_channelsDown_4b (F : Nat) (rec4 : HT → Int32 → Int32 → Option (Int32 × HT)) (j : Nat) (x : HT) (a1 : Int32) (a2 : Int32) : Option (Int32 × HT) :=
  if (36 : Int32) ≤ a2 then (
    some (a1, x)
  ) else (
    ck (inb a2 36) <|
    bd (fJ6_bitCount_0f7a4 F x (x.1 (7 * j + 2) a2.toNatClampNeg)) fun r4 x3 =>
    lt_ (a1 + r4) fun b6 =>
    lt_ (a2 + (1 : Int32)) fun b8 =>
    rec4 x3 b6 b8
  )
def fX2_channelsDown_4 (F : Nat) (j : Nat) : Nat → HT → Int32 → Int32 → Option (Int32 × HT)
  | 0 => fun _ _ _ => none
  | n + 1 => fX2_channelsDown_4b F (fX2_channelsDown_4 F j n) j
def fX2_channelsDown (F : Nat) (j : Nat) (x : HT) : Option (Int32 × HT) :=
  fX2_channelsDown_4 F j F x (0 : Int32) (0 : Int32)
def fX5_channelsHeld_4b (F : Nat) (rec4 : HT → Int32 → Int32 → Option (Int32 × HT)) (j : Nat) (x : HT) (a2 : Int32) (a3 : Int32) : Option (Int32 × HT) :=
  bd (fX2_worms F j x) fun r2 x1 =>
  if r2 ≤ a3 then (
    some (a2, x1)
  ) else (
    bd (fX5_headOf F j x1 a3) fun r6 x5 =>
    bd (fX5_tailOf F j x5 a3) fun r9 x8 =>
    lt_ (a2 + (r6 - r9)) fun b11 =>
    lt_ (a3 + (1 : Int32)) fun b13 =>
    rec4 x8 b11 b13
  )
def fX5_channelsHeld_4 (F : Nat) (j : Nat) : Nat → HT → Int32 → Int32 → Option (Int32 × HT)
  | 0 => fun _ _ _ => none
  | n + 1 => fX5_channelsHeld_4b F (fX5_channelsHeld_4 F j n) j
def fX5_channelsHeld (F : Nat) (j : Nat) (x : HT) : Option (Int32 × HT) :=
  fX5_channelsHeld_4 F j F x (0 : Int32) (0 : Int32)
def fX2_waitedInAll_4b (F : Nat) (rec4 : HT → Int32 → Int32 → Option (Int32 × HT)) (j : Nat) (x : HT) (a1 : Int32) (a2 : Int32) : Option (Int32 × HT) :=
  bd (fX2_worms F j x) fun r2 x1 =>
  if r2 ≤ a2 then (
    some (a1, x1)
  ) else (
    ck (inb a2 10) <|
    lt_ (a1 + (x1.1 (7 * j + 7) a2.toNatClampNeg)) fun b6 =>
    lt_ (a2 + (1 : Int32)) fun b8 =>
    rec4 x1 b6 b8
  )
def fX2_waitedInAll_4 (F : Nat) (j : Nat) : Nat → HT → Int32 → Int32 → Option (Int32 × HT)
  | 0 => fun _ _ _ => none
  | n + 1 => fX2_waitedInAll_4b F (fX2_waitedInAll_4 F j n) j
def fX2_waitedInAll (F : Nat) (j : Nat) (x : HT) : Option (Int32 × HT) :=
  fX2_waitedInAll_4 F j F x (0 : Int32) (0 : Int32)
def fX6_messagesDone_33 (F : Nat) (rec4 : HT → Int32 → Int32 → Option (Int32 × HT)) (x : HT) (a1 : Int32) (a2 : Int32) : Option (Int32 × HT) :=
  lt_ (a2 + (1 : Int32)) fun b8 =>
  rec4 x a1 b8
def fX6_messagesDone_4b (F : Nat) (rec4 : HT → Int32 → Int32 → Option (Int32 × HT)) (x : HT) (a1 : Int32) (a2 : Int32) : Option (Int32 × HT) :=
  if (x.1 (7 * 0 + 1) 3) ≤ a2 then (
    some (a1, x)
  ) else (
    bd (fX5_undone F 0 x a2) fun r3 x2 =>
    if r3 = 0 then (
      lt_ (a1 + (1 : Int32)) fun b6 =>
      fX6_messagesDone_33 F rec4 x2 b6 a2
    ) else (
      fX6_messagesDone_33 F rec4 x2 a1 a2
    )
  )
def fX6_messagesDone_4 (F : Nat) : Nat → HT → Int32 → Int32 → Option (Int32 × HT)
  | 0 => fun _ _ _ => none
  | n + 1 => fX6_messagesDone_4b F (fX6_messagesDone_4 F n)
def fX6_messagesDone (F : Nat) (x : HT) : Option (Int32 × HT) :=
  fX6_messagesDone_4 F F x (0 : Int32) (0 : Int32)
def fX6_countFact (F : Nat) (x : HT) (a1 : Int32) : Option (Int32 × HT) :=
  if a1 = (0 : Int32) then (
    some ((x.1 (7 * 0 + 1) 0), x)
  ) else (
  if a1 = (1 : Int32) then (
    some ((x.1 (7 * 0 + 1) 1), x)
  ) else (
  if a1 = (2 : Int32) then (
    some ((x.1 (7 * 0 + 1) 3), x)
  ) else (
  if a1 = (3 : Int32) then (
    some ((x.1 (7 * 0 + 1) 2), x)
  ) else (
  if a1 = (4 : Int32) then (
    bd (fX2_channelsDown F 0 x) fun r7 x6 =>
    some (r7, x6)
  ) else (
  if a1 = (5 : Int32) then (
    bd (fX5_channelsHeld F 0 x) fun r11 x10 =>
    some (r11, x10)
  ) else (
  if a1 = (6 : Int32) then (
    bd (fX2_waitedInAll F 0 x) fun r15 x14 =>
    some (r15, x14)
  ) else (
  bd (fX6_messagesDone F x) fun r18 x17 =>
  some (r18, x17)
  )))))))
def fX6_count_10 (F : Nat) (x : HT) : Option (Int32 × HT) :=
  bd (fX6_refuse F x (-2 : Int32)) fun r7 x6 =>
  some (r7, x6)
def fX6_count (F : Nat) (x : HT) (a1 : Int32) : Option (Int32 × HT) :=
  if a1 < 0 then (
    fX6_count_10 F x
  ) else (
    if a1 < (8 : Int32) then (
      bd (fX6_countFact F x a1) fun r4 x3 =>
      some (r4, x3)
    ) else (
      fX6_count_10 F x
    )
  )
def fX3_add (F : Nat) (x : HT) (a1 : Int32) : Option (Int32 × HT) :=
  if (x.1 89 1) < (120 : Int32) then (
    ck (inb (x.1 89 1) 120) <|
    lt_ (sI x 90 (x.1 89 1).toNatClampNeg a1) fun x3 =>
    lt_ (sI x3 89 1 ((x3.1 89 1) + (1 : Int32))) fun x5 =>
    some ((1 : Int32), x5)
  ) else (
    some ((0 : Int32), x)
  )
def fX3_size (F : Nat) (x : HT) : Option (Int32 × HT) :=
  some ((x.1 89 1), x)
def fX6_type_10 (F : Nat) (x : HT) : Option (Int32 × HT) :=
  bd (fX6_refuse F x (-2 : Int32)) fun r14 x13 =>
  some (r14, x13)
def fX6_type (F : Nat) (x : HT) (a1 : Int32) : Option (Int32 × HT) :=
  if a1 < 0 then (
    fX6_type_10 F x
  ) else (
    if a1 ≤ (127 : Int32) then (
      bd (fX3_add F x a1) fun r4 x3 =>
      if r4 = 0 then (
        bd (fX6_refuse F x3 (-4 : Int32)) fun r8 x7 =>
        some (r8, x7)
      ) else (
        bd (fX3_size F x3) fun r11 x10 =>
        some (r11, x10)
      )
    ) else (
      fX6_type_10 F x
    )
  )
def fX3_empty (F : Nat) (x : HT) : Option (Int32 × HT) :=
  lt_ (x.1 89 1) fun b1 =>
  lt_ (sI x 89 1 (0 : Int32)) fun x3 =>
  some (b1, x3)
def fX6_clear (F : Nat) (x : HT) : Option (Int32 × HT) :=
  bd (fX3_empty F x) fun r2 x1 =>
  some (r2, x1)
def fX3_passBlanks_0b (F : Nat) (rec0 : HT → Option (Unit × HT)) (x : HT) : Option (Unit × HT) :=
  if (x.1 89 1) ≤ (x.1 89 5) then (
    some ((), x)
  ) else (
    ck (inb (x.1 89 5) 120) <|
    if (x.1 90 (x.1 89 5).toNatClampNeg) = (32 : Int32) then (
      lt_ (sI x 89 5 ((x.1 89 5) + (1 : Int32))) fun x4 =>
      rec0 x4
    ) else (
      some ((), x)
    )
  )
def fX3_passBlanks_0 (F : Nat) : Nat → HT → Option (Unit × HT)
  | 0 => fun _ => none
  | n + 1 => fX3_passBlanks_0b F (fX3_passBlanks_0 F n)
def fX3_passBlanks (F : Nat) (x : HT) : Option (Unit × HT) :=
  fX3_passBlanks_0 F F x
def fX3_byteHere (F : Nat) (x : HT) : Option (Int32 × HT) :=
  if (x.1 89 1) ≤ (x.1 89 5) then (
    some ((-1 : Int32), x)
  ) else (
    ck (inb (x.1 89 5) 120) <|
    some ((x.1 90 (x.1 89 5).toNatClampNeg), x)
  )
def fX3_numbersDue (F : Nat) (x : HT) (a0 : Int32) : Option (Int32 × HT) :=
  if a0 = (97 : Int32) then (
    some ((0 : Int32), x)
  ) else (
  if a0 = (103 : Int32) then (
    some ((3 : Int32), x)
  ) else (
  if a0 = (107 : Int32) then (
    some ((1 : Int32), x)
  ) else (
  if a0 = (109 : Int32) then (
    some ((3 : Int32), x)
  ) else (
  if a0 = (116 : Int32) then (
    some ((3 : Int32), x)
  ) else (
  if a0 = (119 : Int32) then (
    some ((2 : Int32), x)
  ) else (
  some ((-1 : Int32), x)
  ))))))
def fX3_isFigure_16 (F : Nat) (x : HT) : Option (Int32 × HT) :=
  some ((0 : Int32), x)
def fX3_isFigure (F : Nat) (x : HT) (a0 : Int32) : Option (Int32 × HT) :=
  if a0 < (48 : Int32) then (
    fX3_isFigure_16 F x
  ) else (
    if (57 : Int32) < a0 then (
      fX3_isFigure_16 F x
    ) else (
      some ((1 : Int32), x)
    )
  )
def fX3_readNumber_73 (F : Nat) (x : HT) : Option (Int32 × HT) :=
  some ((0 : Int32), x)
def fX3_readNumber_48 (F : Nat) (x : HT) (a1 : Int32) (a2 : Int32) (a3 : Int32) : Option (Int32 × HT) :=
  ck (inb a1 180) <|
  lt_ (sI x 92 a1.toNatClampNeg a3) fun x19 =>
  if a2 ≤ 0 then (
    fX3_readNumber_73 F x19
  ) else (
    bd (fX3_byteHere F x19) fun r23 x22 =>
    bd (fX3_isFigure F x22 r23) fun r26 x25 =>
    if r26 = 0 then (
      some ((1 : Int32), x25)
    ) else (
      fX3_readNumber_73 F x25
    )
  )
def fX3_readNumber_4b (F : Nat) (rec4 : HT → Int32 → Int32 → Int32 → Option (Int32 × HT)) (x : HT) (a1 : Int32) (a2 : Int32) (a3 : Int32) : Option (Int32 × HT) :=
  if (3 : Int32) ≤ a2 then (
    fX3_readNumber_48 F x a1 a2 a3
  ) else (
    bd (fX3_byteHere F x) fun r3 x2 =>
    bd (fX3_isFigure F x2 r3) fun r6 x5 =>
    if r6 = 0 then (
      fX3_readNumber_48 F x5 a1 a2 a3
    ) else (
      bd (fX3_byteHere F x5) fun r10 x9 =>
      lt_ ((((10 : Int32) * a3) + r10) - (48 : Int32)) fun b12 =>
      lt_ (a2 + (1 : Int32)) fun b14 =>
      lt_ (sI x9 89 5 ((x9.1 89 5) + (1 : Int32))) fun x16 =>
      rec4 x16 a1 b14 b12
    )
  )
def fX3_readNumber_4 (F : Nat) : Nat → HT → Int32 → Int32 → Int32 → Option (Int32 × HT)
  | 0 => fun _ _ _ _ => none
  | n + 1 => fX3_readNumber_4b F (fX3_readNumber_4 F n)
def fX3_readNumber (F : Nat) (x : HT) (a1 : Int32) : Option (Int32 × HT) :=
  fX3_readNumber_4 F F x a1 (0 : Int32) (0 : Int32)
def fX3_readOrder_66b (F : Nat) (rec66 : HT → Int32 → Int32 → Option (Int32 × HT)) (x : HT) (a2 : Int32) (a3 : Int32) : Option (Int32 × HT) :=
  if a2 ≤ a3 then (
    bd (fX3_passBlanks F x) fun r21 x20 =>
    bd (fX3_byteHere F x20) fun r24 x23 =>
    if r24 = (59 : Int32) then (
      lt_ (sI x23 89 5 ((x23.1 89 5) + (1 : Int32))) fun x27 =>
      some ((1 : Int32), x27)
    ) else (
      some ((0 : Int32), x23)
    )
  ) else (
    bd (fX3_passBlanks F x) fun r30 x29 =>
    bd (fX3_readNumber F x29 (((x29.1 89 4) * (3 : Int32)) + a3)) fun r33 x32 =>
    if r33 = 0 then (
      some ((0 : Int32), x32)
    ) else (
      lt_ (a3 + (1 : Int32)) fun b36 =>
      rec66 x32 a2 b36
    )
  )
def fX3_readOrder_66 (F : Nat) : Nat → HT → Int32 → Int32 → Option (Int32 × HT)
  | 0 => fun _ _ _ => none
  | n + 1 => fX3_readOrder_66b F (fX3_readOrder_66 F n)
def fX3_readOrder_39b (F : Nat) (rec39 : HT → Int32 → Int32 → Option (Int32 × HT)) (x : HT) (a2 : Int32) (a3 : Int32) : Option (Int32 × HT) :=
  if (3 : Int32) ≤ a3 then (
    fX3_readOrder_66 F F x a2 (0 : Int32)
  ) else (
    ck (inb (((x.1 89 4) * (3 : Int32)) + a3) 180) <|
    lt_ (sI x 92 (((x.1 89 4) * (3 : Int32)) + a3).toNatClampNeg (0 : Int32)) fun x15 =>
    lt_ (a3 + (1 : Int32)) fun b17 =>
    rec39 x15 a2 b17
  )
def fX3_readOrder_39 (F : Nat) : Nat → HT → Int32 → Int32 → Option (Int32 × HT)
  | 0 => fun _ _ _ => none
  | n + 1 => fX3_readOrder_39b F (fX3_readOrder_39 F n)
def fX3_readOrder (F : Nat) (x : HT) : Option (Int32 × HT) :=
  bd (fX3_byteHere F x) fun r2 x1 =>
  bd (fX3_numbersDue F x1 r2) fun r5 x4 =>
  if r5 = (-1 : Int32) then (
    some ((0 : Int32), x4)
  ) else (
    ck (inb (x4.1 89 4) 60) <|
    lt_ (sI x4 91 (x4.1 89 4).toNatClampNeg r2) fun x9 =>
    lt_ (sI x9 89 5 ((x9.1 89 5) + (1 : Int32))) fun x11 =>
    fX3_readOrder_39 F F x11 r5 (0 : Int32)
  )
def fX3_read_70 (F : Nat) (x : HT) : Option (Int32 × HT) :=
  some ((-1 : Int32), x)
def fX3_read_41 (F : Nat) (rec14 : HT → Option (Int32 × HT)) (x : HT) : Option (Int32 × HT) :=
  bd (fX3_readOrder F x) fun r12 x11 =>
  if r12 = 0 then (
    some ((x11.1 89 5), x11)
  ) else (
    lt_ (sI x11 89 4 ((x11.1 89 4) + (1 : Int32))) fun x15 =>
    bd (fX3_passBlanks F x15) fun r18 x17 =>
    rec14 x17
  )
def fX3_read_14b (F : Nat) (rec14 : HT → Option (Int32 × HT)) (x : HT) : Option (Int32 × HT) :=
  if (60 : Int32) ≤ (x.1 89 4) then (
    fX3_read_70 F x
  ) else (
    if (x.1 89 5) < (x.1 89 1) then (
      fX3_read_41 F rec14 x
    ) else (
      if (x.1 89 4) = 0 then (
        fX3_read_41 F rec14 x
      ) else (
        fX3_read_70 F x
      )
    )
  )
def fX3_read_14 (F : Nat) : Nat → HT → Option (Int32 × HT)
  | 0 => fun _ => none
  | n + 1 => fX3_read_14b F (fX3_read_14 F n)
def fX3_read (F : Nat) (x : HT) : Option (Int32 × HT) :=
  lt_ (sI x 89 4 (0 : Int32)) fun x1 =>
  lt_ (sI x1 89 5 (0 : Int32)) fun x3 =>
  bd (fX3_passBlanks F x3) fun r6 x5 =>
  fX3_read_14 F F x5
def fX3_orders (F : Nat) (x : HT) : Option (Int32 × HT) :=
  some ((x.1 89 4), x)
def fX3_letterOf (F : Nat) (x : HT) (a1 : Int32) : Option (Int32 × HT) :=
  ck (inb a1 60) <|
  some ((x.1 91 a1.toNatClampNeg), x)
def fX3_numberOf (F : Nat) (x : HT) (a1 : Int32) (a2 : Int32) : Option (Int32 × HT) :=
  ck (inb ((a1 * (3 : Int32)) + a2) 180) <|
  some ((x.1 92 ((a1 * (3 : Int32)) + a2).toNatClampNeg), x)
def fX6_perform (F : Nat) (x : HT) (a1 : Int32) (a2 : Int32) (a3 : Int32) (a4 : Int32) : Option (Int32 × HT) :=
  if a1 = (97 : Int32) then (
    bd (fX6_startAgain F x) fun r3 x2 =>
    some (r3, x2)
  ) else (
  if a1 = (103 : Int32) then (
    bd (fX6_turnGoal F x a2 a3 a4) fun r7 x6 =>
    some (r7, x6)
  ) else (
  if a1 = (107 : Int32) then (
    bd (fX6_goSteps F x a2) fun r11 x10 =>
    some (r11, x10)
  ) else (
  if a1 = (109 : Int32) then (
    bd (fX6_addMessage F x a2 a3 a4) fun r15 x14 =>
    some (r15, x14)
  ) else (
  if a1 = (116 : Int32) then (
    bd (fX6_turnChannel F x a2 a3 a4) fun r19 x18 =>
    some (r19, x18)
  ) else (
  if a1 = (119 : Int32) then (
    bd (fX6_makeMesh F x a2 a3) fun r23 x22 =>
    some (r23, x22)
  ) else (
  some ((-2 : Int32), x)
  ))))))
def fX6_layAll_23b (F : Nat) (rec23 : HT → Int32 → Option (Unit × HT)) (x : HT) (a1 : Int32) : Option (Unit × HT) :=
  if (x.1 (7 * 0 + 1) 3) ≤ a1 then (
    some ((), x)
  ) else (
    bd (fX6_layMessage F x a1) fun r6 x5 =>
    lt_ (a1 + (1 : Int32)) fun b8 =>
    rec23 x5 b8
  )
def fX6_layAll_23 (F : Nat) : Nat → HT → Int32 → Option (Unit × HT)
  | 0 => fun _ _ => none
  | n + 1 => fX6_layAll_23b F (fX6_layAll_23 F n)
def fX6_layAll (F : Nat) (x : HT) : Option (Unit × HT) :=
  bd (fX0_lay F x (x.1 (7 * 0 + 1) 0) (x.1 (7 * 0 + 1) 1)) fun r2 x1 =>
  fX6_layAll_23 F F x1 (0 : Int32)
def fX6_does_31b (F : Nat) (rec31 : HT → Int32 → Option (Int32 × HT)) (x : HT) (a2 : Int32) : Option (Int32 × HT) :=
  bd (fX3_orders F x) fun r9 x8 =>
  if r9 ≤ a2 then (
    bd (fX1_push F 1 x8) fun r13 x12 =>
    bd (fX3_orders F x12) fun r16 x15 =>
    some (r16, x15)
  ) else (
    bd (fX3_letterOf F x8 a2) fun r19 x18 =>
    bd (fX3_numberOf F x18 a2 (0 : Int32)) fun r22 x21 =>
    bd (fX3_numberOf F x21 a2 (1 : Int32)) fun r25 x24 =>
    bd (fX3_numberOf F x24 a2 (2 : Int32)) fun r28 x27 =>
    bd (fX6_perform F x27 r19 r22 r25 r28) fun r31 x30 =>
    if 0 ≤ r31 then (
      lt_ (a2 + (1 : Int32)) fun b34 =>
      rec31 x30 b34
    ) else (
      bd (fX2_copyFrom F 0 1 x30) fun r37 x36 =>
      bd (fX6_layAll F x36) fun r40 x39 =>
      some (((-1000 : Int32) - a2), x39)
    )
  )
def fX6_does_31 (F : Nat) : Nat → HT → Int32 → Option (Int32 × HT)
  | 0 => fun _ _ => none
  | n + 1 => fX6_does_31b F (fX6_does_31 F n)
def fX6_does (F : Nat) (x : HT) : Option (Int32 × HT) :=
  bd (fX3_read F x) fun r2 x1 =>
  if r2 = (-1 : Int32) then (
    bd (fX2_copyFrom F 1 0 x1) fun r6 x5 =>
    fX6_does_31 F F x5 (0 : Int32)
  ) else (
    some (((-10 : Int32) - r2), x1)
  )
def fX1_popInto_27 (F : Nat) (j : Nat) (x : HT) (t0 : Int32) : Option (Int32 × HT) :=
  lt_ (sI x 57 1 t0) fun x3 =>
  lt_ (sI x3 57 2 ((x3.1 57 2) - (1 : Int32))) fun x5 =>
  ck (inb (x5.1 57 1) 5) <|
  bd (fX2_copyFrom F j (3 + (x5.1 57 1).toNatClampNeg) x5) fun r10 x9 =>
  some ((1 : Int32), x9)
def fX1_popInto (F : Nat) (j : Nat) (x : HT) : Option (Int32 × HT) :=
  if (x.1 57 2) = 0 then (
    some ((0 : Int32), x)
  ) else (
    if (x.1 57 1) ≤ 0 then (
      fX1_popInto_27 F j x (4 : Int32)
    ) else (
      fX1_popInto_27 F j x ((x.1 57 1) - (1 : Int32))
    )
  )
def fX1_size (F : Nat) (x : HT) : Option (Int32 × HT) :=
  some ((x.1 57 2), x)
def fX6_back (F : Nat) (x : HT) : Option (Int32 × HT) :=
  bd (fX1_popInto F 0 x) fun r2 x1 =>
  if r2 = 0 then (
    bd (fX6_refuse F x1 (-3 : Int32)) fun r12 x11 =>
    some (r12, x11)
  ) else (
    bd (fX6_layAll F x1) fun r6 x5 =>
    bd (fX1_size F x5) fun r9 x8 =>
    some (r9, x8)
  )
def fX6_toldFact (F : Nat) (x : HT) (a1 : Int32) : Option (Int32 × HT) :=
  if a1 = (0 : Int32) then (
    some ((x.1 0 8), x)
  ) else (
  if a1 = (1 : Int32) then (
    some ((x.1 0 9), x)
  ) else (
  if a1 = (2 : Int32) then (
    some ((x.1 0 10), x)
  ) else (
  if a1 = (3 : Int32) then (
    bd (fX3_size F x) fun r6 x5 =>
    some (r6, x5)
  ) else (
  bd (fX1_size F x) fun r9 x8 =>
  some (r9, x8)
  ))))
def fX6_told_9 (F : Nat) (x : HT) : Option (Int32 × HT) :=
  bd (fX6_refuse F x (-2 : Int32)) fun r7 x6 =>
  some (r7, x6)
def fX6_told (F : Nat) (x : HT) (a1 : Int32) : Option (Int32 × HT) :=
  if a1 < 0 then (
    fX6_told_9 F x
  ) else (
    if a1 < (5 : Int32) then (
      bd (fX6_toldFact F x a1) fun r4 x3 =>
      some (r4, x3)
    ) else (
      fX6_told_9 F x
    )
  )
def fX6_digestMessage_88b (F : Nat) (rec41 : HT → Int32 → Int64 → Int32 → Option (Int64 × HT)) (rec88 : HT → Int32 → Int64 → Int32 → Int32 → Option (Int64 × HT)) (x : HT) (a3 : Int32) (a4 : Int64) (a6 : Int32) (a7 : Int32) : Option (Int64 × HT) :=
  bd (fX5_channelsOf F x a6) fun r21 x20 =>
  if r21 < a7 then (
    lt_ (a6 + (1 : Int32)) fun b24 =>
    rec41 x20 a3 a4 b24
  ) else (
    bd (fX5_placeOf F x20 a6 a7) fun r27 x26 =>
    bd (fX0_tell F x26 r27) fun r30 x29 =>
    lt_ (((31 : Int64) * a4) + r30.toInt64) fun b32 =>
    lt_ (a7 + (1 : Int32)) fun b34 =>
    rec88 x29 a3 b32 a6 b34
  )
def fX6_digestMessage_88 (F : Nat) (rec41 : HT → Int32 → Int64 → Int32 → Option (Int64 × HT)) : Nat → HT → Int32 → Int64 → Int32 → Int32 → Option (Int64 × HT)
  | 0 => fun _ _ _ _ _ => none
  | n + 1 => fX6_digestMessage_88b F rec41 (fX6_digestMessage_88 F rec41 n)
def fX6_digestMessage_54b (F : Nat) (rec41 : HT → Int32 → Int64 → Int32 → Option (Int64 × HT)) (rec54 : HT → Int32 → Int64 → Int32 → Int32 → Option (Int64 × HT)) (x : HT) (a3 : Int32) (a4 : Int64) (a6 : Int32) (a7 : Int32) : Option (Int64 × HT) :=
  if (9 : Int32) ≤ a7 then (
    fX6_digestMessage_88 F rec41 F x a3 a4 a6 (0 : Int32)
  ) else (
    bd (fX6_wormFact F x a6 a7) fun r14 x13 =>
    lt_ (((31 : Int64) * a4) + r14.toInt64) fun b16 =>
    lt_ (a7 + (1 : Int32)) fun b18 =>
    rec54 x13 a3 b16 a6 b18
  )
def fX6_digestMessage_54 (F : Nat) (rec41 : HT → Int32 → Int64 → Int32 → Option (Int64 × HT)) : Nat → HT → Int32 → Int64 → Int32 → Int32 → Option (Int64 × HT)
  | 0 => fun _ _ _ _ _ => none
  | n + 1 => fX6_digestMessage_54b F rec41 (fX6_digestMessage_54 F rec41 n)
def fX6_digestMessage_41b (F : Nat) (rec41 : HT → Int32 → Int64 → Int32 → Option (Int64 × HT)) (x : HT) (a3 : Int32) (a4 : Int64) (a6 : Int32) : Option (Int64 × HT) :=
  if ((a3 * (2 : Int32)) + (2 : Int32)) ≤ a6 then (
    some (a4, x)
  ) else (
    fX6_digestMessage_54 F rec41 F x a3 a4 a6 (0 : Int32)
  )
def fX6_digestMessage_41 (F : Nat) : Nat → HT → Int32 → Int64 → Int32 → Option (Int64 × HT)
  | 0 => fun _ _ _ _ => none
  | n + 1 => fX6_digestMessage_41b F (fX6_digestMessage_41 F n)
def fX6_digestMessage_6b (F : Nat) (rec6 : HT → Int32 → Int64 → Int32 → Option (Int64 × HT)) (x : HT) (a3 : Int32) (a4 : Int64) (a6 : Int32) : Option (Int64 × HT) :=
  if (6 : Int32) ≤ a6 then (
    lt_ (a3 * (2 : Int32)) fun b2 =>
    fX6_digestMessage_41 F F x a3 a4 b2
  ) else (
    bd (fX6_messageFact F x a3 a6) fun r5 x4 =>
    lt_ (((31 : Int64) * a4) + r5.toInt64) fun b7 =>
    lt_ (a6 + (1 : Int32)) fun b9 =>
    rec6 x4 a3 b7 b9
  )
def fX6_digestMessage_6 (F : Nat) : Nat → HT → Int32 → Int64 → Int32 → Option (Int64 × HT)
  | 0 => fun _ _ _ _ => none
  | n + 1 => fX6_digestMessage_6b F (fX6_digestMessage_6 F n)
def fX6_digestMessage (F : Nat) (x : HT) (a1 : Int64) (a3 : Int32) : Option (Int64 × HT) :=
  fX6_digestMessage_6 F F x a3 a1 (0 : Int32)
def fX6_digest_104b (F : Nat) (rec104 : HT → Int64 → Int32 → Option (Int64 × HT)) (x : HT) (a1 : Int64) (a3 : Int32) : Option (Int64 × HT) :=
  if (x.1 (7 * 0 + 1) 3) ≤ a3 then (
    bd (fX6_stepsUntilDone F x (-1 : Int32)) fun r31 x30 =>
    some ((((31 : Int64) * a1) + r31.toInt64), x30)
  ) else (
    bd (fX6_digestMessage F x a1 a3) fun r34 x33 =>
    lt_ (a3 + (1 : Int32)) fun b36 =>
    rec104 x33 r34 b36
  )
def fX6_digest_104 (F : Nat) : Nat → HT → Int64 → Int32 → Option (Int64 × HT)
  | 0 => fun _ _ _ => none
  | n + 1 => fX6_digest_104b F (fX6_digest_104 F n)
def fX6_digest_93 (F : Nat) (rec59 : HT → Int64 → Int32 → Option (Int64 × HT)) (x : HT) (a3 : Int32) (t0 : Int64) (t1 : Int32) : Option (Int64 × HT) :=
  lt_ (t0 + t1.toInt64) fun b25 =>
  lt_ (a3 + (1 : Int32)) fun b27 =>
  rec59 x b25 b27
def fX6_digest_59b (F : Nat) (rec59 : HT → Int64 → Int32 → Option (Int64 × HT)) (x : HT) (a1 : Int64) (a3 : Int32) : Option (Int64 × HT) :=
  bd (fX0_places F x) fun r18 x17 =>
  if (r18 * (4 : Int32)) ≤ a3 then (
    fX6_digest_104 F F x17 a1 (0 : Int32)
  ) else (
    bd (fX2_isDown F 0 x17 a3) fun r22 x21 =>
    if r22 = 0 then (
      fX6_digest_93 F rec59 x21 a3 ((31 : Int64) * a1) (0 : Int32)
    ) else (
      fX6_digest_93 F rec59 x21 a3 ((31 : Int64) * a1) (1 : Int32)
    )
  )
def fX6_digest_59 (F : Nat) : Nat → HT → Int64 → Int32 → Option (Int64 × HT)
  | 0 => fun _ _ _ => none
  | n + 1 => fX6_digest_59b F (fX6_digest_59 F n)
def fX6_digest_32b (F : Nat) (rec32 : HT → Int64 → Int32 → Option (Int64 × HT)) (x : HT) (a1 : Int64) (a3 : Int32) : Option (Int64 × HT) :=
  if (8 : Int32) ≤ a3 then (
    fX6_digest_59 F F x a1 (0 : Int32)
  ) else (
    bd (fX6_countFact F x a3) fun r11 x10 =>
    lt_ (((31 : Int64) * a1) + r11.toInt64) fun b13 =>
    lt_ (a3 + (1 : Int32)) fun b15 =>
    rec32 x10 b13 b15
  )
def fX6_digest_32 (F : Nat) : Nat → HT → Int64 → Int32 → Option (Int64 × HT)
  | 0 => fun _ _ _ => none
  | n + 1 => fX6_digest_32b F (fX6_digest_32 F n)
def fX6_digest_6b (F : Nat) (rec6 : HT → Int64 → Int32 → Option (Int64 × HT)) (x : HT) (a1 : Int64) (a3 : Int32) : Option (Int64 × HT) :=
  if (5 : Int32) ≤ a3 then (
    fX6_digest_32 F F x a1 (0 : Int32)
  ) else (
    bd (fX6_toldFact F x a3) fun r3 x2 =>
    lt_ (((31 : Int64) * a1) + r3.toInt64) fun b5 =>
    lt_ (a3 + (1 : Int32)) fun b7 =>
    rec6 x2 b5 b7
  )
def fX6_digest_6 (F : Nat) : Nat → HT → Int64 → Int32 → Option (Int64 × HT)
  | 0 => fun _ _ _ => none
  | n + 1 => fX6_digest_6b F (fX6_digest_6 F n)
def fX6_digest (F : Nat) (x : HT) : Option (Int64 × HT) :=
  fX6_digest_6 F F x (2806 : Int64) (0 : Int32)
