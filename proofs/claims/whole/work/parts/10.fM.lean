def fX7_refuses (F : Nat) (x : HT) (a1 : Int32) : Option (Int32 × HT) :=
  ck (inb ((-2 : Int32) - a1) 3) <|
  ck (inb ((-2 : Int32) - a1) 3) <|
  lt_ (sI x 4 ((-2 : Int32) - a1).toNatClampNeg ((x.1 4 ((-2 : Int32) - a1).toNatClampNeg) + (1 : Int32))) fun x3 =>
  some (a1, x3)
def fX7_back_26b (F : Nat) (rec26 : HT → Int32 → Option (Int32 × HT)) (x : HT) (a1 : Int32) : Option (Int32 × HT) :=
  if (80 : Int32) ≤ a1 then (
    some ((x.1 0 3), x)
  ) else (
    ck (inb (((80 : Int32) * (x.1 0 3)) + a1) 400) <|
    ck (inb a1 80) <|
    lt_ (sI x 1 a1.toNatClampNeg (x.1 3 (((80 : Int32) * (x.1 0 3)) + a1).toNatClampNeg)) fun x10 =>
    lt_ (a1 + (1 : Int32)) fun b12 =>
    rec26 x10 b12
  )
def fX7_back_26 (F : Nat) : Nat → HT → Int32 → Option (Int32 × HT)
  | 0 => fun _ _ => none
  | n + 1 => fX7_back_26b F (fX7_back_26 F n)
def fX7_back (F : Nat) (x : HT) : Option (Int32 × HT) :=
  if (x.1 0 3) = 0 then (
    bd (fX7_refuses F x (-3 : Int32)) fun r5 x4 =>
    some (r5, x4)
  ) else (
    lt_ (sI x 0 3 ((x.1 0 3) - (1 : Int32))) fun x2 =>
    fX7_back_26 F F x2 (0 : Int32)
  )
def fX7_laysAside_2b (F : Nat) (rec2 : HT → Int32 → Option (Unit × HT)) (x : HT) (a1 : Int32) : Option (Unit × HT) :=
  if (80 : Int32) ≤ a1 then (
    some ((), x)
  ) else (
    ck (inb a1 80) <|
    ck (inb a1 80) <|
    lt_ (sI x 2 a1.toNatClampNeg (x.1 1 a1.toNatClampNeg)) fun x4 =>
    lt_ (a1 + (1 : Int32)) fun b6 =>
    rec2 x4 b6
  )
def fX7_laysAside_2 (F : Nat) : Nat → HT → Int32 → Option (Unit × HT)
  | 0 => fun _ _ => none
  | n + 1 => fX7_laysAside_2b F (fX7_laysAside_2 F n)
def fX7_laysAside (F : Nat) (x : HT) : Option (Unit × HT) :=
  fX7_laysAside_2 F F x (0 : Int32)
def fX7_in_14 (F : Nat) (x : HT) : Option (Int32 × HT) :=
  some ((0 : Int32), x)
def fX7_in (F : Nat) (x : HT) (a0 : Int32) (a1 : Int32) (a2 : Int32) : Option (Int32 × HT) :=
  if a0 < a1 then (
    fX7_in_14 F x
  ) else (
    if a2 < a0 then (
      fX7_in_14 F x
    ) else (
      some ((1 : Int32), x)
    )
  )
def fX7_putMesh_40b (F : Nat) (rec40 : HT → Int32 → Int32 → Int32 → Int32 → Option (Int32 × HT)) (x : HT) (a1 : Int32) (a2 : Int32) (a3 : Int32) (a4 : Int32) : Option (Int32 × HT) :=
  if (80 : Int32) ≤ a4 then (
    ck (inb (0 : Int32) 80) <|
    lt_ (sI x 1 (0 : Int32).toNatClampNeg a1) fun x15 =>
    ck (inb (1 : Int32) 80) <|
    lt_ (sI x15 1 (1 : Int32).toNatClampNeg a2) fun x18 =>
    some (a3, x18)
  ) else (
    ck (inb a4 80) <|
    lt_ (sI x 1 a4.toNatClampNeg (0 : Int32)) fun x21 =>
    lt_ (a4 + (1 : Int32)) fun b23 =>
    rec40 x21 a1 a2 a3 b23
  )
def fX7_putMesh_40 (F : Nat) : Nat → HT → Int32 → Int32 → Int32 → Int32 → Option (Int32 × HT)
  | 0 => fun _ _ _ _ _ => none
  | n + 1 => fX7_putMesh_40b F (fX7_putMesh_40 F n)
def fX7_putMesh_20 (F : Nat) (x : HT) : Option (Int32 × HT) :=
  some ((-2 : Int32), x)
def fX7_putMesh (F : Nat) (x : HT) (a1 : Int32) (a2 : Int32) : Option (Int32 × HT) :=
  bd (fX7_in F x a1 (2 : Int32) (6 : Int32)) fun r2 x1 =>
  if r2 = 0 then (
    fX7_putMesh_20 F x1
  ) else (
    bd (fX7_in F x1 a2 (2 : Int32) (6 : Int32)) fun r6 x5 =>
    if r6 = 0 then (
      fX7_putMesh_20 F x5
    ) else (
      ck (inb (0 : Int32) 80) <|
      ck (inb (1 : Int32) 80) <|
      lt_ ((x5.1 1 (0 : Int32).toNatClampNeg) * (x5.1 1 (1 : Int32).toNatClampNeg)) fun b11 =>
      fX7_putMesh_40 F F x5 a1 a2 b11 (0 : Int32)
    )
  )
def fX7_remembers_50b (F : Nat) (rec50 : HT → Int32 → Option (Unit × HT)) (x : HT) (a1 : Int32) : Option (Unit × HT) :=
  if (80 : Int32) ≤ a1 then (
    lt_ (sI x 0 3 ((x.1 0 3) + (1 : Int32))) fun x12 =>
    some ((), x12)
  ) else (
    ck (inb a1 80) <|
    ck (inb (((80 : Int32) * (x.1 0 3)) + a1) 400) <|
    lt_ (sI x 3 (((80 : Int32) * (x.1 0 3)) + a1).toNatClampNeg (x.1 2 a1.toNatClampNeg)) fun x16 =>
    lt_ (a1 + (1 : Int32)) fun b18 =>
    rec50 x16 b18
  )
def fX7_remembers_50 (F : Nat) : Nat → HT → Int32 → Option (Unit × HT)
  | 0 => fun _ _ => none
  | n + 1 => fX7_remembers_50b F (fX7_remembers_50 F n)
def fX7_remembers_48 (F : Nat) (x : HT) : Option (Unit × HT) :=
  fX7_remembers_50 F F x (0 : Int32)
def fX7_remembers_10b (F : Nat) (rec10 : HT → Int32 → Option (Unit × HT)) (x : HT) (a1 : Int32) : Option (Unit × HT) :=
  if (320 : Int32) ≤ a1 then (
    lt_ (sI x 0 3 ((x.1 0 3) - (1 : Int32))) fun x3 =>
    fX7_remembers_48 F x3
  ) else (
    ck (inb (a1 + (80 : Int32)) 400) <|
    ck (inb a1 400) <|
    lt_ (sI x 3 a1.toNatClampNeg (x.1 3 (a1 + (80 : Int32)).toNatClampNeg)) fun x7 =>
    lt_ (a1 + (1 : Int32)) fun b9 =>
    rec10 x7 b9
  )
def fX7_remembers_10 (F : Nat) : Nat → HT → Int32 → Option (Unit × HT)
  | 0 => fun _ _ => none
  | n + 1 => fX7_remembers_10b F (fX7_remembers_10 F n)
def fX7_remembers (F : Nat) (x : HT) : Option (Unit × HT) :=
  if (x.1 0 3) = (5 : Int32) then (
    fX7_remembers_10 F F x (0 : Int32)
  ) else (
    fX7_remembers_48 F x
  )
def fX7_finished (F : Nat) (x : HT) (a1 : Int32) : Option (Int32 × HT) :=
  if (-2 : Int32) < a1 then (
    bd (fX7_remembers F x) fun r3 x2 =>
    some (a1, x2)
  ) else (
    bd (fX7_refuses F x a1) fun r6 x5 =>
    some (r6, x5)
  )
def fX7_mesh (F : Nat) (x : HT) (a1 : Int32) (a2 : Int32) : Option (Int32 × HT) :=
  bd (fX7_laysAside F x) fun r2 x1 =>
  bd (fX7_putMesh F x1 a1 a2) fun r5 x4 =>
  bd (fX7_finished F x4 r5) fun r8 x7 =>
  some (r8, x7)
def fX7_isPlace_36 (F : Nat) (x : HT) : Option (Int32 × HT) :=
  some ((0 : Int32), x)
def fX7_isPlace (F : Nat) (x : HT) (a1 : Int32) (a2 : Int32) : Option (Int32 × HT) :=
  ck (inb (0 : Int32) 80) <|
  bd (fX7_in F x a1 (0 : Int32) ((x.1 1 (0 : Int32).toNatClampNeg) - (1 : Int32))) fun r3 x2 =>
  if r3 = 0 then (
    fX7_isPlace_36 F x2
  ) else (
    ck (inb (1 : Int32) 80) <|
    bd (fX7_in F x2 a2 (0 : Int32) ((x2.1 1 (1 : Int32).toNatClampNeg) - (1 : Int32))) fun r8 x7 =>
    if r8 = 0 then (
      fX7_isPlace_36 F x7
    ) else (
      some ((1 : Int32), x7)
    )
  )
def fX7_spotOf (F : Nat) (x : HT) (a1 : Int32) (a2 : Int32) : Option (Int32 × HT) :=
  some ((((4 : Int32) + ((8 : Int32) * a1)) + a2), x)
def fX7_labelOf_28 (F : Nat) (x : HT) (t0 : Int32) (t1 : Int32) : Option (Int32 × HT) :=
  some ((t0 + t1), x)
def fX7_labelOf (F : Nat) (x : HT) (a1 : Int32) (a2 : Int32) : Option (Int32 × HT) :=
  ck (inb (0 : Int32) 80) <|
  if (a2 - a2 / (2 : Int32) * (2 : Int32)) = 0 then (
    fX7_labelOf_28 F x (a2 * (x.1 1 (0 : Int32).toNatClampNeg)) a1
  ) else (
    ck (inb (0 : Int32) 80) <|
    fX7_labelOf_28 F x (a2 * (x.1 1 (0 : Int32).toNatClampNeg)) (((x.1 1 (0 : Int32).toNatClampNeg) - (1 : Int32)) - a1)
  )
def fX7_putMessage_46b (F : Nat) (rec46 : HT → Int32 → Int32 → Int32 → Int32 → Int32 → Option (Int32 × HT)) (x : HT) (a1 : Int32) (a2 : Int32) (a3 : Int32) (a4 : Int32) (a5 : Int32) : Option (Int32 × HT) :=
  if (8 : Int32) ≤ a5 then (
    bd (fX7_spotOf F x a4 (0 : Int32)) fun r16 x15 =>
    bd (fX7_labelOf F x15 a1 a2) fun r19 x18 =>
    ck (inb r16 80) <|
    lt_ (sI x18 1 r16.toNatClampNeg r19) fun x22 =>
    bd (fX7_spotOf F x22 a4 (1 : Int32)) fun r25 x24 =>
    ck (inb r25 80) <|
    lt_ (sI x24 1 r25.toNatClampNeg a3) fun x28 =>
    ck (inb (3 : Int32) 80) <|
    ck (inb (3 : Int32) 80) <|
    lt_ (sI x28 1 (3 : Int32).toNatClampNeg ((x28.1 1 (3 : Int32).toNatClampNeg) + (1 : Int32))) fun x32 =>
    some (a4, x32)
  ) else (
    bd (fX7_spotOf F x a4 a5) fun r35 x34 =>
    ck (inb r35 80) <|
    lt_ (sI x34 1 r35.toNatClampNeg (0 : Int32)) fun x38 =>
    lt_ (a5 + (1 : Int32)) fun b40 =>
    rec46 x38 a1 a2 a3 a4 b40
  )
def fX7_putMessage_46 (F : Nat) : Nat → HT → Int32 → Int32 → Int32 → Int32 → Int32 → Option (Int32 × HT)
  | 0 => fun _ _ _ _ _ _ => none
  | n + 1 => fX7_putMessage_46b F (fX7_putMessage_46 F n)
def fX7_putMessage_19 (F : Nat) (x : HT) : Option (Int32 × HT) :=
  some ((-2 : Int32), x)
def fX7_putMessage (F : Nat) (x : HT) (a1 : Int32) (a2 : Int32) (a3 : Int32) : Option (Int32 × HT) :=
  bd (fX7_isPlace F x a1 a2) fun r2 x1 =>
  if r2 = 0 then (
    fX7_putMessage_19 F x1
  ) else (
    bd (fX7_in F x1 a3 (1 : Int32) (9 : Int32)) fun r6 x5 =>
    if r6 = 0 then (
      fX7_putMessage_19 F x5
    ) else (
      ck (inb (3 : Int32) 80) <|
      if (x5.1 1 (3 : Int32).toNatClampNeg) = (5 : Int32) then (
        some ((-4 : Int32), x5)
      ) else (
        ck (inb (3 : Int32) 80) <|
        lt_ (x5.1 1 (3 : Int32).toNatClampNeg) fun b12 =>
        fX7_putMessage_46 F F x5 a1 a2 a3 b12 (0 : Int32)
      )
    )
  )
def fX7_message (F : Nat) (x : HT) (a1 : Int32) (a2 : Int32) (a3 : Int32) : Option (Int32 × HT) :=
  bd (fX7_laysAside F x) fun r2 x1 =>
  bd (fX7_putMessage F x1 a1 a2 a3) fun r5 x4 =>
  bd (fX7_finished F x4 r5) fun r8 x7 =>
  some (r8, x7)
def fX7_isMessage (F : Nat) (x : HT) (a1 : Int32) : Option (Int32 × HT) :=
  ck (inb (3 : Int32) 80) <|
  bd (fX7_in F x a1 (0 : Int32) ((x.1 1 (3 : Int32).toNatClampNeg) - (1 : Int32))) fun r3 x2 =>
  ck (isb r3) <|
  some (r3, x2)
def fX7_of0 (F : Nat) (x : HT) (a1 : Int32) (a2 : Int32) : Option (Int32 × HT) :=
  ck (inb (((4 : Int32) + ((8 : Int32) * a1)) + a2) 80) <|
  some ((x.1 1 (((4 : Int32) + ((8 : Int32) * a1)) + a2).toNatClampNeg), x)
def fX7_isGoal (F : Nat) (x : HT) (a1 : Int32) (a2 : Int32) : Option (Int32 × HT) :=
  bd (fX7_of0 F x a1 ((2 : Int32) + (a2 / (18 : Int32)))) fun r2 x1 =>
  if ((r2 >>> ((a2 - a2 / (18 : Int32) * (18 : Int32)) &&& 31)) &&& (1 : Int32)) = (1 : Int32) then (
    some ((1 : Int32), x1)
  ) else (
    some ((0 : Int32), x1)
  )
def fX7_goalsOf_25 (F : Nat) (rec4 : HT → Int32 → Int32 → Int32 → Option (Int32 × HT)) (x : HT) (a1 : Int32) (a3 : Int32) (t0 : Int32) (t1 : Int32) : Option (Int32 × HT) :=
  lt_ (t0 + t1) fun b6 =>
  lt_ (a3 + (1 : Int32)) fun b8 =>
  rec4 x a1 b6 b8
def fX7_goalsOf_4b (F : Nat) (rec4 : HT → Int32 → Int32 → Int32 → Option (Int32 × HT)) (x : HT) (a1 : Int32) (a2 : Int32) (a3 : Int32) : Option (Int32 × HT) :=
  if (36 : Int32) ≤ a3 then (
    some (a2, x)
  ) else (
    bd (fX7_isGoal F x a1 a3) fun r3 x2 =>
    if r3 = 0 then (
      fX7_goalsOf_25 F rec4 x2 a1 a3 a2 (0 : Int32)
    ) else (
      fX7_goalsOf_25 F rec4 x2 a1 a3 a2 (1 : Int32)
    )
  )
def fX7_goalsOf_4 (F : Nat) : Nat → HT → Int32 → Int32 → Int32 → Option (Int32 × HT)
  | 0 => fun _ _ _ _ => none
  | n + 1 => fX7_goalsOf_4b F (fX7_goalsOf_4 F n)
def fX7_goalsOf (F : Nat) (x : HT) (a1 : Int32) : Option (Int32 × HT) :=
  fX7_goalsOf_4 F F x a1 (0 : Int32) (0 : Int32)
def fX7_putGoal_53 (F : Nat) (x : HT) : Option (Int32 × HT) :=
  some ((-3 : Int32), x)
def fX7_putGoal_32 (F : Nat) (x : HT) : Option (Int32 × HT) :=
  some ((-2 : Int32), x)
def fX7_putGoal (F : Nat) (x : HT) (a1 : Int32) (a2 : Int32) (a3 : Int32) : Option (Int32 × HT) :=
  bd (fX7_isMessage F x a1) fun r2 x1 =>
  if r2 = 0 then (
    fX7_putGoal_32 F x1
  ) else (
    bd (fX7_isPlace F x1 a2 a3) fun r6 x5 =>
    if r6 = 0 then (
      fX7_putGoal_32 F x5
    ) else (
      bd (fX7_labelOf F x5 a2 a3) fun r10 x9 =>
      bd (fX7_of0 F x9 a1 (0 : Int32)) fun r13 x12 =>
      if r10 = r13 then (
        fX7_putGoal_32 F x12
      ) else (
        bd (fX7_of0 F x12 a1 (4 : Int32)) fun r17 x16 =>
        if 0 < r17 then (
          fX7_putGoal_53 F x16
        ) else (
          bd (fX7_of0 F x16 a1 (5 : Int32)) fun r21 x20 =>
          if r21 ≤ 0 then (
            bd (fX7_labelOf F x20 a2 a3) fun r25 x24 =>
            bd (fX7_spotOf F x24 a1 ((2 : Int32) + (r25 / (18 : Int32)))) fun r28 x27 =>
            ck (inb r28 80) <|
            ck (inb r28 80) <|
            lt_ (sI x27 1 r28.toNatClampNeg ((x27.1 1 r28.toNatClampNeg) ^^^ ((1 : Int32) <<< ((r25 - r25 / (18 : Int32) * (18 : Int32)) &&& 31)))) fun x32 =>
            bd (fX7_goalsOf F x32 a1) fun r35 x34 =>
            some (r35, x34)
          ) else (
            fX7_putGoal_53 F x20
          )
        )
      )
    )
  )
def fX7_goal (F : Nat) (x : HT) (a1 : Int32) (a2 : Int32) (a3 : Int32) : Option (Int32 × HT) :=
  bd (fX7_laysAside F x) fun r2 x1 =>
  bd (fX7_putGoal F x1 a1 a2 a3) fun r5 x4 =>
  bd (fX7_finished F x4 r5) fun r8 x7 =>
  some (r8, x7)
def fX7_xOf (F : Nat) (x : HT) (a1 : Int32) : Option (Int32 × HT) :=
  ck (inb (0 : Int32) 80) <|
  ck (nz (x.1 1 (0 : Int32).toNatClampNeg)) <|
  lt_ (a1 - a1 / (x.1 1 (0 : Int32).toNatClampNeg) * (x.1 1 (0 : Int32).toNatClampNeg)) fun b3 =>
  ck (inb (0 : Int32) 80) <|
  ck (nz (x.1 1 (0 : Int32).toNatClampNeg)) <|
  if ((a1 / (x.1 1 (0 : Int32).toNatClampNeg)) - (a1 / (x.1 1 (0 : Int32).toNatClampNeg)) / (2 : Int32) * (2 : Int32)) = 0 then (
    some (b3, x)
  ) else (
    ck (inb (0 : Int32) 80) <|
    some ((((x.1 1 (0 : Int32).toNatClampNeg) - (1 : Int32)) - b3), x)
  )
def fX7_yOf (F : Nat) (x : HT) (a1 : Int32) : Option (Int32 × HT) :=
  ck (inb (0 : Int32) 80) <|
  ck (nz (x.1 1 (0 : Int32).toNatClampNeg)) <|
  some ((a1 / (x.1 1 (0 : Int32).toNatClampNeg)), x)
def fX7_beside_49 (F : Nat) (x : HT) (a3 : Int32) (t0 : Int32) (t1 : Int32) : Option (Int32 × HT) :=
  lt_ (t0 + t1) fun b13 =>
  bd (fX7_isPlace F x a3 b13) fun r16 x15 =>
  if r16 = 0 then (
    some ((-1 : Int32), x15)
  ) else (
    bd (fX7_labelOf F x15 a3 b13) fun r20 x19 =>
    some (r20, x19)
  )
def fX7_beside_23 (F : Nat) (x : HT) (a1 : Int32) (a2 : Int32) (t0 : Int32) (t1 : Int32) : Option (Int32 × HT) :=
  lt_ (t0 + t1) fun b6 =>
  bd (fX7_yOf F x a1) fun r9 x8 =>
  if a2 = (1 : Int32) then (
    fX7_beside_49 F x8 b6 r9 (1 : Int32)
  ) else (
    if a2 = (3 : Int32) then (
      fX7_beside_49 F x8 b6 r9 (-1 : Int32)
    ) else (
      fX7_beside_49 F x8 b6 r9 (0 : Int32)
    )
  )
def fX7_beside (F : Nat) (x : HT) (a1 : Int32) (a2 : Int32) : Option (Int32 × HT) :=
  bd (fX7_xOf F x a1) fun r2 x1 =>
  if a2 = 0 then (
    fX7_beside_23 F x1 a1 a2 r2 (1 : Int32)
  ) else (
    if a2 = (2 : Int32) then (
      fX7_beside_23 F x1 a1 a2 r2 (-1 : Int32)
    ) else (
      fX7_beside_23 F x1 a1 a2 r2 (0 : Int32)
    )
  )
def fX7_isChannel_37 (F : Nat) (x : HT) : Option (Int32 × HT) :=
  some ((0 : Int32), x)
def fX7_isChannel (F : Nat) (x : HT) (a1 : Int32) (a2 : Int32) (a3 : Int32) : Option (Int32 × HT) :=
  bd (fX7_isPlace F x a1 a2) fun r2 x1 =>
  if r2 = 0 then (
    fX7_isChannel_37 F x1
  ) else (
    bd (fX7_in F x1 a3 (0 : Int32) (3 : Int32)) fun r6 x5 =>
    if r6 = 0 then (
      fX7_isChannel_37 F x5
    ) else (
      bd (fX7_labelOf F x5 a1 a2) fun r10 x9 =>
      bd (fX7_beside F x9 r10 a3) fun r13 x12 =>
      if r13 = (-1 : Int32) then (
        fX7_isChannel_37 F x12
      ) else (
        some ((1 : Int32), x12)
      )
    )
  )
def fX7_isDown (F : Nat) (x : HT) (a1 : Int32) (a2 : Int32) : Option (Int32 × HT) :=
  ck (inb ((44 : Int32) + a1) 80) <|
  if (((x.1 1 ((44 : Int32) + a1).toNatClampNeg) >>> (a2 &&& 31)) &&& (1 : Int32)) = (1 : Int32) then (
    some ((1 : Int32), x)
  ) else (
    some ((0 : Int32), x)
  )
def fX7_putTurn (F : Nat) (x : HT) (a1 : Int32) (a2 : Int32) (a3 : Int32) : Option (Int32 × HT) :=
  bd (fX7_isChannel F x a1 a2 a3) fun r2 x1 =>
  if r2 = 0 then (
    some ((-2 : Int32), x1)
  ) else (
    bd (fX7_labelOf F x1 a1 a2) fun r6 x5 =>
    ck (inb ((44 : Int32) + r6) 80) <|
    ck (inb ((44 : Int32) + r6) 80) <|
    lt_ (sI x5 1 ((44 : Int32) + r6).toNatClampNeg ((x5.1 1 ((44 : Int32) + r6).toNatClampNeg) ^^^ ((1 : Int32) <<< (a3 &&& 31)))) fun x10 =>
    bd (fX7_labelOf F x10 a1 a2) fun r13 x12 =>
    bd (fX7_isDown F x12 r13 a3) fun r16 x15 =>
    if r16 = 0 then (
      some ((1 : Int32), x15)
    ) else (
      some ((0 : Int32), x15)
    )
  )
def fX7_turns (F : Nat) (x : HT) (a1 : Int32) (a2 : Int32) (a3 : Int32) : Option (Int32 × HT) :=
  bd (fX7_laysAside F x) fun r2 x1 =>
  bd (fX7_putTurn F x1 a1 a2 a3) fun r5 x4 =>
  bd (fX7_finished F x4 r5) fun r8 x7 =>
  some (r8, x7)
def fX7_nextOf_101 (F : Nat) (rec5 : HT → Int32 → Int32 → Int32 → Int32 → Option (Int32 × HT)) (x : HT) (a1 : Int32) (a2 : Int32) (a4 : Int32) (t0 : Int32) : Option (Int32 × HT) :=
  lt_ (a4 + (1 : Int32)) fun b15 =>
  rec5 x a1 a2 t0 b15
def fX7_nextOf_100 (F : Nat) (rec5 : HT → Int32 → Int32 → Int32 → Int32 → Option (Int32 × HT)) (x : HT) (a1 : Int32) (a2 : Int32) (a3 : Int32) (a4 : Int32) : Option (Int32 × HT) :=
  fX7_nextOf_101 F rec5 x a1 a2 a4 a3
def fX7_nextOf_83 (F : Nat) (rec5 : HT → Int32 → Int32 → Int32 → Int32 → Option (Int32 × HT)) (x : HT) (a1 : Int32) (a2 : Int32) (a3 : Int32) (a4 : Int32) (a5 : Int32) (a6 : Int32) (t0 : Int32) : Option (Int32 × HT) :=
  if a6 = 0 then (
    fX7_nextOf_100 F rec5 x a1 a2 a3 a4
  ) else (
    if t0 = 0 then (
      fX7_nextOf_100 F rec5 x a1 a2 a3 a4
    ) else (
      fX7_nextOf_101 F rec5 x a1 a2 a4 a5
    )
  )
def fX7_nextOf_82 (F : Nat) (rec5 : HT → Int32 → Int32 → Int32 → Int32 → Option (Int32 × HT)) (x : HT) (a1 : Int32) (a2 : Int32) (a3 : Int32) (a4 : Int32) (a5 : Int32) (a6 : Int32) : Option (Int32 × HT) :=
  fX7_nextOf_83 F rec5 x a1 a2 a3 a4 a5 a6 (0 : Int32)
def fX7_nextOf_78 (F : Nat) (rec5 : HT → Int32 → Int32 → Int32 → Int32 → Option (Int32 × HT)) (x : HT) (a1 : Int32) (a2 : Int32) (a3 : Int32) (a4 : Int32) (a5 : Int32) (a6 : Int32) : Option (Int32 × HT) :=
  fX7_nextOf_83 F rec5 x a1 a2 a3 a4 a5 a6 (1 : Int32)
def fX7_nextOf_51 (F : Nat) (rec5 : HT → Int32 → Int32 → Int32 → Int32 → Option (Int32 × HT)) (x : HT) (a1 : Int32) (a2 : Int32) (a3 : Int32) (a4 : Int32) (a5 : Int32) (t0 : Int32) : Option (Int32 × HT) :=
  if a3 = (-1 : Int32) then (
    fX7_nextOf_78 F rec5 x a1 a2 a3 a4 a5 t0
  ) else (
    if a2 ≤ a1 then (
      if a3 ≤ a5 then (
        fX7_nextOf_82 F rec5 x a1 a2 a3 a4 a5 t0
      ) else (
        fX7_nextOf_78 F rec5 x a1 a2 a3 a4 a5 t0
      )
    ) else (
      if a5 ≤ a3 then (
        fX7_nextOf_82 F rec5 x a1 a2 a3 a4 a5 t0
      ) else (
        fX7_nextOf_78 F rec5 x a1 a2 a3 a4 a5 t0
      )
    )
  )
def fX7_nextOf_50 (F : Nat) (rec5 : HT → Int32 → Int32 → Int32 → Int32 → Option (Int32 × HT)) (x : HT) (a1 : Int32) (a2 : Int32) (a3 : Int32) (a4 : Int32) (a5 : Int32) : Option (Int32 × HT) :=
  fX7_nextOf_51 F rec5 x a1 a2 a3 a4 a5 (0 : Int32)
def fX7_nextOf_46 (F : Nat) (rec5 : HT → Int32 → Int32 → Int32 → Int32 → Option (Int32 × HT)) (x : HT) (a1 : Int32) (a2 : Int32) (a3 : Int32) (a4 : Int32) (a5 : Int32) : Option (Int32 × HT) :=
  fX7_nextOf_51 F rec5 x a1 a2 a3 a4 a5 (1 : Int32)
def fX7_nextOf_5b (F : Nat) (rec5 : HT → Int32 → Int32 → Int32 → Int32 → Option (Int32 × HT)) (x : HT) (a1 : Int32) (a2 : Int32) (a3 : Int32) (a4 : Int32) : Option (Int32 × HT) :=
  if (4 : Int32) ≤ a4 then (
    some (a3, x)
  ) else (
    bd (fX7_beside F x a1 a4) fun r3 x2 =>
    if r3 = (-1 : Int32) then (
      fX7_nextOf_50 F rec5 x2 a1 a2 a3 a4 r3
    ) else (
      if a2 ≤ a1 then (
        if r3 < a2 then (
          fX7_nextOf_50 F rec5 x2 a1 a2 a3 a4 r3
        ) else (
          fX7_nextOf_46 F rec5 x2 a1 a2 a3 a4 r3
        )
      ) else (
        if a2 < r3 then (
          fX7_nextOf_50 F rec5 x2 a1 a2 a3 a4 r3
        ) else (
          fX7_nextOf_46 F rec5 x2 a1 a2 a3 a4 r3
        )
      )
    )
  )
def fX7_nextOf_5 (F : Nat) : Nat → HT → Int32 → Int32 → Int32 → Int32 → Option (Int32 × HT)
  | 0 => fun _ _ _ _ _ => none
  | n + 1 => fX7_nextOf_5b F (fX7_nextOf_5 F n)
def fX7_nextOf (F : Nat) (x : HT) (a1 : Int32) (a2 : Int32) : Option (Int32 × HT) :=
  fX7_nextOf_5 F F x a1 a2 (-1 : Int32) (0 : Int32)
def fX7_laysWay_156 (F : Nat) (rec68 : HT → Int32 → Int32 → Int32 → Int32 → Int32 → Int32 → Int32 → Option (Unit × HT)) (x : HT) (a1 : Int32) (a3 : Int32) (a4 : Int32) (a5 : Int32) (a6 : Int32) (a7 : Int32) (a8 : Int32) : Option (Unit × HT) :=
  lt_ (a8 + a7) fun b47 =>
  rec68 x a1 a3 a4 a5 a6 a7 b47
def fX7_laysWay_91b (F : Nat) (rec68 : HT → Int32 → Int32 → Int32 → Int32 → Int32 → Int32 → Int32 → Option (Unit × HT)) (rec91 : HT → Int32 → Int32 → Int32 → Int32 → Int32 → Int32 → Int32 → Option (Unit × HT)) (x : HT) (a1 : Int32) (a3 : Int32) (a4 : Int32) (a5 : Int32) (a6 : Int32) (a7 : Int32) (a8 : Int32) : Option (Unit × HT) :=
  if a5 = a8 then (
    ck (inb a3 10) <|
    ck (inb (((36 : Int32) * a3) + (x.1 8 a3.toNatClampNeg)) 360) <|
    lt_ (sI x 9 (((36 : Int32) * a3) + (x.1 8 a3.toNatClampNeg)).toNatClampNeg a6) fun x33 =>
    ck (inb a3 10) <|
    ck (inb a3 10) <|
    lt_ (sI x33 8 a3.toNatClampNeg ((x33.1 8 a3.toNatClampNeg) + (1 : Int32))) fun x37 =>
    fX7_laysWay_156 F rec68 x37 a1 a3 a4 a5 a6 a7 a8
  ) else (
    bd (fX7_nextOf F x a5 a8) fun r40 x39 =>
    lt_ (a6 + (1 : Int32)) fun b42 =>
    ck (inb (((37 : Int32) * a3) + b42) 370) <|
    lt_ (sI x39 6 (((37 : Int32) * a3) + b42).toNatClampNeg r40) fun x45 =>
    rec91 x45 a1 a3 a4 r40 b42 a7 a8
  )
def fX7_laysWay_91 (F : Nat) (rec68 : HT → Int32 → Int32 → Int32 → Int32 → Int32 → Int32 → Int32 → Option (Unit × HT)) : Nat → HT → Int32 → Int32 → Int32 → Int32 → Int32 → Int32 → Int32 → Option (Unit × HT)
  | 0 => fun _ _ _ _ _ _ _ _ => none
  | n + 1 => fX7_laysWay_91b F rec68 (fX7_laysWay_91 F rec68 n)
def fX7_laysWay_68b (F : Nat) (rec68 : HT → Int32 → Int32 → Int32 → Int32 → Int32 → Int32 → Int32 → Option (Unit × HT)) (x : HT) (a1 : Int32) (a3 : Int32) (a4 : Int32) (a5 : Int32) (a6 : Int32) (a7 : Int32) (a8 : Int32) : Option (Unit × HT) :=
  bd (fX7_in F x a8 (0 : Int32) (a4 - (1 : Int32))) fun r20 x19 =>
  if r20 = 0 then (
    ck (inb a3 10) <|
    lt_ (sI x19 7 a3.toNatClampNeg a6) fun x24 =>
    some ((), x24)
  ) else (
    bd (fX7_isGoal F x19 a1 a8) fun r27 x26 =>
    if r27 = 0 then (
      fX7_laysWay_156 F rec68 x26 a1 a3 a4 a5 a6 a7 a8
    ) else (
      fX7_laysWay_91 F rec68 F x26 a1 a3 a4 a5 a6 a7 a8
    )
  )
def fX7_laysWay_68 (F : Nat) : Nat → HT → Int32 → Int32 → Int32 → Int32 → Int32 → Int32 → Int32 → Option (Unit × HT)
  | 0 => fun _ _ _ _ _ _ _ _ => none
  | n + 1 => fX7_laysWay_68b F (fX7_laysWay_68 F n)
def fX7_laysWay_59 (F : Nat) (x : HT) (a1 : Int32) (a3 : Int32) (a4 : Int32) (a5 : Int32) (a6 : Int32) (t0 : Int32) : Option (Unit × HT) :=
  lt_ (a5 + t0) fun b17 =>
  fX7_laysWay_68 F F x a1 a3 a4 a5 a6 t0 b17
def fX7_laysWay (F : Nat) (x : HT) (a1 : Int32) (a2 : Int32) : Option (Unit × HT) :=
  lt_ (((2 : Int32) * a1) + a2) fun b1 =>
  ck (inb (0 : Int32) 80) <|
  ck (inb (1 : Int32) 80) <|
  lt_ ((x.1 1 (0 : Int32).toNatClampNeg) * (x.1 1 (1 : Int32).toNatClampNeg)) fun b5 =>
  bd (fX7_of0 F x a1 (0 : Int32)) fun r8 x7 =>
  ck (inb ((37 : Int32) * b1) 370) <|
  lt_ (sI x7 6 ((37 : Int32) * b1).toNatClampNeg r8) fun x11 =>
  ck (inb b1 10) <|
  lt_ (sI x11 8 b1.toNatClampNeg (0 : Int32)) fun x14 =>
  if a2 = 0 then (
    fX7_laysWay_59 F x14 a1 b1 b5 r8 (0 : Int32) (1 : Int32)
  ) else (
    fX7_laysWay_59 F x14 a1 b1 b5 r8 (0 : Int32) (-1 : Int32)
  )
def fX7_laysWays_2b (F : Nat) (rec2 : HT → Int32 → Option (Unit × HT)) (x : HT) (a1 : Int32) : Option (Unit × HT) :=
  ck (inb (3 : Int32) 80) <|
  if (x.1 1 (3 : Int32).toNatClampNeg) ≤ a1 then (
    some ((), x)
  ) else (
    bd (fX7_laysWay F x a1 (0 : Int32)) fun r4 x3 =>
    bd (fX7_laysWay F x3 a1 (1 : Int32)) fun r7 x6 =>
    lt_ (a1 + (1 : Int32)) fun b9 =>
    rec2 x6 b9
  )
def fX7_laysWays_2 (F : Nat) : Nat → HT → Int32 → Option (Unit × HT)
  | 0 => fun _ _ => none
  | n + 1 => fX7_laysWays_2b F (fX7_laysWays_2 F n)
def fX7_laysWays (F : Nat) (x : HT) : Option (Unit × HT) :=
  fX7_laysWays_2 F F x (0 : Int32)
def fX7_moves (F : Nat) (x : HT) (a1 : Int32) : Option (Int32 × HT) :=
  bd (fX7_of0 F x (a1 / (2 : Int32)) ((4 : Int32) + (a1 - a1 / (2 : Int32) * (2 : Int32)))) fun r2 x1 =>
  some (r2, x1)
def fX7_isDone_32 (F : Nat) (x : HT) : Option (Int32 × HT) :=
  some ((1 : Int32), x)
def fX7_isDone (F : Nat) (x : HT) (a1 : Int32) : Option (Int32 × HT) :=
  ck (inb a1 10) <|
  if (x.1 8 a1.toNatClampNeg) = 0 then (
    fX7_isDone_32 F x
  ) else (
    bd (fX7_moves F x a1) fun r4 x3 =>
    ck (inb a1 10) <|
    bd (fX7_of0 F x3 (a1 / (2 : Int32)) (1 : Int32)) fun r8 x7 =>
    if r4 = ((x3.1 7 a1.toNatClampNeg) + r8) then (
      fX7_isDone_32 F x7
    ) else (
      some ((0 : Int32), x7)
    )
  )
def fX7_wayTo_2b (F : Nat) (rec2 : HT → Int32 → Int32 → Int32 → Option (Int32 × HT)) (x : HT) (a1 : Int32) (a2 : Int32) (a3 : Int32) : Option (Int32 × HT) :=
  bd (fX7_beside F x a1 a3) fun r2 x1 =>
  if r2 = a2 then (
    some (a3, x1)
  ) else (
    lt_ (a3 + (1 : Int32)) fun b5 =>
    rec2 x1 a1 a2 b5
  )
def fX7_wayTo_2 (F : Nat) : Nat → HT → Int32 → Int32 → Int32 → Option (Int32 × HT)
  | 0 => fun _ _ _ _ => none
  | n + 1 => fX7_wayTo_2b F (fX7_wayTo_2 F n)
def fX7_wayTo (F : Nat) (x : HT) (a1 : Int32) (a2 : Int32) : Option (Int32 × HT) :=
  fX7_wayTo_2 F F x a1 a2 (0 : Int32)
def fX7_heldFrom (F : Nat) (x : HT) (a1 : Int32) : Option (Int32 × HT) :=
  bd (fX7_moves F x a1) fun r2 x1 =>
  bd (fX7_of0 F x1 (a1 / (2 : Int32)) (1 : Int32)) fun r5 x4 =>
  lt_ (r2 - r5) fun b7 =>
  if 0 ≤ b7 then (
    some (b7, x4)
  ) else (
    some ((0 : Int32), x4)
  )
def fX7_heldTo (F : Nat) (x : HT) (a1 : Int32) : Option (Int32 × HT) :=
  bd (fX7_moves F x a1) fun r2 x1 =>
  ck (inb a1 10) <|
  if (x1.1 7 a1.toNatClampNeg) ≤ r2 then (
    ck (inb a1 10) <|
    some ((x1.1 7 a1.toNatClampNeg), x1)
  ) else (
    bd (fX7_moves F x1 a1) fun r8 x7 =>
    some (r8, x7)
  )
def fX7_isHeldBy_64 (F : Nat) (rec10 : HT → Int32 → Int32 → Int32 → Int32 → Int32 → Option (Int32 × HT)) (x : HT) (a1 : Int32) (a2 : Int32) (a3 : Int32) (a5 : Int32) (t0 : Int32) : Option (Int32 × HT) :=
  lt_ (a5 + (1 : Int32)) fun b14 =>
  rec10 x a1 a2 a3 t0 b14
def fX7_isHeldBy_63 (F : Nat) (rec10 : HT → Int32 → Int32 → Int32 → Int32 → Int32 → Option (Int32 × HT)) (x : HT) (a1 : Int32) (a2 : Int32) (a3 : Int32) (a5 : Int32) : Option (Int32 × HT) :=
  fX7_isHeldBy_64 F rec10 x a1 a2 a3 a5 (0 : Int32)
def fX7_isHeldBy_59 (F : Nat) (rec10 : HT → Int32 → Int32 → Int32 → Int32 → Int32 → Option (Int32 × HT)) (x : HT) (a1 : Int32) (a2 : Int32) (a3 : Int32) (a5 : Int32) : Option (Int32 × HT) :=
  fX7_isHeldBy_64 F rec10 x a1 a2 a3 a5 (1 : Int32)
def fX7_isHeldBy_10b (F : Nat) (rec10 : HT → Int32 → Int32 → Int32 → Int32 → Int32 → Option (Int32 × HT)) (x : HT) (a1 : Int32) (a2 : Int32) (a3 : Int32) (a4 : Int32) (a5 : Int32) : Option (Int32 × HT) :=
  bd (fX7_heldTo F x a1) fun r5 x4 =>
  if r5 ≤ a5 then (
    ck (isb a4) <|
    some (a4, x4)
  ) else (
    if a4 = 0 then (
      ck (inb (((37 : Int32) * a1) + a5) 370) <|
      if (x4.1 6 (((37 : Int32) * a1) + a5).toNatClampNeg) = a2 then (
        ck (inb ((((37 : Int32) * a1) + a5) + (1 : Int32)) 370) <|
        if (x4.1 6 ((((37 : Int32) * a1) + a5) + (1 : Int32)).toNatClampNeg) = a3 then (
          fX7_isHeldBy_59 F rec10 x4 a1 a2 a3 a5
        ) else (
          fX7_isHeldBy_63 F rec10 x4 a1 a2 a3 a5
        )
      ) else (
        fX7_isHeldBy_63 F rec10 x4 a1 a2 a3 a5
      )
    ) else (
      fX7_isHeldBy_59 F rec10 x4 a1 a2 a3 a5
    )
  )
def fX7_isHeldBy_10 (F : Nat) : Nat → HT → Int32 → Int32 → Int32 → Int32 → Int32 → Option (Int32 × HT)
  | 0 => fun _ _ _ _ _ _ => none
  | n + 1 => fX7_isHeldBy_10b F (fX7_isHeldBy_10 F n)
def fX7_isHeldBy (F : Nat) (x : HT) (a1 : Int32) (a2 : Int32) (a3 : Int32) : Option (Int32 × HT) :=
  bd (fX7_heldFrom F x a1) fun r2 x1 =>
  fX7_isHeldBy_10 F F x1 a1 a2 a3 (0 : Int32) r2
def fX7_holder_40 (F : Nat) (rec5 : HT → Int32 → Int32 → Int32 → Int32 → Option (Int32 × HT)) (x : HT) (a1 : Int32) (a2 : Int32) (a4 : Int32) (t0 : Int32) : Option (Int32 × HT) :=
  lt_ (a4 + (1 : Int32)) fun b8 =>
  rec5 x a1 a2 t0 b8
def fX7_holder_39 (F : Nat) (rec5 : HT → Int32 → Int32 → Int32 → Int32 → Option (Int32 × HT)) (x : HT) (a1 : Int32) (a2 : Int32) (a3 : Int32) (a4 : Int32) : Option (Int32 × HT) :=
  fX7_holder_40 F rec5 x a1 a2 a4 a3
def fX7_holder_5b (F : Nat) (rec5 : HT → Int32 → Int32 → Int32 → Int32 → Option (Int32 × HT)) (x : HT) (a1 : Int32) (a2 : Int32) (a3 : Int32) (a4 : Int32) : Option (Int32 × HT) :=
  ck (inb (3 : Int32) 80) <|
  if ((2 : Int32) * (x.1 1 (3 : Int32).toNatClampNeg)) ≤ a4 then (
    some (a3, x)
  ) else (
    if a3 = (-1 : Int32) then (
      bd (fX7_isHeldBy F x a4 a1 a2) fun r5 x4 =>
      if r5 = 0 then (
        fX7_holder_39 F rec5 x4 a1 a2 a3 a4
      ) else (
        fX7_holder_40 F rec5 x4 a1 a2 a4 a4
      )
    ) else (
      fX7_holder_39 F rec5 x a1 a2 a3 a4
    )
  )
def fX7_holder_5 (F : Nat) : Nat → HT → Int32 → Int32 → Int32 → Int32 → Option (Int32 × HT)
  | 0 => fun _ _ _ _ _ => none
  | n + 1 => fX7_holder_5b F (fX7_holder_5 F n)
def fX7_holder (F : Nat) (x : HT) (a1 : Int32) (a2 : Int32) : Option (Int32 × HT) :=
  fX7_holder_5 F F x a1 a2 (-1 : Int32) (0 : Int32)
def fX7_goes_92 (F : Nat) (x : HT) (a1 : Int32) : Option (Unit × HT) :=
  bd (fX7_spotOf F x (a1 / (2 : Int32)) ((4 : Int32) + (a1 - a1 / (2 : Int32) * (2 : Int32)))) fun r31 x30 =>
  ck (inb r31 80) <|
  ck (inb r31 80) <|
  lt_ (sI x30 1 r31.toNatClampNeg ((x30.1 1 r31.toNatClampNeg) + (1 : Int32))) fun x35 =>
  some ((), x35)
def fX7_goes_69 (F : Nat) (x : HT) (a1 : Int32) : Option (Unit × HT) :=
  bd (fX7_spotOf F x (a1 / (2 : Int32)) ((6 : Int32) + (a1 - a1 / (2 : Int32) * (2 : Int32)))) fun r24 x23 =>
  ck (inb r24 80) <|
  ck (inb r24 80) <|
  lt_ (sI x23 1 r24.toNatClampNeg ((x23.1 1 r24.toNatClampNeg) + (1 : Int32))) fun x28 =>
  some ((), x28)
def fX7_goes (F : Nat) (x : HT) (a1 : Int32) : Option (Unit × HT) :=
  bd (fX7_moves F x a1) fun r2 x1 =>
  ck (inb a1 10) <|
  if (x1.1 7 a1.toNatClampNeg) ≤ r2 then (
    fX7_goes_92 F x1 a1
  ) else (
    ck (inb (((37 : Int32) * a1) + r2) 370) <|
    lt_ (x1.1 6 (((37 : Int32) * a1) + r2).toNatClampNeg) fun b7 =>
    ck (inb ((((37 : Int32) * a1) + r2) + (1 : Int32)) 370) <|
    lt_ (x1.1 6 ((((37 : Int32) * a1) + r2) + (1 : Int32)).toNatClampNeg) fun b10 =>
    bd (fX7_wayTo F x1 b7 b10) fun r13 x12 =>
    bd (fX7_isDown F x12 b7 r13) fun r16 x15 =>
    if r16 = 0 then (
      bd (fX7_holder F x15 b7 b10) fun r20 x19 =>
      if r20 = (-1 : Int32) then (
        fX7_goes_92 F x19 a1
      ) else (
        fX7_goes_69 F x19 a1
      )
    ) else (
      fX7_goes_69 F x15 a1
    )
  )
def fX7_step_27 (F : Nat) (rec2 : HT → Int32 → Option (Unit × HT)) (x : HT) (a1 : Int32) : Option (Unit × HT) :=
  lt_ (a1 + (1 : Int32)) fun b14 =>
  rec2 x b14
def fX7_step_2b (F : Nat) (rec2 : HT → Int32 → Option (Unit × HT)) (x : HT) (a1 : Int32) : Option (Unit × HT) :=
  ck (inb (3 : Int32) 80) <|
  if ((2 : Int32) * (x.1 1 (3 : Int32).toNatClampNeg)) ≤ a1 then (
    ck (inb (2 : Int32) 80) <|
    ck (inb (2 : Int32) 80) <|
    lt_ (sI x 1 (2 : Int32).toNatClampNeg ((x.1 1 (2 : Int32).toNatClampNeg) + (1 : Int32))) fun x5 =>
    some ((), x5)
  ) else (
    bd (fX7_isDone F x a1) fun r8 x7 =>
    if r8 = 0 then (
      bd (fX7_goes F x7 a1) fun r12 x11 =>
      fX7_step_27 F rec2 x11 a1
    ) else (
      fX7_step_27 F rec2 x7 a1
    )
  )
def fX7_step_2 (F : Nat) : Nat → HT → Int32 → Option (Unit × HT)
  | 0 => fun _ _ => none
  | n + 1 => fX7_step_2b F (fX7_step_2 F n)
def fX7_step (F : Nat) (x : HT) : Option (Unit × HT) :=
  fX7_step_2 F F x (0 : Int32)
def fX7_notDone_30 (F : Nat) (rec4 : HT → Int32 → Int32 → Option (Int32 × HT)) (x : HT) (a2 : Int32) (t0 : Int32) (t1 : Int32) : Option (Int32 × HT) :=
  lt_ (t0 + t1) fun b7 =>
  lt_ (a2 + (1 : Int32)) fun b9 =>
  rec4 x b7 b9
def fX7_notDone_4b (F : Nat) (rec4 : HT → Int32 → Int32 → Option (Int32 × HT)) (x : HT) (a1 : Int32) (a2 : Int32) : Option (Int32 × HT) :=
  ck (inb (3 : Int32) 80) <|
  if ((2 : Int32) * (x.1 1 (3 : Int32).toNatClampNeg)) ≤ a2 then (
    some (a1, x)
  ) else (
    bd (fX7_isDone F x a2) fun r4 x3 =>
    if r4 = 0 then (
      fX7_notDone_30 F rec4 x3 a2 a1 (1 : Int32)
    ) else (
      fX7_notDone_30 F rec4 x3 a2 a1 (0 : Int32)
    )
  )
def fX7_notDone_4 (F : Nat) : Nat → HT → Int32 → Int32 → Option (Int32 × HT)
  | 0 => fun _ _ _ => none
  | n + 1 => fX7_notDone_4b F (fX7_notDone_4 F n)
def fX7_notDone (F : Nat) (x : HT) : Option (Int32 × HT) :=
  fX7_notDone_4 F F x (0 : Int32) (0 : Int32)
def fX7_putSteps_20b (F : Nat) (rec20 : HT → Int32 → Int32 → Option (Int32 × HT)) (x : HT) (a1 : Int32) (a2 : Int32) : Option (Int32 × HT) :=
  if a1 ≤ a2 then (
    bd (fX7_notDone F x) fun r10 x9 =>
    some (r10, x9)
  ) else (
    bd (fX7_step F x) fun r13 x12 =>
    lt_ (a2 + (1 : Int32)) fun b15 =>
    rec20 x12 a1 b15
  )
def fX7_putSteps_20 (F : Nat) : Nat → HT → Int32 → Int32 → Option (Int32 × HT)
  | 0 => fun _ _ _ => none
  | n + 1 => fX7_putSteps_20b F (fX7_putSteps_20 F n)
def fX7_putSteps (F : Nat) (x : HT) (a1 : Int32) : Option (Int32 × HT) :=
  bd (fX7_in F x a1 (1 : Int32) (200 : Int32)) fun r2 x1 =>
  if r2 = 0 then (
    some ((-2 : Int32), x1)
  ) else (
    bd (fX7_laysWays F x1) fun r6 x5 =>
    fX7_putSteps_20 F F x5 a1 (0 : Int32)
  )
def fX7_steps (F : Nat) (x : HT) (a1 : Int32) : Option (Int32 × HT) :=
  bd (fX7_laysAside F x) fun r2 x1 =>
  bd (fX7_putSteps F x1 a1) fun r5 x4 =>
  bd (fX7_finished F x4 r5) fun r8 x7 =>
  some (r8, x7)
def fX7_putAgain_28b (F : Nat) (rec16 : HT → Int32 → Int32 → Option (Int32 × HT)) (rec28 : HT → Int32 → Int32 → Int32 → Option (Int32 × HT)) (x : HT) (a1 : Int32) (a2 : Int32) (a3 : Int32) : Option (Int32 × HT) :=
  if (8 : Int32) ≤ a3 then (
    lt_ (a2 + (1 : Int32)) fun b10 =>
    rec16 x a1 b10
  ) else (
    bd (fX7_spotOf F x a2 a3) fun r13 x12 =>
    ck (inb r13 80) <|
    lt_ (sI x12 1 r13.toNatClampNeg (0 : Int32)) fun x16 =>
    lt_ (a3 + (1 : Int32)) fun b18 =>
    rec28 x16 a1 a2 b18
  )
def fX7_putAgain_28 (F : Nat) (rec16 : HT → Int32 → Int32 → Option (Int32 × HT)) : Nat → HT → Int32 → Int32 → Int32 → Option (Int32 × HT)
  | 0 => fun _ _ _ _ => none
  | n + 1 => fX7_putAgain_28b F rec16 (fX7_putAgain_28 F rec16 n)
def fX7_putAgain_16b (F : Nat) (rec16 : HT → Int32 → Int32 → Option (Int32 × HT)) (x : HT) (a1 : Int32) (a2 : Int32) : Option (Int32 × HT) :=
  ck (inb (3 : Int32) 80) <|
  if (x.1 1 (3 : Int32).toNatClampNeg) ≤ a2 then (
    some (a1, x)
  ) else (
    fX7_putAgain_28 F rec16 F x a1 a2 (4 : Int32)
  )
def fX7_putAgain_16 (F : Nat) : Nat → HT → Int32 → Int32 → Option (Int32 × HT)
  | 0 => fun _ _ _ => none
  | n + 1 => fX7_putAgain_16b F (fX7_putAgain_16 F n)
def fX7_putAgain (F : Nat) (x : HT) : Option (Int32 × HT) :=
  ck (inb (2 : Int32) 80) <|
  lt_ (x.1 1 (2 : Int32).toNatClampNeg) fun b2 =>
  ck (inb (2 : Int32) 80) <|
  lt_ (sI x 1 (2 : Int32).toNatClampNeg (0 : Int32)) fun x5 =>
  fX7_putAgain_16 F F x5 b2 (0 : Int32)
def fX7_again (F : Nat) (x : HT) : Option (Int32 × HT) :=
  bd (fX7_laysAside F x) fun r2 x1 =>
  bd (fX7_putAgain F x1) fun r5 x4 =>
  bd (fX7_finished F x4 r5) fun r8 x7 =>
  some (r8, x7)
def fX7_label (F : Nat) (x : HT) (a1 : Int32) (a2 : Int32) : Option (Int32 × HT) :=
  bd (fX7_isPlace F x a1 a2) fun r2 x1 =>
  if r2 = 0 then (
    bd (fX7_refuses F x1 (-2 : Int32)) fun r6 x5 =>
    some (r6, x5)
  ) else (
    bd (fX7_labelOf F x1 a1 a2) fun r9 x8 =>
    some (r9, x8)
  )
def fX7_isLabel (F : Nat) (x : HT) (a1 : Int32) : Option (Int32 × HT) :=
  ck (inb (0 : Int32) 80) <|
  ck (inb (1 : Int32) 80) <|
  bd (fX7_in F x a1 (0 : Int32) (((x.1 1 (0 : Int32).toNatClampNeg) * (x.1 1 (1 : Int32).toNatClampNeg)) - (1 : Int32))) fun r4 x3 =>
  ck (isb r4) <|
  some (r4, x3)
def fX7_toldOf (F : Nat) (x : HT) (a1 : Int32) : Option (Int32 × HT) :=
  bd (fX7_xOf F x a1) fun r2 x1 =>
  bd (fX7_yOf F x1 a1) fun r5 x4 =>
  some ((((10 : Int32) * r2) + r5), x4)
def fX7_place (F : Nat) (x : HT) (a1 : Int32) : Option (Int32 × HT) :=
  bd (fX7_isLabel F x a1) fun r2 x1 =>
  if r2 = 0 then (
    bd (fX7_refuses F x1 (-2 : Int32)) fun r6 x5 =>
    some (r6, x5)
  ) else (
    bd (fX7_toldOf F x1 a1) fun r9 x8 =>
    some (r9, x8)
  )
def fX7_next_37 (F : Nat) (x : HT) (a1 : Int32) (a2 : Int32) (a3 : Int32) (a4 : Int32) : Option (Int32 × HT) :=
  bd (fX7_labelOf F x a1 a2) fun r12 x11 =>
  bd (fX7_labelOf F x11 a3 a4) fun r15 x14 =>
  bd (fX7_nextOf F x14 r12 r15) fun r18 x17 =>
  bd (fX7_toldOf F x17 r18) fun r21 x20 =>
  some (r21, x20)
def fX7_next_30 (F : Nat) (x : HT) : Option (Int32 × HT) :=
  bd (fX7_refuses F x (-2 : Int32)) fun r24 x23 =>
  some (r24, x23)
def fX7_next (F : Nat) (x : HT) (a1 : Int32) (a2 : Int32) (a3 : Int32) (a4 : Int32) : Option (Int32 × HT) :=
  bd (fX7_isPlace F x a1 a2) fun r2 x1 =>
  if r2 = 0 then (
    fX7_next_30 F x1
  ) else (
    bd (fX7_isPlace F x1 a3 a4) fun r6 x5 =>
    if r6 = 0 then (
      fX7_next_30 F x5
    ) else (
      if a1 = a3 then (
        if a2 = a4 then (
          fX7_next_30 F x5
        ) else (
          fX7_next_37 F x5 a1 a2 a3 a4
        )
      ) else (
        fX7_next_37 F x5 a1 a2 a3 a4
      )
    )
  )
def fX7_farOf_5b (F : Nat) (rec5 : HT → Int32 → Int32 → Int32 → Option (Int32 × HT)) (x : HT) (a2 : Int32) (a3 : Int32) (a4 : Int32) : Option (Int32 × HT) :=
  if a4 = a2 then (
    some (a3, x)
  ) else (
    bd (fX7_nextOf F x a4 a2) fun r3 x2 =>
    lt_ (a3 + (1 : Int32)) fun b5 =>
    rec5 x2 a2 b5 r3
  )
def fX7_farOf_5 (F : Nat) : Nat → HT → Int32 → Int32 → Int32 → Option (Int32 × HT)
  | 0 => fun _ _ _ _ => none
  | n + 1 => fX7_farOf_5b F (fX7_farOf_5 F n)
def fX7_farOf (F : Nat) (x : HT) (a1 : Int32) (a2 : Int32) : Option (Int32 × HT) :=
  fX7_farOf_5 F F x a2 (0 : Int32) a1
def fX7_far_24 (F : Nat) (x : HT) (a1 : Int32) (a2 : Int32) (a3 : Int32) (a4 : Int32) (t0 : Int32) : Option (Int32 × HT) :=
  if t0 = 0 then (
    bd (fX7_refuses F x (-2 : Int32)) fun r11 x10 =>
    some (r11, x10)
  ) else (
    bd (fX7_labelOf F x a1 a2) fun r14 x13 =>
    bd (fX7_labelOf F x13 a3 a4) fun r17 x16 =>
    bd (fX7_farOf F x16 r14 r17) fun r20 x19 =>
    some (r20, x19)
  )
def fX7_far_23 (F : Nat) (x : HT) (a1 : Int32) (a2 : Int32) (a3 : Int32) (a4 : Int32) : Option (Int32 × HT) :=
  fX7_far_24 F x a1 a2 a3 a4 (0 : Int32)
def fX7_far (F : Nat) (x : HT) (a1 : Int32) (a2 : Int32) (a3 : Int32) (a4 : Int32) : Option (Int32 × HT) :=
  bd (fX7_isPlace F x a1 a2) fun r2 x1 =>
  if r2 = 0 then (
    fX7_far_23 F x1 a1 a2 a3 a4
  ) else (
    bd (fX7_isPlace F x1 a3 a4) fun r6 x5 =>
    if r6 = 0 then (
      fX7_far_23 F x5 a1 a2 a3 a4
    ) else (
      fX7_far_24 F x5 a1 a2 a3 a4 (1 : Int32)
    )
  )
def fX7_holds (F : Nat) (x : HT) (a1 : Int32) (a2 : Int32) (a3 : Int32) : Option (Int32 × HT) :=
  bd (fX7_isChannel F x a1 a2 a3) fun r2 x1 =>
  if r2 = 0 then (
    bd (fX7_refuses F x1 (-2 : Int32)) fun r18 x17 =>
    some (r18, x17)
  ) else (
    bd (fX7_laysWays F x1) fun r6 x5 =>
    bd (fX7_labelOf F x5 a1 a2) fun r9 x8 =>
    bd (fX7_beside F x8 r9 a3) fun r12 x11 =>
    bd (fX7_holder F x11 r9 r12) fun r15 x14 =>
    some (r15, x14)
  )
def fX7_isWorm_21 (F : Nat) (x : HT) : Option (Int32 × HT) :=
  some ((0 : Int32), x)
def fX7_isWorm (F : Nat) (x : HT) (a1 : Int32) (a2 : Int32) : Option (Int32 × HT) :=
  bd (fX7_isMessage F x a1) fun r2 x1 =>
  if r2 = 0 then (
    fX7_isWorm_21 F x1
  ) else (
    bd (fX7_in F x1 a2 (0 : Int32) (1 : Int32)) fun r6 x5 =>
    if r6 = 0 then (
      fX7_isWorm_21 F x5
    ) else (
      some ((1 : Int32), x5)
    )
  )
def fX7_arrived_39 (F : Nat) (rec4 : HT → Int32 → Int32 → Int32 → Option (Int32 × HT)) (x : HT) (a1 : Int32) (a3 : Int32) (t0 : Int32) (t1 : Int32) : Option (Int32 × HT) :=
  lt_ (t0 + t1) fun b8 =>
  lt_ (a3 + (1 : Int32)) fun b10 =>
  rec4 x a1 b8 b10
def fX7_arrived_4b (F : Nat) (rec4 : HT → Int32 → Int32 → Int32 → Option (Int32 × HT)) (x : HT) (a1 : Int32) (a2 : Int32) (a3 : Int32) : Option (Int32 × HT) :=
  ck (inb a1 10) <|
  if (x.1 8 a1.toNatClampNeg) ≤ a3 then (
    some (a2, x)
  ) else (
    ck (inb (((36 : Int32) * a1) + a3) 360) <|
    bd (fX7_moves F x a1) fun r5 x4 =>
    if r5 < (x.1 9 (((36 : Int32) * a1) + a3).toNatClampNeg) then (
      fX7_arrived_39 F rec4 x4 a1 a3 a2 (0 : Int32)
    ) else (
      fX7_arrived_39 F rec4 x4 a1 a3 a2 (1 : Int32)
    )
  )
def fX7_arrived_4 (F : Nat) : Nat → HT → Int32 → Int32 → Int32 → Option (Int32 × HT)
  | 0 => fun _ _ _ _ => none
  | n + 1 => fX7_arrived_4b F (fX7_arrived_4 F n)
def fX7_arrived (F : Nat) (x : HT) (a1 : Int32) : Option (Int32 × HT) :=
  fX7_arrived_4 F F x a1 (0 : Int32) (0 : Int32)
def fX7_heldMany (F : Nat) (x : HT) (a1 : Int32) : Option (Int32 × HT) :=
  bd (fX7_heldTo F x a1) fun r2 x1 =>
  bd (fX7_heldFrom F x1 a1) fun r5 x4 =>
  lt_ (r2 - r5) fun b7 =>
  if 0 ≤ b7 then (
    some (b7, x4)
  ) else (
    some ((0 : Int32), x4)
  )
def fX7_downOf_61 (F : Nat) (rec4 : HT → Int32 → Int32 → Int32 → Option (Int32 × HT)) (x : HT) (a1 : Int32) (a3 : Int32) (t0 : Int32) (t1 : Int32) : Option (Int32 × HT) :=
  lt_ (t0 + t1) fun b14 =>
  lt_ (a3 + (1 : Int32)) fun b16 =>
  rec4 x a1 b14 b16
def fX7_downOf_4b (F : Nat) (rec4 : HT → Int32 → Int32 → Int32 → Option (Int32 × HT)) (x : HT) (a1 : Int32) (a2 : Int32) (a3 : Int32) : Option (Int32 × HT) :=
  ck (inb a1 10) <|
  if (x.1 7 a1.toNatClampNeg) ≤ a3 then (
    some (a2, x)
  ) else (
    ck (inb (((37 : Int32) * a1) + a3) 370) <|
    lt_ (x.1 6 (((37 : Int32) * a1) + a3).toNatClampNeg) fun b4 =>
    ck (inb ((((37 : Int32) * a1) + a3) + (1 : Int32)) 370) <|
    bd (fX7_wayTo F x b4 (x.1 6 ((((37 : Int32) * a1) + a3) + (1 : Int32)).toNatClampNeg)) fun r8 x7 =>
    bd (fX7_isDown F x7 b4 r8) fun r11 x10 =>
    if r11 = 0 then (
      fX7_downOf_61 F rec4 x10 a1 a3 a2 (0 : Int32)
    ) else (
      fX7_downOf_61 F rec4 x10 a1 a3 a2 (1 : Int32)
    )
  )
def fX7_downOf_4 (F : Nat) : Nat → HT → Int32 → Int32 → Int32 → Option (Int32 × HT)
  | 0 => fun _ _ _ _ => none
  | n + 1 => fX7_downOf_4b F (fX7_downOf_4 F n)
def fX7_downOf (F : Nat) (x : HT) (a1 : Int32) : Option (Int32 × HT) :=
  fX7_downOf_4 F F x a1 (0 : Int32) (0 : Int32)
def fX7_wormTold (F : Nat) (x : HT) (a1 : Int32) (a2 : Int32) : Option (Int32 × HT) :=
  if a2 = (0 : Int32) then (
    ck (inb a1 10) <|
    some ((x.1 8 a1.toNatClampNeg), x)
  ) else (
  if a2 = (1 : Int32) then (
    ck (inb a1 10) <|
    some ((x.1 7 a1.toNatClampNeg), x)
  ) else (
  if a2 = (2 : Int32) then (
    bd (fX7_moves F x a1) fun r7 x6 =>
    some (r7, x6)
  ) else (
  if a2 = (3 : Int32) then (
    bd (fX7_heldTo F x a1) fun r11 x10 =>
    ck (inb (((37 : Int32) * a1) + r11) 370) <|
    bd (fX7_toldOf F x10 (x10.1 6 (((37 : Int32) * a1) + r11).toNatClampNeg)) fun r15 x14 =>
    some (r15, x14)
  ) else (
  if a2 = (4 : Int32) then (
    bd (fX7_arrived F x a1) fun r19 x18 =>
    some (r19, x18)
  ) else (
  if a2 = (5 : Int32) then (
    bd (fX7_of0 F x (a1 / (2 : Int32)) ((6 : Int32) + (a1 - a1 / (2 : Int32) * (2 : Int32)))) fun r23 x22 =>
    some (r23, x22)
  ) else (
  if a2 = (6 : Int32) then (
    bd (fX7_isDone F x a1) fun r27 x26 =>
    if r27 = 0 then (
      some ((0 : Int32), x26)
    ) else (
      some ((1 : Int32), x26)
    )
  ) else (
  if a2 = (7 : Int32) then (
    bd (fX7_heldMany F x a1) fun r32 x31 =>
    some (r32, x31)
  ) else (
  bd (fX7_downOf F x a1) fun r35 x34 =>
  some (r35, x34)
  ))))))))
def fX7_worm_19 (F : Nat) (x : HT) : Option (Int32 × HT) :=
  bd (fX7_refuses F x (-2 : Int32)) fun r16 x15 =>
  some (r16, x15)
def fX7_worm (F : Nat) (x : HT) (a1 : Int32) (a2 : Int32) (a3 : Int32) : Option (Int32 × HT) :=
  bd (fX7_isWorm F x a1 a2) fun r2 x1 =>
  if r2 = 0 then (
    fX7_worm_19 F x1
  ) else (
    bd (fX7_in F x1 a3 (0 : Int32) (8 : Int32)) fun r6 x5 =>
    if r6 = 0 then (
      fX7_worm_19 F x5
    ) else (
      bd (fX7_laysWays F x5) fun r10 x9 =>
      bd (fX7_wormTold F x9 (((2 : Int32) * a1) + a2) a3) fun r13 x12 =>
      some (r13, x12)
    )
  )
def fX7_way_13 (F : Nat) (x : HT) : Option (Int32 × HT) :=
  bd (fX7_refuses F x (-2 : Int32)) fun r18 x17 =>
  some (r18, x17)
def fX7_way (F : Nat) (x : HT) (a1 : Int32) (a2 : Int32) (a3 : Int32) : Option (Int32 × HT) :=
  bd (fX7_isWorm F x a1 a2) fun r2 x1 =>
  if r2 = 0 then (
    fX7_way_13 F x1
  ) else (
    if 0 ≤ a3 then (
      bd (fX7_laysWays F x1) fun r7 x6 =>
      lt_ (((2 : Int32) * a1) + a2) fun b9 =>
      ck (inb b9 10) <|
      if a3 ≤ (x6.1 7 b9.toNatClampNeg) then (
        ck (inb (((37 : Int32) * b9) + a3) 370) <|
        bd (fX7_toldOf F x6 (x6.1 6 (((37 : Int32) * b9) + a3).toNatClampNeg)) fun r15 x14 =>
        some (r15, x14)
      ) else (
        some ((-1 : Int32), x6)
      )
    ) else (
      fX7_way_13 F x1
    )
  )
def fX7_goalAt_13 (F : Nat) (x : HT) : Option (Int32 × HT) :=
  bd (fX7_refuses F x (-2 : Int32)) fun r19 x18 =>
  some (r19, x18)
def fX7_goalAt (F : Nat) (x : HT) (a1 : Int32) (a2 : Int32) (a3 : Int32) : Option (Int32 × HT) :=
  bd (fX7_isWorm F x a1 a2) fun r2 x1 =>
  if r2 = 0 then (
    fX7_goalAt_13 F x1
  ) else (
    if 0 ≤ a3 then (
      bd (fX7_laysWays F x1) fun r7 x6 =>
      lt_ (((2 : Int32) * a1) + a2) fun b9 =>
      ck (inb b9 10) <|
      if a3 < (x6.1 8 b9.toNatClampNeg) then (
        ck (inb (((36 : Int32) * b9) + a3) 360) <|
        ck (inb (((37 : Int32) * b9) + (x6.1 9 (((36 : Int32) * b9) + a3).toNatClampNeg)) 370) <|
        bd (fX7_toldOf F x6 (x6.1 6 (((37 : Int32) * b9) + (x6.1 9 (((36 : Int32) * b9) + a3).toNatClampNeg)).toNatClampNeg)) fun r16 x15 =>
        some (r16, x15)
      ) else (
        some ((-1 : Int32), x6)
      )
    ) else (
      fX7_goalAt_13 F x1
    )
  )
def fX7_messageTold_125 (F : Nat) (rec95 : HT → Int32 → Int32 → Int32 → Int32 → Option (Int32 × HT)) (x : HT) (a1 : Int32) (a3 : Int32) (a5 : Int32) (t0 : Int32) (t1 : Int32) : Option (Int32 × HT) :=
  lt_ (t0 + t1) fun b31 =>
  lt_ (a5 + (1 : Int32)) fun b33 =>
  rec95 x a1 a3 b31 b33
def fX7_messageTold_95b (F : Nat) (rec95 : HT → Int32 → Int32 → Int32 → Int32 → Option (Int32 × HT)) (x : HT) (a1 : Int32) (a3 : Int32) (a4 : Int32) (a5 : Int32) : Option (Int32 × HT) :=
  if (36 : Int32) ≤ a5 then (
    some (a4, x)
  ) else (
    bd (fX7_isGoal F x a1 a5) fun r25 x24 =>
    if r25 = 0 then (
      fX7_messageTold_125 F rec95 x24 a1 a3 a5 a4 (0 : Int32)
    ) else (
      bd (fX7_farOf F x24 a3 a5) fun r29 x28 =>
      fX7_messageTold_125 F rec95 x28 a1 a3 a5 a4 r29
    )
  )
def fX7_messageTold_95 (F : Nat) : Nat → HT → Int32 → Int32 → Int32 → Int32 → Option (Int32 × HT)
  | 0 => fun _ _ _ _ _ => none
  | n + 1 => fX7_messageTold_95b F (fX7_messageTold_95 F n)
def fX7_messageTold (F : Nat) (x : HT) (a1 : Int32) (a2 : Int32) : Option (Int32 × HT) :=
  bd (fX7_of0 F x a1 (0 : Int32)) fun r2 x1 =>
  if a2 = (0 : Int32) then (
    bd (fX7_xOf F x1 r2) fun r6 x5 =>
    some (r6, x5)
  ) else (
  if a2 = (1 : Int32) then (
    bd (fX7_yOf F x1 r2) fun r10 x9 =>
    some (r10, x9)
  ) else (
  if a2 = (2 : Int32) then (
    bd (fX7_of0 F x1 a1 (1 : Int32)) fun r14 x13 =>
    some (r14, x13)
  ) else (
  if a2 = (3 : Int32) then (
    bd (fX7_goalsOf F x1 a1) fun r18 x17 =>
    some (r18, x17)
  ) else (
  if a2 = (4 : Int32) then (
    ck (inb ((2 : Int32) * a1) 10) <|
    ck (inb (((2 : Int32) * a1) + (1 : Int32)) 10) <|
    some (((x1.1 7 ((2 : Int32) * a1).toNatClampNeg) + (x1.1 7 (((2 : Int32) * a1) + (1 : Int32)).toNatClampNeg)), x1)
  ) else (
  fX7_messageTold_95 F F x1 a1 r2 (0 : Int32) (0 : Int32)
  )))))
def fX7_of_17 (F : Nat) (x : HT) : Option (Int32 × HT) :=
  bd (fX7_refuses F x (-2 : Int32)) fun r16 x15 =>
  some (r16, x15)
def fX7_of (F : Nat) (x : HT) (a1 : Int32) (a2 : Int32) : Option (Int32 × HT) :=
  bd (fX7_isMessage F x a1) fun r2 x1 =>
  if r2 = 0 then (
    fX7_of_17 F x1
  ) else (
    bd (fX7_in F x1 a2 (0 : Int32) (5 : Int32)) fun r6 x5 =>
    if r6 = 0 then (
      fX7_of_17 F x5
    ) else (
      bd (fX7_laysWays F x5) fun r10 x9 =>
      bd (fX7_messageTold F x9 a1 a2) fun r13 x12 =>
      some (r13, x12)
    )
  )
def fX7_areDone_45 (F : Nat) (rec4 : HT → Int32 → Int32 → Int32 → Option (Int32 × HT)) (x : HT) (a1 : Int32) (a3 : Int32) (t0 : Int32) : Option (Int32 × HT) :=
  lt_ (a3 + (1 : Int32)) fun b7 =>
  rec4 x a1 t0 b7
def fX7_areDone_44 (F : Nat) (rec4 : HT → Int32 → Int32 → Int32 → Option (Int32 × HT)) (x : HT) (a1 : Int32) (a3 : Int32) : Option (Int32 × HT) :=
  fX7_areDone_45 F rec4 x a1 a3 (0 : Int32)
def fX7_areDone_40 (F : Nat) (rec4 : HT → Int32 → Int32 → Int32 → Option (Int32 × HT)) (x : HT) (a1 : Int32) (a3 : Int32) : Option (Int32 × HT) :=
  fX7_areDone_45 F rec4 x a1 a3 (1 : Int32)
def fX7_areDone_32 (F : Nat) (rec4 : HT → Int32 → Int32 → Int32 → Option (Int32 × HT)) (x : HT) (a1 : Int32) (a3 : Int32) : Option (Int32 × HT) :=
  bd (fX7_isDone F x a3) fun r10 x9 =>
  if r10 = 0 then (
    fX7_areDone_44 F rec4 x9 a1 a3
  ) else (
    fX7_areDone_40 F rec4 x9 a1 a3
  )
def fX7_areDone_4b (F : Nat) (rec4 : HT → Int32 → Int32 → Int32 → Option (Int32 × HT)) (x : HT) (a1 : Int32) (a2 : Int32) (a3 : Int32) : Option (Int32 × HT) :=
  ck (inb (3 : Int32) 80) <|
  if ((2 : Int32) * (x.1 1 (3 : Int32).toNatClampNeg)) ≤ a3 then (
    ck (isb a2) <|
    some (a2, x)
  ) else (
    if a2 = 0 then (
      fX7_areDone_44 F rec4 x a1 a3
    ) else (
      if a1 = (-1 : Int32) then (
        fX7_areDone_32 F rec4 x a1 a3
      ) else (
        if (a3 / (2 : Int32)) = a1 then (
          fX7_areDone_32 F rec4 x a1 a3
        ) else (
          fX7_areDone_40 F rec4 x a1 a3
        )
      )
    )
  )
def fX7_areDone_4 (F : Nat) : Nat → HT → Int32 → Int32 → Int32 → Option (Int32 × HT)
  | 0 => fun _ _ _ _ => none
  | n + 1 => fX7_areDone_4b F (fX7_areDone_4 F n)
def fX7_areDone (F : Nat) (x : HT) (a1 : Int32) : Option (Int32 × HT) :=
  fX7_areDone_4 F F x a1 (1 : Int32) (0 : Int32)
def fX7_takesBack_2b (F : Nat) (rec2 : HT → Int32 → Option (Unit × HT)) (x : HT) (a1 : Int32) : Option (Unit × HT) :=
  if (80 : Int32) ≤ a1 then (
    some ((), x)
  ) else (
    ck (inb a1 80) <|
    ck (inb a1 80) <|
    lt_ (sI x 1 a1.toNatClampNeg (x.1 2 a1.toNatClampNeg)) fun x4 =>
    lt_ (a1 + (1 : Int32)) fun b6 =>
    rec2 x4 b6
  )
def fX7_takesBack_2 (F : Nat) : Nat → HT → Int32 → Option (Unit × HT)
  | 0 => fun _ _ => none
  | n + 1 => fX7_takesBack_2b F (fX7_takesBack_2 F n)
def fX7_takesBack (F : Nat) (x : HT) : Option (Unit × HT) :=
  fX7_takesBack_2 F F x (0 : Int32)
def fX7_whenDone_35 (F : Nat) (x : HT) (a2 : Int32) : Option (Int32 × HT) :=
  bd (fX7_takesBack F x) fun r18 x17 =>
  if a2 ≤ (400 : Int32) then (
    some (a2, x17)
  ) else (
    some ((-1 : Int32), x17)
  )
def fX7_whenDone_10b (F : Nat) (rec10 : HT → Int32 → Int32 → Option (Int32 × HT)) (x : HT) (a1 : Int32) (a2 : Int32) : Option (Int32 × HT) :=
  if (400 : Int32) < a2 then (
    fX7_whenDone_35 F x a2
  ) else (
    bd (fX7_areDone F x a1) fun r9 x8 =>
    if r9 = 0 then (
      bd (fX7_step F x8) fun r13 x12 =>
      lt_ (a2 + (1 : Int32)) fun b15 =>
      rec10 x12 a1 b15
    ) else (
      fX7_whenDone_35 F x8 a2
    )
  )
def fX7_whenDone_10 (F : Nat) : Nat → HT → Int32 → Int32 → Option (Int32 × HT)
  | 0 => fun _ _ _ => none
  | n + 1 => fX7_whenDone_10b F (fX7_whenDone_10 F n)
def fX7_whenDone (F : Nat) (x : HT) (a1 : Int32) : Option (Int32 × HT) :=
  bd (fX7_laysWays F x) fun r2 x1 =>
  bd (fX7_laysAside F x1) fun r5 x4 =>
  fX7_whenDone_10 F F x4 a1 (0 : Int32)
def fX7_when_13 (F : Nat) (x : HT) (a1 : Int32) : Option (Int32 × HT) :=
  bd (fX7_whenDone F x a1) fun r10 x9 =>
  some (r10, x9)
def fX7_when (F : Nat) (x : HT) (a1 : Int32) : Option (Int32 × HT) :=
  if a1 = (-1 : Int32) then (
    fX7_when_13 F x a1
  ) else (
    bd (fX7_isMessage F x a1) fun r3 x2 =>
    if r3 = 0 then (
      bd (fX7_refuses F x2 (-2 : Int32)) fun r7 x6 =>
      some (r7, x6)
    ) else (
      fX7_when_13 F x2 a1
    )
  )
def fX7_countTold_152 (F : Nat) (rec125 : HT → Int32 → Int32 → Int32 → Int32 → Int32 → Int32 → Option (Int32 × HT)) (x : HT) (a1 : Int32) (a2 : Int32) (a3 : Int32) (a4 : Int32) (a6 : Int32) (t0 : Int32) (t1 : Int32) : Option (Int32 × HT) :=
  lt_ (t0 + t1) fun b46 =>
  lt_ (a6 + (1 : Int32)) fun b48 =>
  rec125 x a1 a2 a3 a4 b46 b48
def fX7_countTold_125b (F : Nat) (rec125 : HT → Int32 → Int32 → Int32 → Int32 → Int32 → Int32 → Option (Int32 × HT)) (x : HT) (a1 : Int32) (a2 : Int32) (a3 : Int32) (a4 : Int32) (a5 : Int32) (a6 : Int32) : Option (Int32 × HT) :=
  ck (inb (3 : Int32) 80) <|
  if (x.1 1 (3 : Int32).toNatClampNeg) ≤ a6 then (
    if a1 = (0 : Int32) then (
      ck (inb (0 : Int32) 80) <|
      some ((x.1 1 (0 : Int32).toNatClampNeg), x)
    ) else (
    if a1 = (1 : Int32) then (
      ck (inb (1 : Int32) 80) <|
      some ((x.1 1 (1 : Int32).toNatClampNeg), x)
    ) else (
    if a1 = (2 : Int32) then (
      ck (inb (3 : Int32) 80) <|
      some ((x.1 1 (3 : Int32).toNatClampNeg), x)
    ) else (
    if a1 = (3 : Int32) then (
      ck (inb (2 : Int32) 80) <|
      some ((x.1 1 (2 : Int32).toNatClampNeg), x)
    ) else (
    if a1 = (4 : Int32) then (
      some (a2, x)
    ) else (
    if a1 = (5 : Int32) then (
      some (a3, x)
    ) else (
    if a1 = (6 : Int32) then (
      some (a4, x)
    ) else (
    some (a5, x)
    )))))))
  ) else (
    bd (fX7_areDone F x a6) fun r43 x42 =>
    if r43 = 0 then (
      fX7_countTold_152 F rec125 x42 a1 a2 a3 a4 a6 a5 (0 : Int32)
    ) else (
      fX7_countTold_152 F rec125 x42 a1 a2 a3 a4 a6 a5 (1 : Int32)
    )
  )
def fX7_countTold_125 (F : Nat) : Nat → HT → Int32 → Int32 → Int32 → Int32 → Int32 → Int32 → Option (Int32 × HT)
  | 0 => fun _ _ _ _ _ _ _ => none
  | n + 1 => fX7_countTold_125b F (fX7_countTold_125 F n)
def fX7_countTold_74b (F : Nat) (rec74 : HT → Int32 → Int32 → Int32 → Int32 → Int32 → Int32 → Option (Int32 × HT)) (x : HT) (a1 : Int32) (a2 : Int32) (a3 : Int32) (a4 : Int32) (a5 : Int32) (a6 : Int32) : Option (Int32 × HT) :=
  ck (inb (3 : Int32) 80) <|
  if ((2 : Int32) * (x.1 1 (3 : Int32).toNatClampNeg)) ≤ a6 then (
    fX7_countTold_125 F F x a1 a2 a3 a4 a5 (0 : Int32)
  ) else (
    bd (fX7_heldMany F x a6) fun r18 x17 =>
    lt_ (a3 + r18) fun b20 =>
    bd (fX7_of0 F x17 (a6 / (2 : Int32)) ((6 : Int32) + (a6 - a6 / (2 : Int32) * (2 : Int32)))) fun r23 x22 =>
    lt_ (a4 + r23) fun b25 =>
    lt_ (a6 + (1 : Int32)) fun b27 =>
    rec74 x22 a1 a2 b20 b25 a5 b27
  )
def fX7_countTold_74 (F : Nat) : Nat → HT → Int32 → Int32 → Int32 → Int32 → Int32 → Int32 → Option (Int32 × HT)
  | 0 => fun _ _ _ _ _ _ _ => none
  | n + 1 => fX7_countTold_74b F (fX7_countTold_74 F n)
def fX7_countTold_57 (F : Nat) (rec13 : HT → Int32 → Int32 → Int32 → Int32 → Int32 → Int32 → Option (Int32 × HT)) (rec34 : HT → Int32 → Int32 → Int32 → Int32 → Int32 → Int32 → Int32 → Option (Int32 × HT)) (x : HT) (a1 : Int32) (a3 : Int32) (a4 : Int32) (a5 : Int32) (a6 : Int32) (a7 : Int32) (t0 : Int32) (t1 : Int32) : Option (Int32 × HT) :=
  lt_ (t0 + t1) fun b11 =>
  lt_ (a7 + (1 : Int32)) fun b13 =>
  rec34 x a1 b11 a3 a4 a5 a6 b13
def fX7_countTold_34b (F : Nat) (rec13 : HT → Int32 → Int32 → Int32 → Int32 → Int32 → Int32 → Option (Int32 × HT)) (rec34 : HT → Int32 → Int32 → Int32 → Int32 → Int32 → Int32 → Int32 → Option (Int32 × HT)) (x : HT) (a1 : Int32) (a2 : Int32) (a3 : Int32) (a4 : Int32) (a5 : Int32) (a6 : Int32) (a7 : Int32) : Option (Int32 × HT) :=
  if (4 : Int32) ≤ a7 then (
    lt_ (a6 + (1 : Int32)) fun b5 =>
    rec13 x a1 a2 a3 a4 a5 b5
  ) else (
    bd (fX7_isDown F x a6 a7) fun r8 x7 =>
    if r8 = 0 then (
      fX7_countTold_57 F rec13 rec34 x7 a1 a3 a4 a5 a6 a7 a2 (0 : Int32)
    ) else (
      fX7_countTold_57 F rec13 rec34 x7 a1 a3 a4 a5 a6 a7 a2 (1 : Int32)
    )
  )
def fX7_countTold_34 (F : Nat) (rec13 : HT → Int32 → Int32 → Int32 → Int32 → Int32 → Int32 → Option (Int32 × HT)) : Nat → HT → Int32 → Int32 → Int32 → Int32 → Int32 → Int32 → Int32 → Option (Int32 × HT)
  | 0 => fun _ _ _ _ _ _ _ _ => none
  | n + 1 => fX7_countTold_34b F rec13 (fX7_countTold_34 F rec13 n)
def fX7_countTold_13b (F : Nat) (rec13 : HT → Int32 → Int32 → Int32 → Int32 → Int32 → Int32 → Option (Int32 × HT)) (x : HT) (a1 : Int32) (a2 : Int32) (a3 : Int32) (a4 : Int32) (a5 : Int32) (a6 : Int32) : Option (Int32 × HT) :=
  ck (inb (0 : Int32) 80) <|
  ck (inb (1 : Int32) 80) <|
  if ((x.1 1 (0 : Int32).toNatClampNeg) * (x.1 1 (1 : Int32).toNatClampNeg)) ≤ a6 then (
    fX7_countTold_74 F F x a1 a2 a3 a4 a5 (0 : Int32)
  ) else (
    fX7_countTold_34 F rec13 F x a1 a2 a3 a4 a5 a6 (0 : Int32)
  )
def fX7_countTold_13 (F : Nat) : Nat → HT → Int32 → Int32 → Int32 → Int32 → Int32 → Int32 → Option (Int32 × HT)
  | 0 => fun _ _ _ _ _ _ _ => none
  | n + 1 => fX7_countTold_13b F (fX7_countTold_13 F n)
def fX7_countTold (F : Nat) (x : HT) (a1 : Int32) : Option (Int32 × HT) :=
  fX7_countTold_13 F F x a1 (0 : Int32) (0 : Int32) (0 : Int32) (0 : Int32) (0 : Int32)
def fX7_count (F : Nat) (x : HT) (a1 : Int32) : Option (Int32 × HT) :=
  bd (fX7_in F x a1 (0 : Int32) (7 : Int32)) fun r2 x1 =>
  if r2 = 0 then (
    bd (fX7_refuses F x1 (-2 : Int32)) fun r12 x11 =>
    some (r12, x11)
  ) else (
    bd (fX7_laysWays F x1) fun r6 x5 =>
    bd (fX7_countTold F x5 a1) fun r9 x8 =>
    some (r9, x8)
  )
def fX7_type (F : Nat) (x : HT) (a1 : Int32) : Option (Int32 × HT) :=
  bd (fX7_in F x a1 (0 : Int32) (127 : Int32)) fun r2 x1 =>
  if r2 = 0 then (
    bd (fX7_refuses F x1 (-2 : Int32)) fun r15 x14 =>
    some (r15, x14)
  ) else (
    if (x1.1 0 6) = (120 : Int32) then (
      bd (fX7_refuses F x1 (-4 : Int32)) fun r12 x11 =>
      some (r12, x11)
    ) else (
      ck (inb (x1.1 0 6) 120) <|
      lt_ (sI x1 5 (x1.1 0 6).toNatClampNeg a1) fun x7 =>
      lt_ (sI x7 0 6 ((x7.1 0 6) + (1 : Int32))) fun x9 =>
      some ((x9.1 0 6), x9)
    )
  )
def fX7_clear (F : Nat) (x : HT) : Option (Int32 × HT) :=
  lt_ (x.1 0 6) fun b1 =>
  lt_ (sI x 0 6 (0 : Int32)) fun x3 =>
  some (b1, x3)
def fX7_isAt_32 (F : Nat) (x : HT) : Option (Int32 × HT) :=
  some ((0 : Int32), x)
def fX7_isAt (F : Nat) (x : HT) (a1 : Int32) (a2 : Int32) : Option (Int32 × HT) :=
  if (x.1 0 6) ≤ (x.1 0 14) then (
    fX7_isAt_32 F x
  ) else (
    ck (inb (x.1 0 14) 120) <|
    bd (fX7_in F x (x.1 5 (x.1 0 14).toNatClampNeg) a1 a2) fun r4 x3 =>
    if r4 = 0 then (
      fX7_isAt_32 F x3
    ) else (
      some ((1 : Int32), x3)
    )
  )
def fX7_blanks_0b (F : Nat) (rec0 : HT → Option (Unit × HT)) (x : HT) : Option (Unit × HT) :=
  bd (fX7_isAt F x (32 : Int32) (32 : Int32)) fun r2 x1 =>
  if r2 = 0 then (
    some ((), x1)
  ) else (
    lt_ (sI x1 0 14 ((x1.1 0 14) + (1 : Int32))) fun x5 =>
    rec0 x5
  )
def fX7_blanks_0 (F : Nat) : Nat → HT → Option (Unit × HT)
  | 0 => fun _ => none
  | n + 1 => fX7_blanks_0b F (fX7_blanks_0 F n)
def fX7_blanks (F : Nat) (x : HT) : Option (Unit × HT) :=
  fX7_blanks_0 F F x
def fX7_manyOf (F : Nat) (x : HT) (a0 : Int32) : Option (Int32 × HT) :=
  if a0 = (97 : Int32) then (
    some ((0 : Int32), x)
  ) else (
  if a0 = (103 : Int32) then (
    some ((3 : Int32), x)
  ) else (
  if a0 = (107 : Int32) then (
    some ((1 : Int32), x)
  ) else (
  if a0 = (109 : Int32) then (
    some ((3 : Int32), x)
  ) else (
  if a0 = (116 : Int32) then (
    some ((3 : Int32), x)
  ) else (
  if a0 = (119 : Int32) then (
    some ((2 : Int32), x)
  ) else (
  some ((-1 : Int32), x)
  ))))))
def fX7_fails (F : Nat) (x : HT) : Option (Int32 × HT) :=
  lt_ (sI x 0 15 (x.1 0 14)) fun x1 =>
  some ((0 : Int32), x1)
def fX7_takesNumber_90 (F : Nat) (x : HT) : Option (Int32 × HT) :=
  some ((1 : Int32), x)
def fX7_takesNumber_11b (F : Nat) (rec11 : HT → Int32 → Int32 → Int32 → Option (Int32 × HT)) (x : HT) (a1 : Int32) (a2 : Int32) (a3 : Int32) : Option (Int32 × HT) :=
  bd (fX7_isAt F x (48 : Int32) (57 : Int32)) fun r7 x6 =>
  if r7 = 0 then (
    ck (inb a1 180) <|
    lt_ (sI x6 11 a1.toNatClampNeg a3) fun x11 =>
    if a2 < (x11.1 0 14) then (
      fX7_takesNumber_90 F x11
    ) else (
      bd (fX7_fails F x11) fun r15 x14 =>
      if r15 = 0 then (
        some ((0 : Int32), x14)
      ) else (
        fX7_takesNumber_90 F x14
      )
    )
  ) else (
    if (x6.1 0 14) = (a2 + (3 : Int32)) then (
      bd (fX7_fails F x6) fun r25 x24 =>
      ck (isb r25) <|
      some (r25, x24)
    ) else (
      ck (inb (x6.1 0 14) 120) <|
      lt_ ((((10 : Int32) * a3) + (x6.1 5 (x6.1 0 14).toNatClampNeg)) - (48 : Int32)) fun b20 =>
      lt_ (sI x6 0 14 ((x6.1 0 14) + (1 : Int32))) fun x22 =>
      rec11 x22 a1 a2 b20
    )
  )
def fX7_takesNumber_11 (F : Nat) : Nat → HT → Int32 → Int32 → Int32 → Option (Int32 × HT)
  | 0 => fun _ _ _ _ => none
  | n + 1 => fX7_takesNumber_11b F (fX7_takesNumber_11 F n)
def fX7_takesNumber (F : Nat) (x : HT) (a1 : Int32) : Option (Int32 × HT) :=
  bd (fX7_blanks F x) fun r2 x1 =>
  lt_ (x1.1 0 14) fun b4 =>
  fX7_takesNumber_11 F F x1 a1 b4 (0 : Int32)
def fX7_takesOrder_53b (F : Nat) (rec53 : HT → Int32 → Int32 → Option (Int32 × HT)) (x : HT) (a1 : Int32) (a2 : Int32) : Option (Int32 × HT) :=
  if a1 ≤ a2 then (
    bd (fX7_blanks F x) fun r18 x17 =>
    bd (fX7_isAt F x17 (59 : Int32) (59 : Int32)) fun r21 x20 =>
    if r21 = 0 then (
      bd (fX7_fails F x20) fun r29 x28 =>
      ck (isb r29) <|
      some (r29, x28)
    ) else (
      lt_ (sI x20 0 14 ((x20.1 0 14) + (1 : Int32))) fun x24 =>
      lt_ (sI x24 0 13 ((x24.1 0 13) + (1 : Int32))) fun x26 =>
      some ((1 : Int32), x26)
    )
  ) else (
    bd (fX7_takesNumber F x (((3 : Int32) * (x.1 0 13)) + a2)) fun r33 x32 =>
    if r33 = 0 then (
      some ((0 : Int32), x32)
    ) else (
      lt_ (a2 + (1 : Int32)) fun b36 =>
      rec53 x32 a1 b36
    )
  )
def fX7_takesOrder_53 (F : Nat) : Nat → HT → Int32 → Int32 → Option (Int32 × HT)
  | 0 => fun _ _ _ => none
  | n + 1 => fX7_takesOrder_53b F (fX7_takesOrder_53 F n)
def fX7_takesOrder (F : Nat) (x : HT) : Option (Int32 × HT) :=
  ck (inb (x.1 0 14) 120) <|
  bd (fX7_manyOf F x (x.1 5 (x.1 0 14).toNatClampNeg)) fun r3 x2 =>
  if r3 = (-1 : Int32) then (
    bd (fX7_fails F x2) fun r13 x12 =>
    ck (isb r13) <|
    some (r13, x12)
  ) else (
    ck (inb (x2.1 0 14) 120) <|
    ck (inb (x2.1 0 13) 60) <|
    lt_ (sI x2 10 (x2.1 0 13).toNatClampNeg (x2.1 5 (x2.1 0 14).toNatClampNeg)) fun x8 =>
    lt_ (sI x8 0 14 ((x8.1 0 14) + (1 : Int32))) fun x10 =>
    fX7_takesOrder_53 F F x10 r3 (0 : Int32)
  )
def fX7_isRead_55 (F : Nat) (x : HT) : Option (Int32 × HT) :=
  some ((1 : Int32), x)
def fX7_isRead_14b (F : Nat) (rec14 : HT → Option (Int32 × HT)) (x : HT) : Option (Int32 × HT) :=
  if (x.1 0 6) ≤ (x.1 0 14) then (
    if 0 < (x.1 0 13) then (
      fX7_isRead_55 F x
    ) else (
      bd (fX7_fails F x) fun r11 x10 =>
      if r11 = 0 then (
        some ((0 : Int32), x10)
      ) else (
        fX7_isRead_55 F x10
      )
    )
  ) else (
    bd (fX7_takesOrder F x) fun r15 x14 =>
    if r15 = 0 then (
      some ((0 : Int32), x14)
    ) else (
      bd (fX7_blanks F x14) fun r19 x18 =>
      rec14 x18
    )
  )
def fX7_isRead_14 (F : Nat) : Nat → HT → Option (Int32 × HT)
  | 0 => fun _ => none
  | n + 1 => fX7_isRead_14b F (fX7_isRead_14 F n)
def fX7_isRead (F : Nat) (x : HT) : Option (Int32 × HT) :=
  lt_ (sI x 0 14 (0 : Int32)) fun x1 =>
  lt_ (sI x1 0 13 (0 : Int32)) fun x3 =>
  bd (fX7_blanks F x3) fun r6 x5 =>
  fX7_isRead_14 F F x5
def fX7_doneOne (F : Nat) (x : HT) (a1 : Int32) : Option (Int32 × HT) :=
  ck (inb ((3 : Int32) * a1) 180) <|
  lt_ (x.1 11 ((3 : Int32) * a1).toNatClampNeg) fun b2 =>
  ck (inb (((3 : Int32) * a1) + (1 : Int32)) 180) <|
  lt_ (x.1 11 (((3 : Int32) * a1) + (1 : Int32)).toNatClampNeg) fun b5 =>
  ck (inb (((3 : Int32) * a1) + (2 : Int32)) 180) <|
  lt_ (x.1 11 (((3 : Int32) * a1) + (2 : Int32)).toNatClampNeg) fun b8 =>
  ck (inb a1 60) <|
  lt_ (x.1 10 a1.toNatClampNeg) fun b11 =>
  if b11 = (103 : Int32) then (
    bd (fX7_putGoal F x b2 b5 b8) fun r15 x14 =>
    some (r15, x14)
  ) else (
  if b11 = (107 : Int32) then (
    bd (fX7_putSteps F x b2) fun r19 x18 =>
    some (r19, x18)
  ) else (
  if b11 = (109 : Int32) then (
    bd (fX7_putMessage F x b2 b5 b8) fun r23 x22 =>
    some (r23, x22)
  ) else (
  if b11 = (116 : Int32) then (
    bd (fX7_putTurn F x b2 b5 b8) fun r27 x26 =>
    some (r27, x26)
  ) else (
  if b11 = (119 : Int32) then (
    bd (fX7_putMesh F x b2 b5) fun r31 x30 =>
    some (r31, x30)
  ) else (
  bd (fX7_putAgain F x) fun r34 x33 =>
  some (r34, x33)
  )))))
def fX7_does_21b (F : Nat) (rec21 : HT → Int32 → Option (Int32 × HT)) (x : HT) (a1 : Int32) : Option (Int32 × HT) :=
  if (x.1 0 13) ≤ a1 then (
    bd (fX7_remembers F x) fun r10 x9 =>
    some ((x9.1 0 13), x9)
  ) else (
    bd (fX7_doneOne F x a1) fun r13 x12 =>
    if (-2 : Int32) < r13 then (
      lt_ (a1 + (1 : Int32)) fun b16 =>
      rec21 x12 b16
    ) else (
      bd (fX7_takesBack F x12) fun r19 x18 =>
      some (((-1000 : Int32) - a1), x18)
    )
  )
def fX7_does_21 (F : Nat) : Nat → HT → Int32 → Option (Int32 × HT)
  | 0 => fun _ _ => none
  | n + 1 => fX7_does_21b F (fX7_does_21 F n)
def fX7_does (F : Nat) (x : HT) : Option (Int32 × HT) :=
  bd (fX7_isRead F x) fun r2 x1 =>
  if r2 = 0 then (
    some (((-10 : Int32) - (x1.1 0 15)), x1)
  ) else (
    bd (fX7_laysAside F x1) fun r6 x5 =>
    fX7_does_21 F F x5 (0 : Int32)
  )
def fX7_toldAt (F : Nat) (x : HT) (a1 : Int32) : Option (Int32 × HT) :=
  if (3 : Int32) ≤ a1 then (
    if a1 = (3 : Int32) then (
      some ((x.1 0 6), x)
    ) else (
      some ((x.1 0 3), x)
    )
  ) else (
    ck (inb a1 3) <|
    some ((x.1 4 a1.toNatClampNeg), x)
  )
def fX7_told (F : Nat) (x : HT) (a1 : Int32) : Option (Int32 × HT) :=
  bd (fX7_in F x a1 (0 : Int32) (4 : Int32)) fun r2 x1 =>
  if r2 = 0 then (
    bd (fX7_refuses F x1 (-2 : Int32)) fun r6 x5 =>
    some (r6, x5)
  ) else (
    bd (fX7_toldAt F x1 a1) fun r9 x8 =>
    some (r9, x8)
  )
def fX7_mix (F : Nat) (x : HT) (a1 : Int64) : Option (Unit × HT) :=
  lt_ (sL x 0 16 (((31 : Int64) * (x.2 0 16)) + a1)) fun x1 =>
  some ((), x1)
def fX7_mixMessage_65b (F : Nat) (rec29 : HT → Int32 → Int32 → Option (Unit × HT)) (rec65 : HT → Int32 → Int32 → Int32 → Option (Unit × HT)) (x : HT) (a1 : Int32) (a2 : Int32) (a3 : Int32) : Option (Unit × HT) :=
  ck (inb a2 10) <|
  if (x.1 7 a2.toNatClampNeg) < a3 then (
    lt_ (a2 + (1 : Int32)) fun b24 =>
    rec29 x a1 b24
  ) else (
    ck (inb (((37 : Int32) * a2) + a3) 370) <|
    bd (fX7_toldOf F x (x.1 6 (((37 : Int32) * a2) + a3).toNatClampNeg)) fun r28 x27 =>
    bd (fX7_mix F x27 r28.toInt64) fun r31 x30 =>
    lt_ (a3 + (1 : Int32)) fun b33 =>
    rec65 x30 a1 a2 b33
  )
def fX7_mixMessage_65 (F : Nat) (rec29 : HT → Int32 → Int32 → Option (Unit × HT)) : Nat → HT → Int32 → Int32 → Int32 → Option (Unit × HT)
  | 0 => fun _ _ _ _ => none
  | n + 1 => fX7_mixMessage_65b F rec29 (fX7_mixMessage_65 F rec29 n)
def fX7_mixMessage_40b (F : Nat) (rec29 : HT → Int32 → Int32 → Option (Unit × HT)) (rec40 : HT → Int32 → Int32 → Int32 → Option (Unit × HT)) (x : HT) (a1 : Int32) (a2 : Int32) (a3 : Int32) : Option (Unit × HT) :=
  if (9 : Int32) ≤ a3 then (
    fX7_mixMessage_65 F rec29 F x a1 a2 (0 : Int32)
  ) else (
    bd (fX7_wormTold F x a2 a3) fun r15 x14 =>
    bd (fX7_mix F x14 r15.toInt64) fun r18 x17 =>
    lt_ (a3 + (1 : Int32)) fun b20 =>
    rec40 x17 a1 a2 b20
  )
def fX7_mixMessage_40 (F : Nat) (rec29 : HT → Int32 → Int32 → Option (Unit × HT)) : Nat → HT → Int32 → Int32 → Int32 → Option (Unit × HT)
  | 0 => fun _ _ _ _ => none
  | n + 1 => fX7_mixMessage_40b F rec29 (fX7_mixMessage_40 F rec29 n)
def fX7_mixMessage_29b (F : Nat) (rec29 : HT → Int32 → Int32 → Option (Unit × HT)) (x : HT) (a1 : Int32) (a2 : Int32) : Option (Unit × HT) :=
  if (((2 : Int32) * a1) + (2 : Int32)) ≤ a2 then (
    some ((), x)
  ) else (
    fX7_mixMessage_40 F rec29 F x a1 a2 (0 : Int32)
  )
def fX7_mixMessage_29 (F : Nat) : Nat → HT → Int32 → Int32 → Option (Unit × HT)
  | 0 => fun _ _ _ => none
  | n + 1 => fX7_mixMessage_29b F (fX7_mixMessage_29 F n)
def fX7_mixMessage_2b (F : Nat) (rec2 : HT → Int32 → Int32 → Option (Unit × HT)) (x : HT) (a1 : Int32) (a2 : Int32) : Option (Unit × HT) :=
  if (6 : Int32) ≤ a2 then (
    lt_ ((2 : Int32) * a1) fun b2 =>
    fX7_mixMessage_29 F F x a1 b2
  ) else (
    bd (fX7_messageTold F x a1 a2) fun r5 x4 =>
    bd (fX7_mix F x4 r5.toInt64) fun r8 x7 =>
    lt_ (a2 + (1 : Int32)) fun b10 =>
    rec2 x7 a1 b10
  )
def fX7_mixMessage_2 (F : Nat) : Nat → HT → Int32 → Int32 → Option (Unit × HT)
  | 0 => fun _ _ _ => none
  | n + 1 => fX7_mixMessage_2b F (fX7_mixMessage_2 F n)
def fX7_mixMessage (F : Nat) (x : HT) (a1 : Int32) : Option (Unit × HT) :=
  fX7_mixMessage_2 F F x a1 (0 : Int32)
def fX7_digest_116b (F : Nat) (rec116 : HT → Int32 → Option (Int64 × HT)) (x : HT) (a1 : Int32) : Option (Int64 × HT) :=
  ck (inb (3 : Int32) 80) <|
  if (x.1 1 (3 : Int32).toNatClampNeg) ≤ a1 then (
    bd (fX7_whenDone F x (-1 : Int32)) fun r42 x41 =>
    bd (fX7_mix F x41 r42.toInt64) fun r45 x44 =>
    some ((x44.2 0 16), x44)
  ) else (
    bd (fX7_mixMessage F x a1) fun r48 x47 =>
    lt_ (a1 + (1 : Int32)) fun b50 =>
    rec116 x47 b50
  )
def fX7_digest_116 (F : Nat) : Nat → HT → Int32 → Option (Int64 × HT)
  | 0 => fun _ _ => none
  | n + 1 => fX7_digest_116b F (fX7_digest_116 F n)
def fX7_digest_99 (F : Nat) (rec60 : HT → Int32 → Option (Int64 × HT)) (rec79 : HT → Int32 → Int32 → Option (Int64 × HT)) (x : HT) (a1 : Int32) (a2 : Int32) (t0 : Int64) : Option (Int64 × HT) :=
  bd (fX7_mix F x t0) fun r35 x34 =>
  lt_ (a2 + (1 : Int32)) fun b37 =>
  rec79 x34 a1 b37
def fX7_digest_79b (F : Nat) (rec60 : HT → Int32 → Option (Int64 × HT)) (rec79 : HT → Int32 → Int32 → Option (Int64 × HT)) (x : HT) (a1 : Int32) (a2 : Int32) : Option (Int64 × HT) :=
  if (4 : Int32) ≤ a2 then (
    lt_ (a1 + (1 : Int32)) fun b28 =>
    rec60 x b28
  ) else (
    bd (fX7_isDown F x a1 a2) fun r31 x30 =>
    if r31 = 0 then (
      fX7_digest_99 F rec60 rec79 x30 a1 a2 (0 : Int64)
    ) else (
      fX7_digest_99 F rec60 rec79 x30 a1 a2 (1 : Int64)
    )
  )
def fX7_digest_79 (F : Nat) (rec60 : HT → Int32 → Option (Int64 × HT)) : Nat → HT → Int32 → Int32 → Option (Int64 × HT)
  | 0 => fun _ _ _ => none
  | n + 1 => fX7_digest_79b F rec60 (fX7_digest_79 F rec60 n)
def fX7_digest_60b (F : Nat) (rec60 : HT → Int32 → Option (Int64 × HT)) (x : HT) (a1 : Int32) : Option (Int64 × HT) :=
  ck (inb (0 : Int32) 80) <|
  ck (inb (1 : Int32) 80) <|
  if ((x.1 1 (0 : Int32).toNatClampNeg) * (x.1 1 (1 : Int32).toNatClampNeg)) ≤ a1 then (
    fX7_digest_116 F F x (0 : Int32)
  ) else (
    fX7_digest_79 F rec60 F x a1 (0 : Int32)
  )
def fX7_digest_60 (F : Nat) : Nat → HT → Int32 → Option (Int64 × HT)
  | 0 => fun _ _ => none
  | n + 1 => fX7_digest_60b F (fX7_digest_60 F n)
def fX7_digest_36b (F : Nat) (rec36 : HT → Int32 → Option (Int64 × HT)) (x : HT) (a1 : Int32) : Option (Int64 × HT) :=
  if (8 : Int32) ≤ a1 then (
    fX7_digest_60 F F x (0 : Int32)
  ) else (
    bd (fX7_countTold F x a1) fun r17 x16 =>
    bd (fX7_mix F x16 r17.toInt64) fun r20 x19 =>
    lt_ (a1 + (1 : Int32)) fun b22 =>
    rec36 x19 b22
  )
def fX7_digest_36 (F : Nat) : Nat → HT → Int32 → Option (Int64 × HT)
  | 0 => fun _ _ => none
  | n + 1 => fX7_digest_36b F (fX7_digest_36 F n)
def fX7_digest_13b (F : Nat) (rec13 : HT → Int32 → Option (Int64 × HT)) (x : HT) (a1 : Int32) : Option (Int64 × HT) :=
  if (5 : Int32) ≤ a1 then (
    fX7_digest_36 F F x (0 : Int32)
  ) else (
    bd (fX7_toldAt F x a1) fun r8 x7 =>
    bd (fX7_mix F x7 r8.toInt64) fun r11 x10 =>
    lt_ (a1 + (1 : Int32)) fun b13 =>
    rec13 x10 b13
  )
def fX7_digest_13 (F : Nat) : Nat → HT → Int32 → Option (Int64 × HT)
  | 0 => fun _ _ => none
  | n + 1 => fX7_digest_13b F (fX7_digest_13 F n)
def fX7_digest (F : Nat) (x : HT) : Option (Int64 × HT) :=
  lt_ (sL x 0 16 (2806 : Int64)) fun x1 =>
  bd (fX7_laysWays F x1) fun r4 x3 =>
  fX7_digest_13 F F x3 (0 : Int32)
