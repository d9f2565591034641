variable {p : Program} {l : Launch} {e : Env} {s : State} {m : MethodId} {args : Array Value} {below : List Frame} {meth : Method} {c : Code} {D : va_G} {cy : Nat → ClassId} {tX tY : Nat} {ad : Nat → Nat} {A : Nat → Prop}
set_option maxHeartbeats 4000000 in
set_option maxRecDepth 100000 in
theorem tX6_of_18 (hC : Cf p s m args meth c cX6_of 3 RX6 (some .int) D cy tX tY ad A 93) (F : Nat) {z : Int32 × HT} : ∀ (x : HT), fX6_of_18 F x = some z → Wd p l e { frames := 4, cells := 0, slots := 0, locals := 96 } s m args below meth c D (eX cy ad) 93 ad A (cQi (eX cy ad) 93 ad D A z) 3 18 [(0, .ref (ad 0))] [] x := by
  intro x hf H locs ls hP hS hl
  obtain ⟨hx, hb, -⟩ := id hC
  refine lv_aload_n hx hb dX6_of_18 rfl (lv_at hl 0 rfl) ?_
  refine lv_bipush (v := -2) hx hb dX6_of_19 (by decide) ?_
  obtain ⟨r11, x10, e12, hf⟩ := bd_some hf
  refine gVi (As := [.int (-2 : Int32)]) (rest := []) (k := 0) hC hP hS (kX6_refuse l D cy tX tY ad A hC.2.2.2.2.2.2.2.2.1 F x (-2 : Int32) e12) glX6_100 ⟨rfl, rfl⟩ hdX6_refuse ⟨Nat.le_of_ble_eq_true rfl, Nat.le_of_ble_eq_true rfl⟩ (by decide) (eX_0 cy ad _ _) rfl rfl hl.1 rfl (Nat.le_of_ble_eq_true rfl) dX6_of_21 ⟨Nat.zero_le _, Nat.zero_le _⟩ (fun H locs hP hS => ?_)
  exact gIret hC hP hS hf dX6_of_24
set_option maxHeartbeats 4000000 in
set_option maxRecDepth 100000 in
theorem kX6_of (l : Launch) (D : va_G) (cy : Nat → ClassId) (tX tY : Nat) (ad : Nat → Nat) (A : Nat → Prop) (hA : apart ad A 93) (F : Nat) (x : HT) (a1 : Int32) (a2 : Int32) {z : Int32 × HT} (hf : fX6_of F x a1 a2 = some z) : Met l yX6_of (Cond.code yX6_of cX6_of 3 (some .int) :: wAll) { frames := 4, cells := 0, slots := 0, locals := 96 } (cPc (eX cy ad) 93 ad D cy tX tY A [.ref (ad 0), .int a1, .int a2] x) (cQi (eX cy ad) 93 ad D A z) 0 0 A := by
  refine gMet hA (by decide) (Nat.le_of_ble_eq_true rfl) (fun p e s m below meth c hC H locs ls hP hS hl => ?_)
  have hC : Cf p s m _ meth c cX6_of 3 RX6 (some .int) D cy tX tY ad A 93 := hC
  have hl : lv_has ls 3 [(0, .ref (ad 0)), (1, .int a1), (2, .int a2)] := hl
  obtain ⟨hx, hb, -⟩ := id hC
  refine lv_aload_n hx hb dX6_of_0 rfl (lv_at hl 0 rfl) ?_
  refine lv_iload_n hx hb dX6_of_1 rfl (lv_at hl 1 rfl) ?_
  obtain ⟨r2, x1, e3, hf⟩ := bd_some hf
  refine gVi (As := [.int a1]) (rest := []) (k := 0) hC hP hS (kX6_hasMessage l D cy tX tY ad A hC.2.2.2.2.2.2.2.2.1 F x a1 e3) glX6_142 ⟨rfl, rfl⟩ hdX6_hasMessage ⟨Nat.le_of_ble_eq_true rfl, Nat.le_of_ble_eq_true rfl⟩ (by decide) (eX_0 cy ad _ _) rfl rfl hl.1 rfl (Nat.le_of_ble_eq_true rfl) dX6_of_2 ⟨Nat.zero_le _, Nat.zero_le _⟩ (fun H locs hP hS => ?_)
  refine lv_if_eq (tgt := 18) hx hb dX6_of_5 (by decide) (fun c4 => ?_) (fun c4 => ?_)
  · have hf := it_t c4 hf
    exact tX6_of_18 hC F x1 hf H locs ls hP hS (lv_sub hl [0] rfl)
  · have hf := it_f c4 hf
    refine lv_iload_n hx hb dX6_of_8 rfl (lv_at hl 2 rfl) ?_
    refine lv_if_lt (tgt := 18) hx hb dX6_of_9 (by decide) (fun c5 => ?_) (fun c5 => ?_)
    · have hf := it_t c5 hf
      exact tX6_of_18 hC F x1 hf H locs ls hP hS (lv_sub hl [0] rfl)
    · have hf := it_f c5 hf
      refine lv_iload_n hx hb dX6_of_12 rfl (lv_at hl 2 rfl) ?_
      refine lv_bipush (v := 6) hx hb dX6_of_13 (by decide) ?_
      refine lv_icmp_lt (tgt := 25) hx hb dX6_of_15 (by decide) (fun c6 => ?_) (fun c6 => ?_)
      · have hf := it_t c6 hf
        refine lv_aload_n hx hb dX6_of_25 rfl (lv_at hl 0 rfl) ?_
        refine lv_iload_n hx hb dX6_of_26 rfl (lv_at hl 1 rfl) ?_
        refine lv_iload_n hx hb dX6_of_27 rfl (lv_at hl 2 rfl) ?_
        obtain ⟨r8, x7, e9, hf⟩ := bd_some hf
        refine gVi (As := [.int a1, .int a2]) (rest := []) (k := 0) hC hP hS (kX6_messageFact l D cy tX tY ad A hC.2.2.2.2.2.2.2.2.1 F x1 a1 a2 e9) glX6_145 ⟨rfl, rfl⟩ hdX6_messageFact ⟨Nat.le_of_ble_eq_true rfl, Nat.le_of_ble_eq_true rfl⟩ (by decide) (eX_0 cy ad _ _) rfl rfl hl.1 rfl (Nat.le_of_ble_eq_true rfl) dX6_of_28 ⟨Nat.zero_le _, Nat.zero_le _⟩ (fun H locs hP hS => ?_)
        exact gIret hC hP hS hf dX6_of_31
      · have hf := it_f c6 hf
        exact tX6_of_18 hC F x1 hf H locs ls hP hS (lv_sub hl [0] rfl)
set_option maxHeartbeats 4000000 in
set_option maxRecDepth 100000 in
theorem tX6_stepsUntilDone_28b (hC : Cf p s m args meth c cX6_stepsUntilDone 3 RX6 (some .int) D cy tX tY ad A 93) (F : Nat) {z : Int32 × HT} (rec28 : HT → Int32 → Int32 → Option (Int32 × HT)) (hrec28 : ∀ (x : HT) (a1 : Int32) (a2 : Int32), rec28 x a1 a2 = some z → Wd p l e { frames := 3, cells := 0, slots := 0, locals := 71 } s m args below meth c D (eX cy ad) 93 ad A (cQi (eX cy ad) 93 ad D A z) 3 28 [(0, .ref (ad 0)), (1, .int a1), (2, .int a2)] [] x) : ∀ (x : HT) (a1 : Int32) (a2 : Int32), fX6_stepsUntilDone_28b F rec28 x a1 a2 = some z → Wd p l e { frames := 3, cells := 0, slots := 0, locals := 71 } s m args below meth c D (eX cy ad) 93 ad A (cQi (eX cy ad) 93 ad D A z) 3 28 [(0, .ref (ad 0)), (1, .int a1), (2, .int a2)] [] x := by
  intro x a1 a2 hf H locs ls hP hS hl
  obtain ⟨hx, hb, -⟩ := id hC
  refine lv_iload_n hx hb dX6_stepsUntilDone_28 rfl (lv_at hl 2 rfl) ?_
  refine lv_sipush (v := 400) hx hb dX6_stepsUntilDone_29 (by decide) ?_
  refine lv_icmp_gt (tgt := 78) hx hb dX6_stepsUntilDone_32 (by decide) (fun c7 => ?_) (fun c7 => ?_)
  · have hf := it_t c7 hf
    refine lv_iconst (v := -1) hx hb dX6_stepsUntilDone_78 (by decide) ?_
    exact gIret hC hP hS hf dX6_stepsUntilDone_79
  · have hf := it_f c7 hf
    refine lv_aload_n hx hb dX6_stepsUntilDone_35 rfl (lv_at hl 0 rfl) ?_
    refine gfX6_39 hC hP dX6_stepsUntilDone_36 ?_
    refine lv_aload_n hx hb dX6_stepsUntilDone_39 rfl (lv_at hl 0 rfl) ?_
    refine gfX6_19 hC hP dX6_stepsUntilDone_40 ?_
    refine lv_iload_n hx hb dX6_stepsUntilDone_43 rfl (lv_at hl 1 rfl) ?_
    obtain ⟨r9, x8, e10, hf⟩ := bd_some hf
    refine gVi (As := [.ref (ad (7 * 2 + 1)), .int a1]) (rest := []) (k := 63) hC hP hS (kX5_undone l D cy tX tY ad A hC.2.2.2.2.2.2.2.2.1 F (j := 2) (by decide) x a1 e10) glX6_254 ⟨rfl, rfl⟩ hdX5_undone ⟨Nat.le_of_ble_eq_true rfl, Nat.le_of_ble_eq_true rfl⟩ (by decide) (eX_63 cy ad _ _) rfl rfl hl.1 rfl (Nat.le_of_ble_eq_true rfl) dX6_stepsUntilDone_44 ⟨Nat.zero_le _, Nat.zero_le _⟩ (fun H locs hP hS => ?_)
    refine lv_if_ne (tgt := 52) hx hb dX6_stepsUntilDone_47 (by decide) (fun c11 => ?_) (fun c11 => ?_)
    · have hf := it_f c11 hf
      refine lv_aload_n hx hb dX6_stepsUntilDone_52 rfl (lv_at hl 0 rfl) ?_
      refine gfX6_46 hC hP dX6_stepsUntilDone_53 ?_
      refine lv_aload_n hx hb dX6_stepsUntilDone_56 rfl (lv_at hl 0 rfl) ?_
      refine gfX6_39 hC hP dX6_stepsUntilDone_57 ?_
      refine lv_aload_n hx hb dX6_stepsUntilDone_60 rfl (lv_at hl 0 rfl) ?_
      refine gfX6_19 hC hP dX6_stepsUntilDone_61 ?_
      obtain ⟨r13, x12, e14, hf⟩ := bd_some hf
      refine gVi (As := [.ref (ad 63), .ref (ad (7 * 2 + 1))]) (rest := []) (k := 87) hC hP hS (kX4_stepOnce l D cy tX tY ad A hC.2.2.2.2.2.2.2.2.1 F (j := 2) (by decide) x8 e14) glX6_316 ⟨rfl, rfl⟩ hdX4_stepOnce ⟨Nat.le_of_ble_eq_true rfl, Nat.le_of_ble_eq_true rfl⟩ (by decide) (eX_87 cy ad _ _) rfl rfl hl.1 rfl (Nat.le_of_ble_eq_true rfl) dX6_stepsUntilDone_64 ⟨Nat.zero_le _, Nat.zero_le _⟩ (fun H locs hP hS => ?_)
      refine lv_if_ne (tgt := 72) hx hb dX6_stepsUntilDone_67 (by decide) (fun c15 => ?_) (fun c15 => ?_)
      · have hf := it_f c15 hf
        obtain ⟨b16, e17, hf⟩ := lt_some hf
        refine lv_iinc (v := b16) (lv' := [(2, .int b16), (0, .ref (ad 0)), (1, .int a1)]) hx hb dX6_stepsUntilDone_72 hl (k := 2) rfl (by rw [e17]; rfl) (by decide) rfl (fun ls hl => ?_)
        refine lv_goto (tgt := 28) hx hb dX6_stepsUntilDone_75 (by decide) ?_
        exact hrec28 x12 a1 b16 hf H locs ls hP hS (lv_sub hl [1, 2, 0] rfl)
      · have hf := it_t c15 hf
        refine lv_iconst (v := -1) hx hb dX6_stepsUntilDone_70 (by decide) ?_
        exact gIret hC hP hS hf dX6_stepsUntilDone_71
    · have hf := it_t c11 hf
      refine lv_iload_n hx hb dX6_stepsUntilDone_50 rfl (lv_at hl 2 rfl) ?_
      exact gIret hC hP hS hf dX6_stepsUntilDone_51
theorem tX6_stepsUntilDone_28 (hC : Cf p s m args meth c cX6_stepsUntilDone 3 RX6 (some .int) D cy tX tY ad A 93) (F : Nat) {z : Int32 × HT} : ∀ (n9 : Nat) (x : HT) (a1 : Int32) (a2 : Int32), fX6_stepsUntilDone_28 F n9 x a1 a2 = some z → Wd p l e { frames := 3, cells := 0, slots := 0, locals := 71 } s m args below meth c D (eX cy ad) 93 ad A (cQi (eX cy ad) 93 ad D A z) 3 28 [(0, .ref (ad 0)), (1, .int a1), (2, .int a2)] [] x := by
  intro n9
  induction n9 with
  | zero => intro x a1 a2 hf; cases hf
  | succ n9 ih => intro x a1 a2 hf; exact tX6_stepsUntilDone_28b hC F (fX6_stepsUntilDone_28 F n9) ih x a1 a2 hf
set_option maxHeartbeats 4000000 in
set_option maxRecDepth 100000 in
theorem kX6_stepsUntilDone (l : Launch) (D : va_G) (cy : Nat → ClassId) (tX tY : Nat) (ad : Nat → Nat) (A : Nat → Prop) (hA : apart ad A 93) (F : Nat) (x : HT) (a1 : Int32) {z : Int32 × HT} (hf : fX6_stepsUntilDone F x a1 = some z) : Met l yX6_stepsUntilDone (Cond.code yX6_stepsUntilDone cX6_stepsUntilDone 3 (some .int) :: wAll) { frames := 3, cells := 0, slots := 0, locals := 71 } (cPc (eX cy ad) 93 ad D cy tX tY A [.ref (ad 0), .int a1] x) (cQi (eX cy ad) 93 ad D A z) 0 0 A := by
  refine gMet hA (by decide) (Nat.le_of_ble_eq_true rfl) (fun p e s m below meth c hC H locs ls hP hS hl => ?_)
  have hC : Cf p s m _ meth c cX6_stepsUntilDone 3 RX6 (some .int) D cy tX tY ad A 93 := hC
  have hl : lv_has ls 3 [(0, .ref (ad 0)), (1, .int a1)] := hl
  obtain ⟨hx, hb, -⟩ := id hC
  refine lv_aload_n hx hb dX6_stepsUntilDone_0 rfl (lv_at hl 0 rfl) ?_
  refine gfX6_19 hC hP dX6_stepsUntilDone_1 ?_
  refine lv_aload_n hx hb dX6_stepsUntilDone_4 rfl (lv_at hl 0 rfl) ?_
  refine gfX6_12 hC hP dX6_stepsUntilDone_5 ?_
  obtain ⟨r2, x1, e3, hf⟩ := bd_some hf
  refine gVv (As := [.ref (ad (7 * 0 + 1))]) (rest := []) (k := (7 * 2 + 1)) hC hP hS (kX2_copyFrom l D cy tX tY ad A hC.2.2.2.2.2.2.2.2.1 F (j := 2) (j2 := 0) (by decide) (by decide) x e3) glX6_64 ⟨rfl, rfl⟩ hdX2_copyFrom ⟨Nat.le_of_ble_eq_true rfl, Nat.le_of_ble_eq_true rfl⟩ (by omega) (eX_S (by decide) cy ad _ _) rfl rfl hl.1 rfl (Nat.le_of_ble_eq_true rfl) dX6_stepsUntilDone_8 ⟨Nat.zero_le _, Nat.zero_le _⟩ (fun H locs hP hS => ?_)
  refine lv_aload_n hx hb dX6_stepsUntilDone_11 rfl (lv_at hl 0 rfl) ?_
  refine gfX6_46 hC hP dX6_stepsUntilDone_12 ?_
  refine lv_aload_n hx hb dX6_stepsUntilDone_15 rfl (lv_at hl 0 rfl) ?_
  refine gfX6_39 hC hP dX6_stepsUntilDone_16 ?_
  refine lv_aload_n hx hb dX6_stepsUntilDone_19 rfl (lv_at hl 0 rfl) ?_
  refine gfX6_19 hC hP dX6_stepsUntilDone_20 ?_
  obtain ⟨r5, x4, e6, hf⟩ := bd_some hf
  refine gVv (As := [.ref (ad 63), .ref (ad (7 * 2 + 1))]) (rest := []) (k := 87) hC hP hS (kX4_enter l D cy tX tY ad A hC.2.2.2.2.2.2.2.2.1 F (j := 2) (by decide) x1 e6) glX6_246 ⟨rfl, rfl⟩ hdX4_enter ⟨Nat.le_of_ble_eq_true rfl, Nat.le_of_ble_eq_true rfl⟩ (by decide) (eX_87 cy ad _ _) rfl rfl hl.1 rfl (Nat.le_of_ble_eq_true rfl) dX6_stepsUntilDone_23 ⟨Nat.zero_le _, Nat.zero_le _⟩ (fun H locs hP hS => ?_)
  refine lv_iconst (v := 0) hx hb dX6_stepsUntilDone_26 (by decide) ?_
  refine lv_istore_n (lv' := [(2, .int (0 : Int32)), (0, .ref (ad 0)), (1, .int a1)]) hx hb dX6_stepsUntilDone_27 rfl hl (by decide) rfl (fun ls hl => ?_)
  exact tX6_stepsUntilDone_28 hC F F x4 a1 (0 : Int32) hf H locs ls hP hS (lv_sub hl [1, 2, 0] rfl)
set_option maxHeartbeats 4000000 in
set_option maxRecDepth 100000 in
theorem tX6_when_13 (hC : Cf p s m args meth c cX6_when 2 RX6 (some .int) D cy tX tY ad A 93) (F : Nat) {z : Int32 × HT} : ∀ (x : HT) (a1 : Int32), fX6_when_13 F x a1 = some z → Wd p l e { frames := 4, cells := 0, slots := 0, locals := 93 } s m args below meth c D (eX cy ad) 93 ad A (cQi (eX cy ad) 93 ad D A z) 2 13 [(0, .ref (ad 0)), (1, .int a1)] [] x := by
  intro x a1 hf H locs ls hP hS hl
  obtain ⟨hx, hb, -⟩ := id hC
  refine lv_aload_n hx hb dX6_when_13 rfl (lv_at hl 0 rfl) ?_
  refine lv_iload_n hx hb dX6_when_14 rfl (lv_at hl 1 rfl) ?_
  obtain ⟨r10, x9, e11, hf⟩ := bd_some hf
  refine gVi (As := [.int a1]) (rest := []) (k := 0) hC hP hS (kX6_stepsUntilDone l D cy tX tY ad A hC.2.2.2.2.2.2.2.2.1 F x a1 e11) glX6_148 ⟨rfl, rfl⟩ hdX6_stepsUntilDone ⟨Nat.le_of_ble_eq_true rfl, Nat.le_of_ble_eq_true rfl⟩ (by decide) (eX_0 cy ad _ _) rfl rfl hl.1 rfl (Nat.le_of_ble_eq_true rfl) dX6_when_15 ⟨Nat.zero_le _, Nat.zero_le _⟩ (fun H locs hP hS => ?_)
  refine lv_goto (tgt := 27) hx hb dX6_when_18 (by decide) ?_
  exact gIret hC hP hS hf dX6_when_27
set_option maxHeartbeats 4000000 in
set_option maxRecDepth 100000 in
theorem kX6_when (l : Launch) (D : va_G) (cy : Nat → ClassId) (tX tY : Nat) (ad : Nat → Nat) (A : Nat → Prop) (hA : apart ad A 93) (F : Nat) (x : HT) (a1 : Int32) {z : Int32 × HT} (hf : fX6_when F x a1 = some z) : Met l yX6_when (Cond.code yX6_when cX6_when 2 (some .int) :: wAll) { frames := 4, cells := 0, slots := 0, locals := 93 } (cPc (eX cy ad) 93 ad D cy tX tY A [.ref (ad 0), .int a1] x) (cQi (eX cy ad) 93 ad D A z) 0 0 A := by
  refine gMet hA (by decide) (Nat.le_of_ble_eq_true rfl) (fun p e s m below meth c hC H locs ls hP hS hl => ?_)
  have hC : Cf p s m _ meth c cX6_when 2 RX6 (some .int) D cy tX tY ad A 93 := hC
  have hl : lv_has ls 2 [(0, .ref (ad 0)), (1, .int a1)] := hl
  obtain ⟨hx, hb, -⟩ := id hC
  refine lv_iload_n hx hb dX6_when_0 rfl (lv_at hl 1 rfl) ?_
  refine lv_iconst (v := -1) hx hb dX6_when_1 (by decide) ?_
  refine lv_icmp_eq (tgt := 13) hx hb dX6_when_2 (by decide) (fun c1 => ?_) (fun c1 => ?_)
  · have hf := it_t c1 hf
    exact tX6_when_13 hC F x a1 hf H locs ls hP hS (lv_sub hl [0, 1] rfl)
  · have hf := it_f c1 hf
    refine lv_aload_n hx hb dX6_when_5 rfl (lv_at hl 0 rfl) ?_
    refine lv_iload_n hx hb dX6_when_6 rfl (lv_at hl 1 rfl) ?_
    obtain ⟨r3, x2, e4, hf⟩ := bd_some hf
    refine gVi (As := [.int a1]) (rest := []) (k := 0) hC hP hS (kX6_hasMessage l D cy tX tY ad A hC.2.2.2.2.2.2.2.2.1 F x a1 e4) glX6_142 ⟨rfl, rfl⟩ hdX6_hasMessage ⟨Nat.le_of_ble_eq_true rfl, Nat.le_of_ble_eq_true rfl⟩ (by decide) (eX_0 cy ad _ _) rfl rfl hl.1 rfl (Nat.le_of_ble_eq_true rfl) dX6_when_7 ⟨Nat.zero_le _, Nat.zero_le _⟩ (fun H locs hP hS => ?_)
    refine lv_if_eq (tgt := 21) hx hb dX6_when_10 (by decide) (fun c5 => ?_) (fun c5 => ?_)
    · have hf := it_t c5 hf
      refine lv_aload_n hx hb dX6_when_21 rfl (lv_at hl 0 rfl) ?_
      refine lv_bipush (v := -2) hx hb dX6_when_22 (by decide) ?_
      obtain ⟨r7, x6, e8, hf⟩ := bd_some hf
      refine gVi (As := [.int (-2 : Int32)]) (rest := []) (k := 0) hC hP hS (kX6_refuse l D cy tX tY ad A hC.2.2.2.2.2.2.2.2.1 F x2 (-2 : Int32) e8) glX6_100 ⟨rfl, rfl⟩ hdX6_refuse ⟨Nat.le_of_ble_eq_true rfl, Nat.le_of_ble_eq_true rfl⟩ (by decide) (eX_0 cy ad _ _) rfl rfl hl.1 rfl (Nat.le_of_ble_eq_true rfl) dX6_when_24 ⟨Nat.zero_le _, Nat.zero_le _⟩ (fun H locs hP hS => ?_)
      exact gIret hC hP hS hf dX6_when_27
    · have hf := it_f c5 hf
      exact tX6_when_13 hC F x2 a1 hf H locs ls hP hS (lv_sub hl [0, 1] rfl)
set_option maxHeartbeats 4000000 in
set_option maxRecDepth 100000 in
theorem tX2_channelsDown_4b (hC : Cf p s m args meth c cX2_channelsDown 3 RX2 (some .int) D cy tX tY ad A 93) (F : Nat) {z : Int32 × HT} {j : Nat} (hj : j < 8) (rec4 : HT → Int32 → Int32 → Option (Int32 × HT)) (hrec4 : ∀ (x : HT) (a1 : Int32) (a2 : Int32), rec4 x a1 a2 = some z → Wd p l e { frames := 1, cells := 0, slots := 0, locals := 20 } s m args below meth c D (eX cy ad) 93 ad A (cQi (eX cy ad) 93 ad D A z) 3 4 [(0, .ref (ad (7 * j + 1))), (1, .int a1), (2, .int a2)] [] x) : ∀ (x : HT) (a1 : Int32) (a2 : Int32), fX2_channelsDown_4b F rec4 j x a1 a2 = some z → Wd p l e { frames := 1, cells := 0, slots := 0, locals := 20 } s m args below meth c D (eX cy ad) 93 ad A (cQi (eX cy ad) 93 ad D A z) 3 4 [(0, .ref (ad (7 * j + 1))), (1, .int a1), (2, .int a2)] [] x := by
  intro x a1 a2 hf H locs ls hP hS hl
  obtain ⟨hx, hb, -⟩ := id hC
  refine lv_iload_n hx hb dX2_channelsDown_4 rfl (lv_at hl 2 rfl) ?_
  refine lv_bipush (v := 36) hx hb dX2_channelsDown_5 (by decide) ?_
  refine lv_icmp_ge (tgt := 28) hx hb dX2_channelsDown_7 (by decide) (fun c1 => ?_) (fun c1 => ?_)
  · have hf := it_t c1 hf
    refine lv_iload_n hx hb dX2_channelsDown_28 rfl (lv_at hl 1 rfl) ?_
    exact gIret hC hP hS hf dX2_channelsDown_29
  · have hf := it_f c1 hf
    refine lv_iload_n hx hb dX2_channelsDown_10 rfl (lv_at hl 1 rfl) ?_
    refine lv_aload_n hx hb dX2_channelsDown_11 rfl (lv_at hl 0 rfl) ?_
    refine gfX2_9 hC hP hj dX2_channelsDown_12 ?_
    refine lv_iload_n hx hb dX2_channelsDown_15 rfl (lv_at hl 2 rfl) ?_
    obtain ⟨h2, hf⟩ := ck_some hf
    refine gIal hC hP (7 * j + 2) (by omega) (eX_S1 hj cy ad _ _) h2 dX2_channelsDown_16 ?_
    obtain ⟨r4, x3, e5, hf⟩ := bd_some hf
    refine gSi (As := [.int (x.1 (7 * j + 2) a2.toNatClampNeg)]) (rest := [.int a1]) hC hP hS (kJ6_bitCount_0f7a4 l D cy tX tY ad A hC.2.2.2.2.2.2.2.2.1 F x (x.1 (7 * j + 2) a2.toNatClampNeg) e5) glX2_69 ⟨rfl, rfl⟩ hdJ6_bitCount_0f7a4 ⟨Nat.le_of_ble_eq_true rfl, Nat.le_of_ble_eq_true rfl⟩ rfl hl.1 rfl (Nat.le_of_ble_eq_true rfl) dX2_channelsDown_17 ⟨Nat.zero_le _, Nat.zero_le _⟩ (fun H locs hP hS => ?_)
    refine lv_iadd hx hb dX2_channelsDown_20 ?_
    refine lv_topi (fun b6 e7 => ?_)
    have hf := lt_use e7 hf
    refine lv_istore_n (lv' := [(1, .int b6), (0, .ref (ad (7 * j + 1))), (2, .int a2)]) hx hb dX2_channelsDown_21 rfl hl (by decide) rfl (fun ls hl => ?_)
    obtain ⟨b8, e9, hf⟩ := lt_some hf
    refine lv_iinc (v := b8) (lv' := [(2, .int b8), (1, .int b6), (0, .ref (ad (7 * j + 1)))]) hx hb dX2_channelsDown_22 hl (k := 2) rfl (by rw [e9]; rfl) (by decide) rfl (fun ls hl => ?_)
    refine lv_goto (tgt := 4) hx hb dX2_channelsDown_25 (by decide) ?_
    exact hrec4 x3 b6 b8 hf H locs ls hP hS (lv_sub hl [2, 1, 0] rfl)
theorem tX2_channelsDown_4 (hC : Cf p s m args meth c cX2_channelsDown 3 RX2 (some .int) D cy tX tY ad A 93) (F : Nat) {z : Int32 × HT} {j : Nat} (hj : j < 8) : ∀ (n9 : Nat) (x : HT) (a1 : Int32) (a2 : Int32), fX2_channelsDown_4 F j n9 x a1 a2 = some z → Wd p l e { frames := 1, cells := 0, slots := 0, locals := 20 } s m args below meth c D (eX cy ad) 93 ad A (cQi (eX cy ad) 93 ad D A z) 3 4 [(0, .ref (ad (7 * j + 1))), (1, .int a1), (2, .int a2)] [] x := by
  intro n9
  induction n9 with
  | zero => intro x a1 a2 hf; cases hf
  | succ n9 ih => intro x a1 a2 hf; exact tX2_channelsDown_4b hC F hj (fX2_channelsDown_4 F j n9) ih x a1 a2 hf
set_option maxHeartbeats 4000000 in
set_option maxRecDepth 100000 in
theorem kX2_channelsDown (l : Launch) (D : va_G) (cy : Nat → ClassId) (tX tY : Nat) (ad : Nat → Nat) (A : Nat → Prop) (hA : apart ad A 93) (F : Nat) {j : Nat} (hj : j < 8) (x : HT) {z : Int32 × HT} (hf : fX2_channelsDown F j x = some z) : Met l yX2_channelsDown (Cond.code yX2_channelsDown cX2_channelsDown 3 (some .int) :: wAll) { frames := 1, cells := 0, slots := 0, locals := 20 } (cPc (eX cy ad) 93 ad D cy tX tY A [.ref (ad (7 * j + 1))] x) (cQi (eX cy ad) 93 ad D A z) 0 0 A := by
  refine gMet hA (by decide) (Nat.le_of_ble_eq_true rfl) (fun p e s m below meth c hC H locs ls hP hS hl => ?_)
  have hC : Cf p s m _ meth c cX2_channelsDown 3 RX2 (some .int) D cy tX tY ad A 93 := hC
  have hl : lv_has ls 3 [(0, .ref (ad (7 * j + 1)))] := hl
  obtain ⟨hx, hb, -⟩ := id hC
  refine lv_iconst (v := 0) hx hb dX2_channelsDown_0 (by decide) ?_
  refine lv_istore_n (lv' := [(1, .int (0 : Int32)), (0, .ref (ad (7 * j + 1)))]) hx hb dX2_channelsDown_1 rfl hl (by decide) rfl (fun ls hl => ?_)
  refine lv_iconst (v := 0) hx hb dX2_channelsDown_2 (by decide) ?_
  refine lv_istore_n (lv' := [(2, .int (0 : Int32)), (1, .int (0 : Int32)), (0, .ref (ad (7 * j + 1)))]) hx hb dX2_channelsDown_3 rfl hl (by decide) rfl (fun ls hl => ?_)
  exact tX2_channelsDown_4 hC F hj F x (0 : Int32) (0 : Int32) hf H locs ls hP hS (lv_sub hl [2, 1, 0] rfl)
set_option maxHeartbeats 4000000 in
set_option maxRecDepth 100000 in
theorem tX5_channelsHeld_4b (hC : Cf p s m args meth c cX5_channelsHeld 4 RX5 (some .int) D cy tX tY ad A 93) (F : Nat) {z : Int32 × HT} {j : Nat} (hj : j < 8) (rec4 : HT → Int32 → Int32 → Option (Int32 × HT)) (hrec4 : ∀ (x : HT) (a2 : Int32) (a3 : Int32), rec4 x a2 a3 = some z → Wd p l e { frames := 2, cells := 0, slots := 0, locals := 43 } s m args below meth c D (eX cy ad) 93 ad A (cQi (eX cy ad) 93 ad D A z) 4 4 [(0, .ref (ad 63)), (1, .ref (ad (7 * j + 1))), (2, .int a2), (3, .int a3)] [] x) : ∀ (x : HT) (a2 : Int32) (a3 : Int32), fX5_channelsHeld_4b F rec4 j x a2 a3 = some z → Wd p l e { frames := 2, cells := 0, slots := 0, locals := 43 } s m args below meth c D (eX cy ad) 93 ad A (cQi (eX cy ad) 93 ad D A z) 4 4 [(0, .ref (ad 63)), (1, .ref (ad (7 * j + 1))), (2, .int a2), (3, .int a3)] [] x := by
  intro x a2 a3 hf H locs ls hP hS hl
  obtain ⟨hx, hb, -⟩ := id hC
  refine lv_iload_n hx hb dX5_channelsHeld_4 rfl (lv_at hl 3 rfl) ?_
  refine lv_aload_n hx hb dX5_channelsHeld_5 rfl (lv_at hl 1 rfl) ?_
  obtain ⟨r2, x1, e3, hf⟩ := bd_some hf
  refine gVi (As := []) (rest := [.int a3]) (k := (7 * j + 1)) hC hP hS (kX2_worms l D cy tX tY ad A hC.2.2.2.2.2.2.2.2.1 F (j := j) hj x e3) glX5_71 ⟨rfl, rfl⟩ hdX2_worms ⟨Nat.le_of_ble_eq_true rfl, Nat.le_of_ble_eq_true rfl⟩ (by omega) (eX_S hj cy ad _ _) rfl rfl hl.1 rfl (Nat.le_of_ble_eq_true rfl) dX5_channelsHeld_6 ⟨Nat.zero_le _, Nat.zero_le _⟩ (fun H locs hP hS => ?_)
  refine lv_icmp_ge (tgt := 34) hx hb dX5_channelsHeld_9 (by decide) (fun c4 => ?_) (fun c4 => ?_)
  · have hf := it_t c4 hf
    refine lv_iload_n hx hb dX5_channelsHeld_34 rfl (lv_at hl 2 rfl) ?_
    exact gIret hC hP hS hf dX5_channelsHeld_35
  · have hf := it_f c4 hf
    refine lv_iload_n hx hb dX5_channelsHeld_12 rfl (lv_at hl 2 rfl) ?_
    refine lv_aload_n hx hb dX5_channelsHeld_13 rfl (lv_at hl 0 rfl) ?_
    refine lv_aload_n hx hb dX5_channelsHeld_14 rfl (lv_at hl 1 rfl) ?_
    refine lv_iload_n hx hb dX5_channelsHeld_15 rfl (lv_at hl 3 rfl) ?_
    obtain ⟨r6, x5, e7, hf⟩ := bd_some hf
    refine gVi (As := [.ref (ad (7 * j + 1)), .int a3]) (rest := [.int a2]) (k := 63) hC hP hS (kX5_headOf l D cy tX tY ad A hC.2.2.2.2.2.2.2.2.1 F (j := j) hj x1 a3 e7) glX5_64 ⟨rfl, rfl⟩ hdX5_headOf ⟨Nat.le_of_ble_eq_true rfl, Nat.le_of_ble_eq_true rfl⟩ (by decide) (eX_63 cy ad _ _) rfl rfl hl.1 rfl (Nat.le_of_ble_eq_true rfl) dX5_channelsHeld_16 ⟨Nat.zero_le _, Nat.zero_le _⟩ (fun H locs hP hS => ?_)
    refine lv_aload_n hx hb dX5_channelsHeld_19 rfl (lv_at hl 0 rfl) ?_
    refine lv_aload_n hx hb dX5_channelsHeld_20 rfl (lv_at hl 1 rfl) ?_
    refine lv_iload_n hx hb dX5_channelsHeld_21 rfl (lv_at hl 3 rfl) ?_
    obtain ⟨r9, x8, e10, hf⟩ := bd_some hf
    refine gVi (As := [.ref (ad (7 * j + 1)), .int a3]) (rest := [.int r6, .int a2]) (k := 63) hC hP hS (kX5_tailOf l D cy tX tY ad A hC.2.2.2.2.2.2.2.2.1 F (j := j) hj x5 a3 e10) glX5_79 ⟨rfl, rfl⟩ hdX5_tailOf ⟨Nat.le_of_ble_eq_true rfl, Nat.le_of_ble_eq_true rfl⟩ (by decide) (eX_63 cy ad _ _) rfl rfl hl.1 rfl (Nat.le_of_ble_eq_true rfl) dX5_channelsHeld_22 ⟨Nat.zero_le _, Nat.zero_le _⟩ (fun H locs hP hS => ?_)
    refine lv_isub hx hb dX5_channelsHeld_25 ?_
    refine lv_iadd hx hb dX5_channelsHeld_26 ?_
    refine lv_topi (fun b11 e12 => ?_)
    have hf := lt_use e12 hf
    refine lv_istore_n (lv' := [(2, .int b11), (0, .ref (ad 63)), (1, .ref (ad (7 * j + 1))), (3, .int a3)]) hx hb dX5_channelsHeld_27 rfl hl (by decide) rfl (fun ls hl => ?_)
    obtain ⟨b13, e14, hf⟩ := lt_some hf
    refine lv_iinc (v := b13) (lv' := [(3, .int b13), (2, .int b11), (0, .ref (ad 63)), (1, .ref (ad (7 * j + 1)))]) hx hb dX5_channelsHeld_28 hl (k := 3) rfl (by rw [e14]; rfl) (by decide) rfl (fun ls hl => ?_)
    refine lv_goto (tgt := 4) hx hb dX5_channelsHeld_31 (by decide) ?_
    exact hrec4 x8 b11 b13 hf H locs ls hP hS (lv_sub hl [2, 3, 1, 0] rfl)
theorem tX5_channelsHeld_4 (hC : Cf p s m args meth c cX5_channelsHeld 4 RX5 (some .int) D cy tX tY ad A 93) (F : Nat) {z : Int32 × HT} {j : Nat} (hj : j < 8) : ∀ (n9 : Nat) (x : HT) (a2 : Int32) (a3 : Int32), fX5_channelsHeld_4 F j n9 x a2 a3 = some z → Wd p l e { frames := 2, cells := 0, slots := 0, locals := 43 } s m args below meth c D (eX cy ad) 93 ad A (cQi (eX cy ad) 93 ad D A z) 4 4 [(0, .ref (ad 63)), (1, .ref (ad (7 * j + 1))), (2, .int a2), (3, .int a3)] [] x := by
  intro n9
  induction n9 with
  | zero => intro x a2 a3 hf; cases hf
  | succ n9 ih => intro x a2 a3 hf; exact tX5_channelsHeld_4b hC F hj (fX5_channelsHeld_4 F j n9) ih x a2 a3 hf
set_option maxHeartbeats 4000000 in
set_option maxRecDepth 100000 in
theorem kX5_channelsHeld (l : Launch) (D : va_G) (cy : Nat → ClassId) (tX tY : Nat) (ad : Nat → Nat) (A : Nat → Prop) (hA : apart ad A 93) (F : Nat) {j : Nat} (hj : j < 8) (x : HT) {z : Int32 × HT} (hf : fX5_channelsHeld F j x = some z) : Met l yX5_channelsHeld (Cond.code yX5_channelsHeld cX5_channelsHeld 4 (some .int) :: wAll) { frames := 2, cells := 0, slots := 0, locals := 43 } (cPc (eX cy ad) 93 ad D cy tX tY A [.ref (ad 63), .ref (ad (7 * j + 1))] x) (cQi (eX cy ad) 93 ad D A z) 0 0 A := by
  refine gMet hA (by decide) (Nat.le_of_ble_eq_true rfl) (fun p e s m below meth c hC H locs ls hP hS hl => ?_)
  have hC : Cf p s m _ meth c cX5_channelsHeld 4 RX5 (some .int) D cy tX tY ad A 93 := hC
  have hl : lv_has ls 4 [(0, .ref (ad 63)), (1, .ref (ad (7 * j + 1)))] := hl
  obtain ⟨hx, hb, -⟩ := id hC
  refine lv_iconst (v := 0) hx hb dX5_channelsHeld_0 (by decide) ?_
  refine lv_istore_n (lv' := [(2, .int (0 : Int32)), (0, .ref (ad 63)), (1, .ref (ad (7 * j + 1)))]) hx hb dX5_channelsHeld_1 rfl hl (by decide) rfl (fun ls hl => ?_)
  refine lv_iconst (v := 0) hx hb dX5_channelsHeld_2 (by decide) ?_
  refine lv_istore_n (lv' := [(3, .int (0 : Int32)), (2, .int (0 : Int32)), (0, .ref (ad 63)), (1, .ref (ad (7 * j + 1)))]) hx hb dX5_channelsHeld_3 rfl hl (by decide) rfl (fun ls hl => ?_)
  exact tX5_channelsHeld_4 hC F hj F x (0 : Int32) (0 : Int32) hf H locs ls hP hS (lv_sub hl [2, 3, 1, 0] rfl)
set_option maxHeartbeats 4000000 in
set_option maxRecDepth 100000 in
theorem tX2_waitedInAll_4b (hC : Cf p s m args meth c cX2_waitedInAll 3 RX2 (some .int) D cy tX tY ad A 93) (F : Nat) {z : Int32 × HT} {j : Nat} (hj : j < 8) (rec4 : HT → Int32 → Int32 → Option (Int32 × HT)) (hrec4 : ∀ (x : HT) (a1 : Int32) (a2 : Int32), rec4 x a1 a2 = some z → Wd p l e { frames := 1, cells := 0, slots := 0, locals := 20 } s m args below meth c D (eX cy ad) 93 ad A (cQi (eX cy ad) 93 ad D A z) 3 4 [(0, .ref (ad (7 * j + 1))), (1, .int a1), (2, .int a2)] [] x) : ∀ (x : HT) (a1 : Int32) (a2 : Int32), fX2_waitedInAll_4b F rec4 j x a1 a2 = some z → Wd p l e { frames := 1, cells := 0, slots := 0, locals := 20 } s m args below meth c D (eX cy ad) 93 ad A (cQi (eX cy ad) 93 ad D A z) 3 4 [(0, .ref (ad (7 * j + 1))), (1, .int a1), (2, .int a2)] [] x := by
  intro x a1 a2 hf H locs ls hP hS hl
  obtain ⟨hx, hb, -⟩ := id hC
  refine lv_iload_n hx hb dX2_waitedInAll_4 rfl (lv_at hl 2 rfl) ?_
  refine lv_aload_n hx hb dX2_waitedInAll_5 rfl (lv_at hl 0 rfl) ?_
  obtain ⟨r2, x1, e3, hf⟩ := bd_some hf
  refine gVi (As := []) (rest := [.int a2]) (k := (7 * j + 1)) hC hP hS (kX2_worms l D cy tX tY ad A hC.2.2.2.2.2.2.2.2.1 F (j := j) hj x e3) glX2_74 ⟨rfl, rfl⟩ hdX2_worms ⟨Nat.le_of_ble_eq_true rfl, Nat.le_of_ble_eq_true rfl⟩ (by omega) (eX_S hj cy ad _ _) rfl rfl hl.1 rfl (Nat.le_of_ble_eq_true rfl) dX2_waitedInAll_6 ⟨Nat.zero_le _, Nat.zero_le _⟩ (fun H locs hP hS => ?_)
  refine lv_icmp_ge (tgt := 27) hx hb dX2_waitedInAll_9 (by decide) (fun c4 => ?_) (fun c4 => ?_)
  · have hf := it_t c4 hf
    refine lv_iload_n hx hb dX2_waitedInAll_27 rfl (lv_at hl 1 rfl) ?_
    exact gIret hC hP hS hf dX2_waitedInAll_28
  · have hf := it_f c4 hf
    refine lv_iload_n hx hb dX2_waitedInAll_12 rfl (lv_at hl 1 rfl) ?_
    refine lv_aload_n hx hb dX2_waitedInAll_13 rfl (lv_at hl 0 rfl) ?_
    refine gfX2_28 hC hP hj dX2_waitedInAll_14 ?_
    refine lv_iload_n hx hb dX2_waitedInAll_17 rfl (lv_at hl 2 rfl) ?_
    obtain ⟨h5, hf⟩ := ck_some hf
    refine gIal hC hP (7 * j + 7) (by omega) (eX_S6 hj cy ad _ _) h5 dX2_waitedInAll_18 ?_
    refine lv_iadd hx hb dX2_waitedInAll_19 ?_
    refine lv_topi (fun b6 e7 => ?_)
    have hf := lt_use e7 hf
    refine lv_istore_n (lv' := [(1, .int b6), (0, .ref (ad (7 * j + 1))), (2, .int a2)]) hx hb dX2_waitedInAll_20 rfl hl (by decide) rfl (fun ls hl => ?_)
    obtain ⟨b8, e9, hf⟩ := lt_some hf
    refine lv_iinc (v := b8) (lv' := [(2, .int b8), (1, .int b6), (0, .ref (ad (7 * j + 1)))]) hx hb dX2_waitedInAll_21 hl (k := 2) rfl (by rw [e9]; rfl) (by decide) rfl (fun ls hl => ?_)
    refine lv_goto (tgt := 4) hx hb dX2_waitedInAll_24 (by decide) ?_
    exact hrec4 x1 b6 b8 hf H locs ls hP hS (lv_sub hl [2, 1, 0] rfl)
theorem tX2_waitedInAll_4 (hC : Cf p s m args meth c cX2_waitedInAll 3 RX2 (some .int) D cy tX tY ad A 93) (F : Nat) {z : Int32 × HT} {j : Nat} (hj : j < 8) : ∀ (n9 : Nat) (x : HT) (a1 : Int32) (a2 : Int32), fX2_waitedInAll_4 F j n9 x a1 a2 = some z → Wd p l e { frames := 1, cells := 0, slots := 0, locals := 20 } s m args below meth c D (eX cy ad) 93 ad A (cQi (eX cy ad) 93 ad D A z) 3 4 [(0, .ref (ad (7 * j + 1))), (1, .int a1), (2, .int a2)] [] x := by
  intro n9
  induction n9 with
  | zero => intro x a1 a2 hf; cases hf
  | succ n9 ih => intro x a1 a2 hf; exact tX2_waitedInAll_4b hC F hj (fX2_waitedInAll_4 F j n9) ih x a1 a2 hf
set_option maxHeartbeats 4000000 in
set_option maxRecDepth 100000 in
theorem kX2_waitedInAll (l : Launch) (D : va_G) (cy : Nat → ClassId) (tX tY : Nat) (ad : Nat → Nat) (A : Nat → Prop) (hA : apart ad A 93) (F : Nat) {j : Nat} (hj : j < 8) (x : HT) {z : Int32 × HT} (hf : fX2_waitedInAll F j x = some z) : Met l yX2_waitedInAll (Cond.code yX2_waitedInAll cX2_waitedInAll 3 (some .int) :: wAll) { frames := 1, cells := 0, slots := 0, locals := 20 } (cPc (eX cy ad) 93 ad D cy tX tY A [.ref (ad (7 * j + 1))] x) (cQi (eX cy ad) 93 ad D A z) 0 0 A := by
  refine gMet hA (by decide) (Nat.le_of_ble_eq_true rfl) (fun p e s m below meth c hC H locs ls hP hS hl => ?_)
  have hC : Cf p s m _ meth c cX2_waitedInAll 3 RX2 (some .int) D cy tX tY ad A 93 := hC
  have hl : lv_has ls 3 [(0, .ref (ad (7 * j + 1)))] := hl
  obtain ⟨hx, hb, -⟩ := id hC
  refine lv_iconst (v := 0) hx hb dX2_waitedInAll_0 (by decide) ?_
  refine lv_istore_n (lv' := [(1, .int (0 : Int32)), (0, .ref (ad (7 * j + 1)))]) hx hb dX2_waitedInAll_1 rfl hl (by decide) rfl (fun ls hl => ?_)
  refine lv_iconst (v := 0) hx hb dX2_waitedInAll_2 (by decide) ?_
  refine lv_istore_n (lv' := [(2, .int (0 : Int32)), (1, .int (0 : Int32)), (0, .ref (ad (7 * j + 1)))]) hx hb dX2_waitedInAll_3 rfl hl (by decide) rfl (fun ls hl => ?_)
  exact tX2_waitedInAll_4 hC F hj F x (0 : Int32) (0 : Int32) hf H locs ls hP hS (lv_sub hl [2, 1, 0] rfl)
set_option maxHeartbeats 4000000 in
set_option maxRecDepth 100000 in
theorem tX6_messagesDone_33 (hC : Cf p s m args meth c cX6_messagesDone 3 RX6 (some .int) D cy tX tY ad A 93) (F : Nat) {z : Int32 × HT} (rec4 : HT → Int32 → Int32 → Option (Int32 × HT)) (hrec4 : ∀ (x : HT) (a1 : Int32) (a2 : Int32), rec4 x a1 a2 = some z → Wd p l e { frames := 3, cells := 0, slots := 0, locals := 69 } s m args below meth c D (eX cy ad) 93 ad A (cQi (eX cy ad) 93 ad D A z) 3 4 [(0, .ref (ad 0)), (1, .int a1), (2, .int a2)] [] x) : ∀ (x : HT) (a1 : Int32) (a2 : Int32), fX6_messagesDone_33 F rec4 x a1 a2 = some z → Wd p l e { frames := 3, cells := 0, slots := 0, locals := 69 } s m args below meth c D (eX cy ad) 93 ad A (cQi (eX cy ad) 93 ad D A z) 3 33 [(0, .ref (ad 0)), (1, .int a1), (2, .int a2)] [] x := by
  intro x a1 a2 hf H locs ls hP hS hl
  obtain ⟨hx, hb, -⟩ := id hC
  obtain ⟨b8, e9, hf⟩ := lt_some hf
  refine lv_iinc (v := b8) (lv' := [(2, .int b8), (0, .ref (ad 0)), (1, .int a1)]) hx hb dX6_messagesDone_33 hl (k := 2) rfl (by rw [e9]; rfl) (by decide) rfl (fun ls hl => ?_)
  refine lv_goto (tgt := 4) hx hb dX6_messagesDone_36 (by decide) ?_
  exact hrec4 x a1 b8 hf H locs ls hP hS (lv_sub hl [1, 2, 0] rfl)
set_option maxHeartbeats 4000000 in
set_option maxRecDepth 100000 in
theorem tX6_messagesDone_4b (hC : Cf p s m args meth c cX6_messagesDone 3 RX6 (some .int) D cy tX tY ad A 93) (F : Nat) {z : Int32 × HT} (rec4 : HT → Int32 → Int32 → Option (Int32 × HT)) (hrec4 : ∀ (x : HT) (a1 : Int32) (a2 : Int32), rec4 x a1 a2 = some z → Wd p l e { frames := 3, cells := 0, slots := 0, locals := 69 } s m args below meth c D (eX cy ad) 93 ad A (cQi (eX cy ad) 93 ad D A z) 3 4 [(0, .ref (ad 0)), (1, .int a1), (2, .int a2)] [] x) : ∀ (x : HT) (a1 : Int32) (a2 : Int32), fX6_messagesDone_4b F rec4 x a1 a2 = some z → Wd p l e { frames := 3, cells := 0, slots := 0, locals := 69 } s m args below meth c D (eX cy ad) 93 ad A (cQi (eX cy ad) 93 ad D A z) 3 4 [(0, .ref (ad 0)), (1, .int a1), (2, .int a2)] [] x := by
  intro x a1 a2 hf H locs ls hP hS hl
  obtain ⟨hx, hb, -⟩ := id hC
  refine lv_iload_n hx hb dX6_messagesDone_4 rfl (lv_at hl 2 rfl) ?_
  refine lv_aload_n hx hb dX6_messagesDone_5 rfl (lv_at hl 0 rfl) ?_
  refine gfX6_12 hC hP dX6_messagesDone_6 ?_
  refine gfX6_203 hC hP (by decide) dX6_messagesDone_9 ?_
  refine lv_icmp_ge (tgt := 39) hx hb dX6_messagesDone_12 (by decide) (fun c1 => ?_) (fun c1 => ?_)
  · have hf := it_t c1 hf
    refine lv_iload_n hx hb dX6_messagesDone_39 rfl (lv_at hl 1 rfl) ?_
    exact gIret hC hP hS hf dX6_messagesDone_40
  · have hf := it_f c1 hf
    refine lv_aload_n hx hb dX6_messagesDone_15 rfl (lv_at hl 0 rfl) ?_
    refine gfX6_39 hC hP dX6_messagesDone_16 ?_
    refine lv_aload_n hx hb dX6_messagesDone_19 rfl (lv_at hl 0 rfl) ?_
    refine gfX6_12 hC hP dX6_messagesDone_20 ?_
    refine lv_iload_n hx hb dX6_messagesDone_23 rfl (lv_at hl 2 rfl) ?_
    obtain ⟨r3, x2, e4, hf⟩ := bd_some hf
    refine gVi (As := [.ref (ad (7 * 0 + 1)), .int a2]) (rest := []) (k := 63) hC hP hS (kX5_undone l D cy tX tY ad A hC.2.2.2.2.2.2.2.2.1 F (j := 0) (by decide) x a2 e4) glX6_254 ⟨rfl, rfl⟩ hdX5_undone ⟨Nat.le_of_ble_eq_true rfl, Nat.le_of_ble_eq_true rfl⟩ (by decide) (eX_63 cy ad _ _) rfl rfl hl.1 rfl (Nat.le_of_ble_eq_true rfl) dX6_messagesDone_24 ⟨Nat.zero_le _, Nat.zero_le _⟩ (fun H locs hP hS => ?_)
    refine lv_if_ne (tgt := 33) hx hb dX6_messagesDone_27 (by decide) (fun c5 => ?_) (fun c5 => ?_)
    · have hf := it_f c5 hf
      exact tX6_messagesDone_33 hC F rec4 hrec4 x2 a1 a2 hf H locs ls hP hS (lv_sub hl [0, 1, 2] rfl)
    · have hf := it_t c5 hf
      obtain ⟨b6, e7, hf⟩ := lt_some hf
      refine lv_iinc (v := b6) (lv' := [(1, .int b6), (0, .ref (ad 0)), (2, .int a2)]) hx hb dX6_messagesDone_30 hl (k := 1) rfl (by rw [e7]; rfl) (by decide) rfl (fun ls hl => ?_)
      exact tX6_messagesDone_33 hC F rec4 hrec4 x2 b6 a2 hf H locs ls hP hS (lv_sub hl [1, 0, 2] rfl)
theorem tX6_messagesDone_4 (hC : Cf p s m args meth c cX6_messagesDone 3 RX6 (some .int) D cy tX tY ad A 93) (F : Nat) {z : Int32 × HT} : ∀ (n9 : Nat) (x : HT) (a1 : Int32) (a2 : Int32), fX6_messagesDone_4 F n9 x a1 a2 = some z → Wd p l e { frames := 3, cells := 0, slots := 0, locals := 69 } s m args below meth c D (eX cy ad) 93 ad A (cQi (eX cy ad) 93 ad D A z) 3 4 [(0, .ref (ad 0)), (1, .int a1), (2, .int a2)] [] x := by
  intro n9
  induction n9 with
  | zero => intro x a1 a2 hf; cases hf
  | succ n9 ih => intro x a1 a2 hf; exact tX6_messagesDone_4b hC F (fX6_messagesDone_4 F n9) ih x a1 a2 hf
set_option maxHeartbeats 4000000 in
set_option maxRecDepth 100000 in
theorem kX6_messagesDone (l : Launch) (D : va_G) (cy : Nat → ClassId) (tX tY : Nat) (ad : Nat → Nat) (A : Nat → Prop) (hA : apart ad A 93) (F : Nat) (x : HT) {z : Int32 × HT} (hf : fX6_messagesDone F x = some z) : Met l yX6_messagesDone (Cond.code yX6_messagesDone cX6_messagesDone 3 (some .int) :: wAll) { frames := 3, cells := 0, slots := 0, locals := 69 } (cPc (eX cy ad) 93 ad D cy tX tY A [.ref (ad 0)] x) (cQi (eX cy ad) 93 ad D A z) 0 0 A := by
  refine gMet hA (by decide) (Nat.le_of_ble_eq_true rfl) (fun p e s m below meth c hC H locs ls hP hS hl => ?_)
  have hC : Cf p s m _ meth c cX6_messagesDone 3 RX6 (some .int) D cy tX tY ad A 93 := hC
  have hl : lv_has ls 3 [(0, .ref (ad 0))] := hl
  obtain ⟨hx, hb, -⟩ := id hC
  refine lv_iconst (v := 0) hx hb dX6_messagesDone_0 (by decide) ?_
  refine lv_istore_n (lv' := [(1, .int (0 : Int32)), (0, .ref (ad 0))]) hx hb dX6_messagesDone_1 rfl hl (by decide) rfl (fun ls hl => ?_)
  refine lv_iconst (v := 0) hx hb dX6_messagesDone_2 (by decide) ?_
  refine lv_istore_n (lv' := [(2, .int (0 : Int32)), (1, .int (0 : Int32)), (0, .ref (ad 0))]) hx hb dX6_messagesDone_3 rfl hl (by decide) rfl (fun ls hl => ?_)
  exact tX6_messagesDone_4 hC F F x (0 : Int32) (0 : Int32) hf H locs ls hP hS (lv_sub hl [2, 1, 0] rfl)
set_option maxHeartbeats 4000000 in
set_option maxRecDepth 100000 in
theorem kX6_countFact (l : Launch) (D : va_G) (cy : Nat → ClassId) (tX tY : Nat) (ad : Nat → Nat) (A : Nat → Prop) (hA : apart ad A 93) (F : Nat) (x : HT) (a1 : Int32) {z : Int32 × HT} (hf : fX6_countFact F x a1 = some z) : Met l yX6_countFact (Cond.code yX6_countFact cX6_countFact 2 (some .int) :: wAll) { frames := 4, cells := 0, slots := 0, locals := 91 } (cPc (eX cy ad) 93 ad D cy tX tY A [.ref (ad 0), .int a1] x) (cQi (eX cy ad) 93 ad D A z) 0 0 A := by
  refine gMet hA (by decide) (Nat.le_of_ble_eq_true rfl) (fun p e s m below meth c hC H locs ls hP hS hl => ?_)
  have hC : Cf p s m _ meth c cX6_countFact 2 RX6 (some .int) D cy tX tY ad A 93 := hC
  have hl : lv_has ls 2 [(0, .ref (ad 0)), (1, .int a1)] := hl
  obtain ⟨hx, hb, -⟩ := id hC
  refine lv_iload_n hx hb dX6_countFact_0 rfl (lv_at hl 1 rfl) ?_
  by_cases c1 : a1 = (0 : Int32)
  · have hf := it_t c1 hf
    refine lv_tableIn (tgt := 44) (off := 43) hx hb dX6_countFact_1 (by rw [c1]; decide) (by rw [c1]; decide) (by rw [c1]; decide) (by decide) ?_
    refine lv_aload_n hx hb dX6_countFact_44 rfl (lv_at hl 0 rfl) ?_
    refine gfX6_12 hC hP dX6_countFact_45 ?_
    refine gfX6_298 hC hP (by decide) dX6_countFact_48 ?_
    exact gIret hC hP hS hf dX6_countFact_51
  have hf := it_f c1 hf
  by_cases c2 : a1 = (1 : Int32)
  · have hf := it_t c2 hf
    refine lv_tableIn (tgt := 52) (off := 51) hx hb dX6_countFact_1 (by rw [c2]; decide) (by rw [c2]; decide) (by rw [c2]; decide) (by decide) ?_
    refine lv_aload_n hx hb dX6_countFact_52 rfl (lv_at hl 0 rfl) ?_
    refine gfX6_12 hC hP dX6_countFact_53 ?_
    refine gfX6_301 hC hP (by decide) dX6_countFact_56 ?_
    exact gIret hC hP hS hf dX6_countFact_59
  have hf := it_f c2 hf
  by_cases c3 : a1 = (2 : Int32)
  · have hf := it_t c3 hf
    refine lv_tableIn (tgt := 60) (off := 59) hx hb dX6_countFact_1 (by rw [c3]; decide) (by rw [c3]; decide) (by rw [c3]; decide) (by decide) ?_
    refine lv_aload_n hx hb dX6_countFact_60 rfl (lv_at hl 0 rfl) ?_
    refine gfX6_12 hC hP dX6_countFact_61 ?_
    refine gfX6_203 hC hP (by decide) dX6_countFact_64 ?_
    exact gIret hC hP hS hf dX6_countFact_67
  have hf := it_f c3 hf
  by_cases c4 : a1 = (3 : Int32)
  · have hf := it_t c4 hf
    refine lv_tableIn (tgt := 68) (off := 67) hx hb dX6_countFact_1 (by rw [c4]; decide) (by rw [c4]; decide) (by rw [c4]; decide) (by decide) ?_
    refine lv_aload_n hx hb dX6_countFact_68 rfl (lv_at hl 0 rfl) ?_
    refine gfX6_12 hC hP dX6_countFact_69 ?_
    refine gfX6_257 hC hP (by decide) dX6_countFact_72 ?_
    exact gIret hC hP hS hf dX6_countFact_75
  have hf := it_f c4 hf
  by_cases c5 : a1 = (4 : Int32)
  · have hf := it_t c5 hf
    refine lv_tableIn (tgt := 76) (off := 75) hx hb dX6_countFact_1 (by rw [c5]; decide) (by rw [c5]; decide) (by rw [c5]; decide) (by decide) ?_
    refine lv_aload_n hx hb dX6_countFact_76 rfl (lv_at hl 0 rfl) ?_
    refine gfX6_12 hC hP dX6_countFact_77 ?_
    obtain ⟨r7, x6, e8, hf⟩ := bd_some hf
    refine gVi (As := []) (rest := []) (k := (7 * 0 + 1)) hC hP hS (kX2_channelsDown l D cy tX tY ad A hC.2.2.2.2.2.2.2.2.1 F (j := 0) (by decide) x e8) glX6_304 ⟨rfl, rfl⟩ hdX2_channelsDown ⟨Nat.le_of_ble_eq_true rfl, Nat.le_of_ble_eq_true rfl⟩ (by omega) (eX_S (by decide) cy ad _ _) rfl rfl hl.1 rfl (Nat.le_of_ble_eq_true rfl) dX6_countFact_80 ⟨Nat.zero_le _, Nat.zero_le _⟩ (fun H locs hP hS => ?_)
    exact gIret hC hP hS hf dX6_countFact_83
  have hf := it_f c5 hf
  by_cases c9 : a1 = (5 : Int32)
  · have hf := it_t c9 hf
    refine lv_tableIn (tgt := 84) (off := 83) hx hb dX6_countFact_1 (by rw [c9]; decide) (by rw [c9]; decide) (by rw [c9]; decide) (by decide) ?_
    refine lv_aload_n hx hb dX6_countFact_84 rfl (lv_at hl 0 rfl) ?_
    refine gfX6_39 hC hP dX6_countFact_85 ?_
    refine lv_aload_n hx hb dX6_countFact_88 rfl (lv_at hl 0 rfl) ?_
    refine gfX6_12 hC hP dX6_countFact_89 ?_
    obtain ⟨r11, x10, e12, hf⟩ := bd_some hf
    refine gVi (As := [.ref (ad (7 * 0 + 1))]) (rest := []) (k := 63) hC hP hS (kX5_channelsHeld l D cy tX tY ad A hC.2.2.2.2.2.2.2.2.1 F (j := 0) (by decide) x e12) glX6_306 ⟨rfl, rfl⟩ hdX5_channelsHeld ⟨Nat.le_of_ble_eq_true rfl, Nat.le_of_ble_eq_true rfl⟩ (by decide) (eX_63 cy ad _ _) rfl rfl hl.1 rfl (Nat.le_of_ble_eq_true rfl) dX6_countFact_92 ⟨Nat.zero_le _, Nat.zero_le _⟩ (fun H locs hP hS => ?_)
    exact gIret hC hP hS hf dX6_countFact_95
  have hf := it_f c9 hf
  by_cases c13 : a1 = (6 : Int32)
  · have hf := it_t c13 hf
    refine lv_tableIn (tgt := 96) (off := 95) hx hb dX6_countFact_1 (by rw [c13]; decide) (by rw [c13]; decide) (by rw [c13]; decide) (by decide) ?_
    refine lv_aload_n hx hb dX6_countFact_96 rfl (lv_at hl 0 rfl) ?_
    refine gfX6_12 hC hP dX6_countFact_97 ?_
    obtain ⟨r15, x14, e16, hf⟩ := bd_some hf
    refine gVi (As := []) (rest := []) (k := (7 * 0 + 1)) hC hP hS (kX2_waitedInAll l D cy tX tY ad A hC.2.2.2.2.2.2.2.2.1 F (j := 0) (by decide) x e16) glX6_310 ⟨rfl, rfl⟩ hdX2_waitedInAll ⟨Nat.le_of_ble_eq_true rfl, Nat.le_of_ble_eq_true rfl⟩ (by omega) (eX_S (by decide) cy ad _ _) rfl rfl hl.1 rfl (Nat.le_of_ble_eq_true rfl) dX6_countFact_100 ⟨Nat.zero_le _, Nat.zero_le _⟩ (fun H locs hP hS => ?_)
    exact gIret hC hP hS hf dX6_countFact_103
  have hf := it_f c13 hf
  refine lv_tableOut (tgt := 104) hx hb dX6_countFact_1 (by have n0 := lv_neT c1 (a := 0) (by decide); have n1 := lv_neT c2 (a := 1) (by decide); have n2 := lv_neT c3 (a := 2) (by decide); have n3 := lv_neT c4 (a := 3) (by decide); have n4 := lv_neT c5 (a := 4) (by decide); have n5 := lv_neT c9 (a := 5) (by decide); have n6 := lv_neT c13 (a := 6) (by decide); omega) (by decide) ?_
  refine lv_aload_n hx hb dX6_countFact_104 rfl (lv_at hl 0 rfl) ?_
  obtain ⟨r18, x17, e19, hf⟩ := bd_some hf
  refine gVi (As := []) (rest := []) (k := 0) hC hP hS (kX6_messagesDone l D cy tX tY ad A hC.2.2.2.2.2.2.2.2.1 F x e19) glX6_313 ⟨rfl, rfl⟩ hdX6_messagesDone ⟨Nat.le_of_ble_eq_true rfl, Nat.le_of_ble_eq_true rfl⟩ (by decide) (eX_0 cy ad _ _) rfl rfl hl.1 rfl (Nat.le_of_ble_eq_true rfl) dX6_countFact_105 ⟨Nat.zero_le _, Nat.zero_le _⟩ (fun H locs hP hS => ?_)
  exact gIret hC hP hS hf dX6_countFact_108
set_option maxHeartbeats 4000000 in
set_option maxRecDepth 100000 in
theorem tX6_count_10 (hC : Cf p s m args meth c cX6_count 2 RX6 (some .int) D cy tX tY ad A 93) (F : Nat) {z : Int32 × HT} : ∀ (x : HT), fX6_count_10 F x = some z → Wd p l e { frames := 5, cells := 0, slots := 0, locals := 112 } s m args below meth c D (eX cy ad) 93 ad A (cQi (eX cy ad) 93 ad D A z) 2 10 [(0, .ref (ad 0))] [] x := by
  intro x hf H locs ls hP hS hl
  obtain ⟨hx, hb, -⟩ := id hC
  refine lv_aload_n hx hb dX6_count_10 rfl (lv_at hl 0 rfl) ?_
  refine lv_bipush (v := -2) hx hb dX6_count_11 (by decide) ?_
  obtain ⟨r7, x6, e8, hf⟩ := bd_some hf
  refine gVi (As := [.int (-2 : Int32)]) (rest := []) (k := 0) hC hP hS (kX6_refuse l D cy tX tY ad A hC.2.2.2.2.2.2.2.2.1 F x (-2 : Int32) e8) glX6_100 ⟨rfl, rfl⟩ hdX6_refuse ⟨Nat.le_of_ble_eq_true rfl, Nat.le_of_ble_eq_true rfl⟩ (by decide) (eX_0 cy ad _ _) rfl rfl hl.1 rfl (Nat.le_of_ble_eq_true rfl) dX6_count_13 ⟨Nat.zero_le _, Nat.zero_le _⟩ (fun H locs hP hS => ?_)
  refine lv_goto (tgt := 24) hx hb dX6_count_16 (by decide) ?_
  exact gIret hC hP hS hf dX6_count_24
set_option maxHeartbeats 4000000 in
set_option maxRecDepth 100000 in
theorem kX6_count (l : Launch) (D : va_G) (cy : Nat → ClassId) (tX tY : Nat) (ad : Nat → Nat) (A : Nat → Prop) (hA : apart ad A 93) (F : Nat) (x : HT) (a1 : Int32) {z : Int32 × HT} (hf : fX6_count F x a1 = some z) : Met l yX6_count (Cond.code yX6_count cX6_count 2 (some .int) :: wAll) { frames := 5, cells := 0, slots := 0, locals := 112 } (cPc (eX cy ad) 93 ad D cy tX tY A [.ref (ad 0), .int a1] x) (cQi (eX cy ad) 93 ad D A z) 0 0 A := by
  refine gMet hA (by decide) (Nat.le_of_ble_eq_true rfl) (fun p e s m below meth c hC H locs ls hP hS hl => ?_)
  have hC : Cf p s m _ meth c cX6_count 2 RX6 (some .int) D cy tX tY ad A 93 := hC
  have hl : lv_has ls 2 [(0, .ref (ad 0)), (1, .int a1)] := hl
  obtain ⟨hx, hb, -⟩ := id hC
  refine lv_iload_n hx hb dX6_count_0 rfl (lv_at hl 1 rfl) ?_
  refine lv_if_lt (tgt := 10) hx hb dX6_count_1 (by decide) (fun c1 => ?_) (fun c1 => ?_)
  · have hf := it_t c1 hf
    exact tX6_count_10 hC F x hf H locs ls hP hS (lv_sub hl [0] rfl)
  · have hf := it_f c1 hf
    refine lv_iload_n hx hb dX6_count_4 rfl (lv_at hl 1 rfl) ?_
    refine lv_bipush (v := 8) hx hb dX6_count_5 (by decide) ?_
    refine lv_icmp_lt (tgt := 19) hx hb dX6_count_7 (by decide) (fun c2 => ?_) (fun c2 => ?_)
    · have hf := it_t c2 hf
      refine lv_aload_n hx hb dX6_count_19 rfl (lv_at hl 0 rfl) ?_
      refine lv_iload_n hx hb dX6_count_20 rfl (lv_at hl 1 rfl) ?_
      obtain ⟨r4, x3, e5, hf⟩ := bd_some hf
      refine gVi (As := [.int a1]) (rest := []) (k := 0) hC hP hS (kX6_countFact l D cy tX tY ad A hC.2.2.2.2.2.2.2.2.1 F x a1 e5) glX6_151 ⟨rfl, rfl⟩ hdX6_countFact ⟨Nat.le_of_ble_eq_true rfl, Nat.le_of_ble_eq_true rfl⟩ (by decide) (eX_0 cy ad _ _) rfl rfl hl.1 rfl (Nat.le_of_ble_eq_true rfl) dX6_count_21 ⟨Nat.zero_le _, Nat.zero_le _⟩ (fun H locs hP hS => ?_)
      exact gIret hC hP hS hf dX6_count_24
    · have hf := it_f c2 hf
      exact tX6_count_10 hC F x hf H locs ls hP hS (lv_sub hl [0] rfl)
set_option maxHeartbeats 4000000 in
set_option maxRecDepth 100000 in
theorem kX3_add (l : Launch) (D : va_G) (cy : Nat → ClassId) (tX tY : Nat) (ad : Nat → Nat) (A : Nat → Prop) (hA : apart ad A 93) (F : Nat) (x : HT) (a1 : Int32) {z : Int32 × HT} (hf : fX3_add F x a1 = some z) : Met l yX3_add (Cond.code yX3_add cX3_add 2 (some .boolean) :: wAll) { frames := 0, cells := 0, slots := 0, locals := 0 } (cPc (eX cy ad) 93 ad D cy tX tY A [.ref (ad 89), .int a1] x) (cQi (eX cy ad) 93 ad D A z) 0 0 A := by
  refine gMet hA (by decide) (Nat.le_of_ble_eq_true rfl) (fun p e s m below meth c hC H locs ls hP hS hl => ?_)
  have hC : Cf p s m _ meth c cX3_add 2 RX3 (some .boolean) D cy tX tY ad A 93 := hC
  have hl : lv_has ls 2 [(0, .ref (ad 89)), (1, .int a1)] := hl
  obtain ⟨hx, hb, -⟩ := id hC
  refine lv_aload_n hx hb dX3_add_0 rfl (lv_at hl 0 rfl) ?_
  refine gfX3_21 hC hP dX3_add_1 ?_
  refine lv_bipush (v := 120) hx hb dX3_add_4 (by decide) ?_
  refine lv_icmp_lt (tgt := 11) hx hb dX3_add_6 (by decide) (fun c1 => ?_) (fun c1 => ?_)
  · have hf := it_t c1 hf
    refine lv_aload_n hx hb dX3_add_11 rfl (lv_at hl 0 rfl) ?_
    refine gfX3_9 hC hP dX3_add_12 ?_
    refine lv_aload_n hx hb dX3_add_15 rfl (lv_at hl 0 rfl) ?_
    refine gfX3_21 hC hP dX3_add_16 ?_
    refine lv_iload_n hx hb dX3_add_19 rfl (lv_at hl 1 rfl) ?_
    obtain ⟨h2, hf⟩ := ck_some hf
    refine gIas hC hP hS 90 (by decide) (fun g9 => eX_90 cy ad g9 _) h2 dX3_add_20 (fun H locs hP hS => ?_)
    obtain ⟨x3, e4, hf⟩ := lt_some hf
    have hP : va_P D vwCl (wG (eX cy ad) 93 ad x3) H := by rw [e4]; exact hP
    refine lv_aload_n hx hb dX3_add_21 rfl (lv_at hl 0 rfl) ?_
    refine lv_dup hx hb dX3_add_22 rfl ?_
    refine gfX3_21 hC hP dX3_add_23 ?_
    refine lv_iconst (v := 1) hx hb dX3_add_26 (by decide) ?_
    refine lv_iadd hx hb dX3_add_27 ?_
    refine pfX3_21 hC hP hS dX3_add_28 (fun H locs hP hS => ?_)
    obtain ⟨x5, e6, hf⟩ := lt_some hf
    have hP : va_P D vwCl (wG (eX cy ad) 93 ad x5) H := by rw [e6]; exact hP
    refine lv_iconst (v := 1) hx hb dX3_add_31 (by decide) ?_
    exact gZret hC hP hS rfl hf dX3_add_32
  · have hf := it_f c1 hf
    refine lv_iconst (v := 0) hx hb dX3_add_9 (by decide) ?_
    exact gZret hC hP hS rfl hf dX3_add_10
set_option maxHeartbeats 4000000 in
set_option maxRecDepth 100000 in
theorem kX3_size (l : Launch) (D : va_G) (cy : Nat → ClassId) (tX tY : Nat) (ad : Nat → Nat) (A : Nat → Prop) (hA : apart ad A 93) (F : Nat) (x : HT) {z : Int32 × HT} (hf : fX3_size F x = some z) : Met l yX3_size (Cond.code yX3_size cX3_size 1 (some .int) :: wAll) { frames := 0, cells := 0, slots := 0, locals := 0 } (cPc (eX cy ad) 93 ad D cy tX tY A [.ref (ad 89)] x) (cQi (eX cy ad) 93 ad D A z) 0 0 A := by
  refine gMet hA (by decide) (Nat.le_of_ble_eq_true rfl) (fun p e s m below meth c hC H locs ls hP hS hl => ?_)
  have hC : Cf p s m _ meth c cX3_size 1 RX3 (some .int) D cy tX tY ad A 93 := hC
  have hl : lv_has ls 1 [(0, .ref (ad 89))] := hl
  obtain ⟨hx, hb, -⟩ := id hC
  refine lv_aload_n hx hb dX3_size_0 rfl (lv_at hl 0 rfl) ?_
  refine gfX3_21 hC hP dX3_size_1 ?_
  exact gIret hC hP hS hf dX3_size_4
set_option maxHeartbeats 4000000 in
set_option maxRecDepth 100000 in
theorem tX6_type_10 (hC : Cf p s m args meth c cX6_type 2 RX6 (some .int) D cy tX tY ad A 93) (F : Nat) {z : Int32 × HT} : ∀ (x : HT), fX6_type_10 F x = some z → Wd p l e { frames := 1, cells := 0, slots := 0, locals := 21 } s m args below meth c D (eX cy ad) 93 ad A (cQi (eX cy ad) 93 ad D A z) 2 10 [(0, .ref (ad 0))] [] x := by
  intro x hf H locs ls hP hS hl
  obtain ⟨hx, hb, -⟩ := id hC
  refine lv_aload_n hx hb dX6_type_10 rfl (lv_at hl 0 rfl) ?_
  refine lv_bipush (v := -2) hx hb dX6_type_11 (by decide) ?_
  obtain ⟨r14, x13, e15, hf⟩ := bd_some hf
  refine gVi (As := [.int (-2 : Int32)]) (rest := []) (k := 0) hC hP hS (kX6_refuse l D cy tX tY ad A hC.2.2.2.2.2.2.2.2.1 F x (-2 : Int32) e15) glX6_100 ⟨rfl, rfl⟩ hdX6_refuse ⟨Nat.le_of_ble_eq_true rfl, Nat.le_of_ble_eq_true rfl⟩ (by decide) (eX_0 cy ad _ _) rfl rfl hl.1 rfl (Nat.le_of_ble_eq_true rfl) dX6_type_13 ⟨Nat.zero_le _, Nat.zero_le _⟩ (fun H locs hP hS => ?_)
  exact gIret hC hP hS hf dX6_type_16
set_option maxHeartbeats 4000000 in
set_option maxRecDepth 100000 in
theorem kX6_type (l : Launch) (D : va_G) (cy : Nat → ClassId) (tX tY : Nat) (ad : Nat → Nat) (A : Nat → Prop) (hA : apart ad A 93) (F : Nat) (x : HT) (a1 : Int32) {z : Int32 × HT} (hf : fX6_type F x a1 = some z) : Met l yX6_type (Cond.code yX6_type cX6_type 2 (some .int) :: wAll) { frames := 1, cells := 0, slots := 0, locals := 21 } (cPc (eX cy ad) 93 ad D cy tX tY A [.ref (ad 0), .int a1] x) (cQi (eX cy ad) 93 ad D A z) 0 0 A := by
  refine gMet hA (by decide) (Nat.le_of_ble_eq_true rfl) (fun p e s m below meth c hC H locs ls hP hS hl => ?_)
  have hC : Cf p s m _ meth c cX6_type 2 RX6 (some .int) D cy tX tY ad A 93 := hC
  have hl : lv_has ls 2 [(0, .ref (ad 0)), (1, .int a1)] := hl
  obtain ⟨hx, hb, -⟩ := id hC
  refine lv_iload_n hx hb dX6_type_0 rfl (lv_at hl 1 rfl) ?_
  refine lv_if_lt (tgt := 10) hx hb dX6_type_1 (by decide) (fun c1 => ?_) (fun c1 => ?_)
  · have hf := it_t c1 hf
    exact tX6_type_10 hC F x hf H locs ls hP hS (lv_sub hl [0] rfl)
  · have hf := it_f c1 hf
    refine lv_iload_n hx hb dX6_type_4 rfl (lv_at hl 1 rfl) ?_
    refine lv_bipush (v := 127) hx hb dX6_type_5 (by decide) ?_
    refine lv_icmp_le (tgt := 17) hx hb dX6_type_7 (by decide) (fun c2 => ?_) (fun c2 => ?_)
    · have hf := it_t c2 hf
      refine lv_aload_n hx hb dX6_type_17 rfl (lv_at hl 0 rfl) ?_
      refine gfX6_53 hC hP dX6_type_18 ?_
      refine lv_iload_n hx hb dX6_type_21 rfl (lv_at hl 1 rfl) ?_
      obtain ⟨r4, x3, e5, hf⟩ := bd_some hf
      refine gVi (As := [.int a1]) (rest := []) (k := 89) hC hP hS (kX3_add l D cy tX tY ad A hC.2.2.2.2.2.2.2.2.1 F x a1 e5) glX6_154 ⟨rfl, rfl⟩ hdX3_add ⟨Nat.le_of_ble_eq_true rfl, Nat.le_of_ble_eq_true rfl⟩ (by decide) (eX_89 cy ad _ _) rfl rfl hl.1 rfl (Nat.le_of_ble_eq_true rfl) dX6_type_22 ⟨Nat.zero_le _, Nat.zero_le _⟩ (fun H locs hP hS => ?_)
      refine lv_if_eq (tgt := 38) hx hb dX6_type_25 (by decide) (fun c6 => ?_) (fun c6 => ?_)
      · have hf := it_t c6 hf
        refine lv_aload_n hx hb dX6_type_38 rfl (lv_at hl 0 rfl) ?_
        refine lv_bipush (v := -4) hx hb dX6_type_39 (by decide) ?_
        obtain ⟨r8, x7, e9, hf⟩ := bd_some hf
        refine gVi (As := [.int (-4 : Int32)]) (rest := []) (k := 0) hC hP hS (kX6_refuse l D cy tX tY ad A hC.2.2.2.2.2.2.2.2.1 F x3 (-4 : Int32) e9) glX6_100 ⟨rfl, rfl⟩ hdX6_refuse ⟨Nat.le_of_ble_eq_true rfl, Nat.le_of_ble_eq_true rfl⟩ (by decide) (eX_0 cy ad _ _) rfl rfl hl.1 rfl (Nat.le_of_ble_eq_true rfl) dX6_type_41 ⟨Nat.zero_le _, Nat.zero_le _⟩ (fun H locs hP hS => ?_)
        exact gIret hC hP hS hf dX6_type_44
      · have hf := it_f c6 hf
        refine lv_aload_n hx hb dX6_type_28 rfl (lv_at hl 0 rfl) ?_
        refine gfX6_53 hC hP dX6_type_29 ?_
        obtain ⟨r11, x10, e12, hf⟩ := bd_some hf
        refine gVi (As := []) (rest := []) (k := 89) hC hP hS (kX3_size l D cy tX tY ad A hC.2.2.2.2.2.2.2.2.1 F x3 e12) glX6_157 ⟨rfl, rfl⟩ hdX3_size ⟨Nat.le_of_ble_eq_true rfl, Nat.le_of_ble_eq_true rfl⟩ (by decide) (eX_89 cy ad _ _) rfl rfl hl.1 rfl (Nat.le_of_ble_eq_true rfl) dX6_type_32 ⟨Nat.zero_le _, Nat.zero_le _⟩ (fun H locs hP hS => ?_)
        refine lv_goto (tgt := 44) hx hb dX6_type_35 (by decide) ?_
        exact gIret hC hP hS hf dX6_type_44
    · have hf := it_f c2 hf
      exact tX6_type_10 hC F x hf H locs ls hP hS (lv_sub hl [0] rfl)
set_option maxHeartbeats 4000000 in
set_option maxRecDepth 100000 in
theorem kX3_empty (l : Launch) (D : va_G) (cy : Nat → ClassId) (tX tY : Nat) (ad : Nat → Nat) (A : Nat → Prop) (hA : apart ad A 93) (F : Nat) (x : HT) {z : Int32 × HT} (hf : fX3_empty F x = some z) : Met l yX3_empty (Cond.code yX3_empty cX3_empty 2 (some .int) :: wAll) { frames := 0, cells := 0, slots := 0, locals := 0 } (cPc (eX cy ad) 93 ad D cy tX tY A [.ref (ad 89)] x) (cQi (eX cy ad) 93 ad D A z) 0 0 A := by
  refine gMet hA (by decide) (Nat.le_of_ble_eq_true rfl) (fun p e s m below meth c hC H locs ls hP hS hl => ?_)
  have hC : Cf p s m _ meth c cX3_empty 2 RX3 (some .int) D cy tX tY ad A 93 := hC
  have hl : lv_has ls 2 [(0, .ref (ad 89))] := hl
  obtain ⟨hx, hb, -⟩ := id hC
  refine lv_aload_n hx hb dX3_empty_0 rfl (lv_at hl 0 rfl) ?_
  refine gfX3_21 hC hP dX3_empty_1 ?_
  refine lv_topi (fun b1 e2 => ?_)
  have hf := lt_use e2 hf
  refine lv_istore_n (lv' := [(1, .int b1), (0, .ref (ad 89))]) hx hb dX3_empty_4 rfl hl (by decide) rfl (fun ls hl => ?_)
  refine lv_aload_n hx hb dX3_empty_5 rfl (lv_at hl 1 rfl) ?_
  refine lv_iconst (v := 0) hx hb dX3_empty_6 (by decide) ?_
  refine pfX3_21 hC hP hS dX3_empty_7 (fun H locs hP hS => ?_)
  obtain ⟨x3, e4, hf⟩ := lt_some hf
  have hP : va_P D vwCl (wG (eX cy ad) 93 ad x3) H := by rw [e4]; exact hP
  refine lv_iload_n hx hb dX3_empty_10 rfl (lv_at hl 0 rfl) ?_
  exact gIret hC hP hS hf dX3_empty_11
set_option maxHeartbeats 4000000 in
set_option maxRecDepth 100000 in
theorem kX6_clear (l : Launch) (D : va_G) (cy : Nat → ClassId) (tX tY : Nat) (ad : Nat → Nat) (A : Nat → Prop) (hA : apart ad A 93) (F : Nat) (x : HT) {z : Int32 × HT} (hf : fX6_clear F x = some z) : Met l yX6_clear (Cond.code yX6_clear cX6_clear 1 (some .int) :: wAll) { frames := 1, cells := 0, slots := 0, locals := 21 } (cPc (eX cy ad) 93 ad D cy tX tY A [.ref (ad 0)] x) (cQi (eX cy ad) 93 ad D A z) 0 0 A := by
  refine gMet hA (by decide) (Nat.le_of_ble_eq_true rfl) (fun p e s m below meth c hC H locs ls hP hS hl => ?_)
  have hC : Cf p s m _ meth c cX6_clear 1 RX6 (some .int) D cy tX tY ad A 93 := hC
  have hl : lv_has ls 1 [(0, .ref (ad 0))] := hl
  obtain ⟨hx, hb, -⟩ := id hC
  refine lv_aload_n hx hb dX6_clear_0 rfl (lv_at hl 0 rfl) ?_
  refine gfX6_53 hC hP dX6_clear_1 ?_
  obtain ⟨r2, x1, e3, hf⟩ := bd_some hf
  refine gVi (As := []) (rest := []) (k := 89) hC hP hS (kX3_empty l D cy tX tY ad A hC.2.2.2.2.2.2.2.2.1 F x e3) glX6_160 ⟨rfl, rfl⟩ hdX3_empty ⟨Nat.le_of_ble_eq_true rfl, Nat.le_of_ble_eq_true rfl⟩ (by decide) (eX_89 cy ad _ _) rfl rfl hl.1 rfl (Nat.le_of_ble_eq_true rfl) dX6_clear_4 ⟨Nat.zero_le _, Nat.zero_le _⟩ (fun H locs hP hS => ?_)
  exact gIret hC hP hS hf dX6_clear_7
set_option maxHeartbeats 4000000 in
set_option maxRecDepth 100000 in
theorem tX3_passBlanks_0b (hC : Cf p s m args meth c cX3_passBlanks 1 RX3 none D cy tX tY ad A 93) (F : Nat) {z : Unit × HT} (rec0 : HT → Option (Unit × HT)) (hrec0 : ∀ (x : HT), rec0 x = some z → Wd p l e { frames := 0, cells := 0, slots := 0, locals := 0 } s m args below meth c D (eX cy ad) 93 ad A (cQv (eX cy ad) 93 ad D A z) 1 0 [(0, .ref (ad 89))] [] x) : ∀ (x : HT), fX3_passBlanks_0b F rec0 x = some z → Wd p l e { frames := 0, cells := 0, slots := 0, locals := 0 } s m args below meth c D (eX cy ad) 93 ad A (cQv (eX cy ad) 93 ad D A z) 1 0 [(0, .ref (ad 89))] [] x := by
  intro x hf H locs ls hP hS hl
  obtain ⟨hx, hb, -⟩ := id hC
  refine lv_aload_n hx hb dX3_passBlanks_0 rfl (lv_at hl 0 rfl) ?_
  refine gfX3_28 hC hP dX3_passBlanks_1 ?_
  refine lv_aload_n hx hb dX3_passBlanks_4 rfl (lv_at hl 0 rfl) ?_
  refine gfX3_21 hC hP dX3_passBlanks_5 ?_
  refine lv_icmp_ge (tgt := 38) hx hb dX3_passBlanks_8 (by decide) (fun c1 => ?_) (fun c1 => ?_)
  · have hf := it_t c1 hf
    exact gVret hC hP hS hf dX3_passBlanks_38
  · have hf := it_f c1 hf
    refine lv_aload_n hx hb dX3_passBlanks_11 rfl (lv_at hl 0 rfl) ?_
    refine gfX3_9 hC hP dX3_passBlanks_12 ?_
    refine lv_aload_n hx hb dX3_passBlanks_15 rfl (lv_at hl 0 rfl) ?_
    refine gfX3_28 hC hP dX3_passBlanks_16 ?_
    obtain ⟨h2, hf⟩ := ck_some hf
    refine gIal hC hP 90 (by decide) (eX_90 cy ad _ _) h2 dX3_passBlanks_19 ?_
    refine lv_bipush (v := 32) hx hb dX3_passBlanks_20 (by decide) ?_
    refine lv_icmp_ne (tgt := 38) hx hb dX3_passBlanks_22 (by decide) (fun c3 => ?_) (fun c3 => ?_)
    · have hf := it_f c3 hf
      exact gVret hC hP hS hf dX3_passBlanks_38
    · have hf := it_t c3 hf
      refine lv_aload_n hx hb dX3_passBlanks_25 rfl (lv_at hl 0 rfl) ?_
      refine lv_dup hx hb dX3_passBlanks_26 rfl ?_
      refine gfX3_28 hC hP dX3_passBlanks_27 ?_
      refine lv_iconst (v := 1) hx hb dX3_passBlanks_30 (by decide) ?_
      refine lv_iadd hx hb dX3_passBlanks_31 ?_
      refine pfX3_28 hC hP hS dX3_passBlanks_32 (fun H locs hP hS => ?_)
      obtain ⟨x4, e5, hf⟩ := lt_some hf
      have hP : va_P D vwCl (wG (eX cy ad) 93 ad x4) H := by rw [e5]; exact hP
      refine lv_goto (tgt := 0) hx hb dX3_passBlanks_35 (by decide) ?_
      exact hrec0 x4 hf H locs ls hP hS (lv_sub hl [0] rfl)
theorem tX3_passBlanks_0 (hC : Cf p s m args meth c cX3_passBlanks 1 RX3 none D cy tX tY ad A 93) (F : Nat) {z : Unit × HT} : ∀ (n9 : Nat) (x : HT), fX3_passBlanks_0 F n9 x = some z → Wd p l e { frames := 0, cells := 0, slots := 0, locals := 0 } s m args below meth c D (eX cy ad) 93 ad A (cQv (eX cy ad) 93 ad D A z) 1 0 [(0, .ref (ad 89))] [] x := by
  intro n9
  induction n9 with
  | zero => intro x hf; cases hf
  | succ n9 ih => intro x hf; exact tX3_passBlanks_0b hC F (fX3_passBlanks_0 F n9) ih x hf
set_option maxHeartbeats 4000000 in
set_option maxRecDepth 100000 in
theorem kX3_passBlanks (l : Launch) (D : va_G) (cy : Nat → ClassId) (tX tY : Nat) (ad : Nat → Nat) (A : Nat → Prop) (hA : apart ad A 93) (F : Nat) (x : HT) {z : Unit × HT} (hf : fX3_passBlanks F x = some z) : Met l yX3_passBlanks (Cond.code yX3_passBlanks cX3_passBlanks 1 none :: wAll) { frames := 0, cells := 0, slots := 0, locals := 0 } (cPc (eX cy ad) 93 ad D cy tX tY A [.ref (ad 89)] x) (cQv (eX cy ad) 93 ad D A z) 0 0 A := by
  refine gMet hA (by decide) (Nat.le_of_ble_eq_true rfl) (fun p e s m below meth c hC H locs ls hP hS hl => ?_)
  have hC : Cf p s m _ meth c cX3_passBlanks 1 RX3 none D cy tX tY ad A 93 := hC
  have hl : lv_has ls 1 [(0, .ref (ad 89))] := hl
  obtain ⟨hx, hb, -⟩ := id hC
  exact tX3_passBlanks_0 hC F F x hf H locs ls hP hS (lv_sub hl [0] rfl)
set_option maxHeartbeats 4000000 in
set_option maxRecDepth 100000 in
theorem kX3_byteHere (l : Launch) (D : va_G) (cy : Nat → ClassId) (tX tY : Nat) (ad : Nat → Nat) (A : Nat → Prop) (hA : apart ad A 93) (F : Nat) (x : HT) {z : Int32 × HT} (hf : fX3_byteHere F x = some z) : Met l yX3_byteHere (Cond.code yX3_byteHere cX3_byteHere 1 (some .int) :: wAll) { frames := 0, cells := 0, slots := 0, locals := 0 } (cPc (eX cy ad) 93 ad D cy tX tY A [.ref (ad 89)] x) (cQi (eX cy ad) 93 ad D A z) 0 0 A := by
  refine gMet hA (by decide) (Nat.le_of_ble_eq_true rfl) (fun p e s m below meth c hC H locs ls hP hS hl => ?_)
  have hC : Cf p s m _ meth c cX3_byteHere 1 RX3 (some .int) D cy tX tY ad A 93 := hC
  have hl : lv_has ls 1 [(0, .ref (ad 89))] := hl
  obtain ⟨hx, hb, -⟩ := id hC
  refine lv_aload_n hx hb dX3_byteHere_0 rfl (lv_at hl 0 rfl) ?_
  refine gfX3_28 hC hP dX3_byteHere_1 ?_
  refine lv_aload_n hx hb dX3_byteHere_4 rfl (lv_at hl 0 rfl) ?_
  refine gfX3_21 hC hP dX3_byteHere_5 ?_
  refine lv_icmp_ge (tgt := 23) hx hb dX3_byteHere_8 (by decide) (fun c1 => ?_) (fun c1 => ?_)
  · have hf := it_t c1 hf
    refine lv_iconst (v := -1) hx hb dX3_byteHere_23 (by decide) ?_
    exact gIret hC hP hS hf dX3_byteHere_24
  · have hf := it_f c1 hf
    refine lv_aload_n hx hb dX3_byteHere_11 rfl (lv_at hl 0 rfl) ?_
    refine gfX3_9 hC hP dX3_byteHere_12 ?_
    refine lv_aload_n hx hb dX3_byteHere_15 rfl (lv_at hl 0 rfl) ?_
    refine gfX3_28 hC hP dX3_byteHere_16 ?_
    obtain ⟨h2, hf⟩ := ck_some hf
    refine gIal hC hP 90 (by decide) (eX_90 cy ad _ _) h2 dX3_byteHere_19 ?_
    refine lv_goto (tgt := 24) hx hb dX3_byteHere_20 (by decide) ?_
    exact gIret hC hP hS hf dX3_byteHere_24
set_option maxHeartbeats 4000000 in
set_option maxRecDepth 100000 in
theorem kX3_numbersDue (l : Launch) (D : va_G) (cy : Nat → ClassId) (tX tY : Nat) (ad : Nat → Nat) (A : Nat → Prop) (hA : apart ad A 93) (F : Nat) (x : HT) (a0 : Int32) {z : Int32 × HT} (hf : fX3_numbersDue F x a0 = some z) : Met l yX3_numbersDue (Cond.code yX3_numbersDue cX3_numbersDue 1 (some .int) :: wAll) { frames := 0, cells := 0, slots := 0, locals := 0 } (cPc (eX cy ad) 93 ad D cy tX tY A [.int a0] x) (cQi (eX cy ad) 93 ad D A z) 0 0 A := by
  refine gMet hA (by decide) (Nat.le_of_ble_eq_true rfl) (fun p e s m below meth c hC H locs ls hP hS hl => ?_)
  have hC : Cf p s m _ meth c cX3_numbersDue 1 RX3 (some .int) D cy tX tY ad A 93 := hC
  have hl : lv_has ls 1 [(0, .int a0)] := hl
  obtain ⟨hx, hb, -⟩ := id hC
  refine lv_iload_n hx hb dX3_numbersDue_0 rfl (lv_at hl 0 rfl) ?_
  by_cases c1 : a0 = (97 : Int32)
  · have hf := it_t c1 hf
    refine lv_lookup (tgt := 66) (off := 65) hx hb dX3_numbersDue_1 (by decide) (by rw [c1]; decide) (by decide) ?_
    refine lv_iconst (v := 0) hx hb dX3_numbersDue_66 (by decide) ?_
    exact gIret hC hP hS hf dX3_numbersDue_67
  have hf := it_f c1 hf
  by_cases c2 : a0 = (103 : Int32)
  · have hf := it_t c2 hf
    refine lv_lookup (tgt := 62) (off := 61) hx hb dX3_numbersDue_1 (by decide) (by rw [c2]; decide) (by decide) ?_
    refine lv_iconst (v := 3) hx hb dX3_numbersDue_62 (by decide) ?_
    exact gIret hC hP hS hf dX3_numbersDue_63
  have hf := it_f c2 hf
  by_cases c3 : a0 = (107 : Int32)
  · have hf := it_t c3 hf
    refine lv_lookup (tgt := 64) (off := 63) hx hb dX3_numbersDue_1 (by decide) (by rw [c3]; decide) (by decide) ?_
    refine lv_iconst (v := 1) hx hb dX3_numbersDue_64 (by decide) ?_
    exact gIret hC hP hS hf dX3_numbersDue_65
  have hf := it_f c3 hf
  by_cases c4 : a0 = (109 : Int32)
  · have hf := it_t c4 hf
    refine lv_lookup (tgt := 62) (off := 61) hx hb dX3_numbersDue_1 (by decide) (by rw [c4]; decide) (by decide) ?_
    refine lv_iconst (v := 3) hx hb dX3_numbersDue_62 (by decide) ?_
    exact gIret hC hP hS hf dX3_numbersDue_63
  have hf := it_f c4 hf
  by_cases c5 : a0 = (116 : Int32)
  · have hf := it_t c5 hf
    refine lv_lookup (tgt := 62) (off := 61) hx hb dX3_numbersDue_1 (by decide) (by rw [c5]; decide) (by decide) ?_
    refine lv_iconst (v := 3) hx hb dX3_numbersDue_62 (by decide) ?_
    exact gIret hC hP hS hf dX3_numbersDue_63
  have hf := it_f c5 hf
  by_cases c6 : a0 = (119 : Int32)
  · have hf := it_t c6 hf
    refine lv_lookup (tgt := 60) (off := 59) hx hb dX3_numbersDue_1 (by decide) (by rw [c6]; decide) (by decide) ?_
    refine lv_iconst (v := 2) hx hb dX3_numbersDue_60 (by decide) ?_
    exact gIret hC hP hS hf dX3_numbersDue_61
  have hf := it_f c6 hf
  refine lv_lookup (tgt := 68) (off := 67) hx hb dX3_numbersDue_1 (by decide) ((lv_osw c1 (by decide)).trans ((lv_osw c2 (by decide)).trans ((lv_osw c3 (by decide)).trans ((lv_osw c4 (by decide)).trans ((lv_osw c5 (by decide)).trans ((lv_osw c6 (by decide)).trans rfl)))))) (by decide) ?_
  refine lv_iconst (v := -1) hx hb dX3_numbersDue_68 (by decide) ?_
  exact gIret hC hP hS hf dX3_numbersDue_69
set_option maxHeartbeats 4000000 in
set_option maxRecDepth 100000 in
theorem tX3_isFigure_16 (hC : Cf p s m args meth c cX3_isFigure 1 RX3 (some .boolean) D cy tX tY ad A 93) (F : Nat) {z : Int32 × HT} : ∀ (x : HT), fX3_isFigure_16 F x = some z → Wd p l e { frames := 0, cells := 0, slots := 0, locals := 0 } s m args below meth c D (eX cy ad) 93 ad A (cQi (eX cy ad) 93 ad D A z) 1 16 [] [] x := by
  intro x hf H locs ls hP hS hl
  obtain ⟨hx, hb, -⟩ := id hC
  refine lv_iconst (v := 0) hx hb dX3_isFigure_16 (by decide) ?_
  exact gZret hC hP hS rfl hf dX3_isFigure_17
set_option maxHeartbeats 4000000 in
set_option maxRecDepth 100000 in
theorem kX3_isFigure (l : Launch) (D : va_G) (cy : Nat → ClassId) (tX tY : Nat) (ad : Nat → Nat) (A : Nat → Prop) (hA : apart ad A 93) (F : Nat) (x : HT) (a0 : Int32) {z : Int32 × HT} (hf : fX3_isFigure F x a0 = some z) : Met l yX3_isFigure (Cond.code yX3_isFigure cX3_isFigure 1 (some .boolean) :: wAll) { frames := 0, cells := 0, slots := 0, locals := 0 } (cPc (eX cy ad) 93 ad D cy tX tY A [.int a0] x) (cQi (eX cy ad) 93 ad D A z) 0 0 A := by
  refine gMet hA (by decide) (Nat.le_of_ble_eq_true rfl) (fun p e s m below meth c hC H locs ls hP hS hl => ?_)
  have hC : Cf p s m _ meth c cX3_isFigure 1 RX3 (some .boolean) D cy tX tY ad A 93 := hC
  have hl : lv_has ls 1 [(0, .int a0)] := hl
  obtain ⟨hx, hb, -⟩ := id hC
  refine lv_iload_n hx hb dX3_isFigure_0 rfl (lv_at hl 0 rfl) ?_
  refine lv_bipush (v := 48) hx hb dX3_isFigure_1 (by decide) ?_
  refine lv_icmp_lt (tgt := 16) hx hb dX3_isFigure_3 (by decide) (fun c1 => ?_) (fun c1 => ?_)
  · have hf := it_t c1 hf
    exact tX3_isFigure_16 hC F x hf H locs ls hP hS (lv_sub hl [] rfl)
  · have hf := it_f c1 hf
    refine lv_iload_n hx hb dX3_isFigure_6 rfl (lv_at hl 0 rfl) ?_
    refine lv_bipush (v := 57) hx hb dX3_isFigure_7 (by decide) ?_
    refine lv_icmp_gt (tgt := 16) hx hb dX3_isFigure_9 (by decide) (fun c2 => ?_) (fun c2 => ?_)
    · have hf := it_t c2 hf
      exact tX3_isFigure_16 hC F x hf H locs ls hP hS (lv_sub hl [] rfl)
    · have hf := it_f c2 hf
      refine lv_iconst (v := 1) hx hb dX3_isFigure_12 (by decide) ?_
      refine lv_goto (tgt := 17) hx hb dX3_isFigure_13 (by decide) ?_
      exact gZret hC hP hS rfl hf dX3_isFigure_17
set_option maxHeartbeats 4000000 in
set_option maxRecDepth 100000 in
theorem tX3_readNumber_73 (hC : Cf p s m args meth c cX3_readNumber 4 RX3 (some .boolean) D cy tX tY ad A 93) (F : Nat) {z : Int32 × HT} : ∀ (x : HT), fX3_readNumber_73 F x = some z → Wd p l e { frames := 1, cells := 0, slots := 0, locals := 20 } s m args below meth c D (eX cy ad) 93 ad A (cQi (eX cy ad) 93 ad D A z) 4 73 [] [] x := by
  intro x hf H locs ls hP hS hl
  obtain ⟨hx, hb, -⟩ := id hC
  refine lv_iconst (v := 0) hx hb dX3_readNumber_73 (by decide) ?_
  exact gZret hC hP hS rfl hf dX3_readNumber_74
set_option maxHeartbeats 4000000 in
set_option maxRecDepth 100000 in
theorem tX3_readNumber_48 (hC : Cf p s m args meth c cX3_readNumber 4 RX3 (some .boolean) D cy tX tY ad A 93) (F : Nat) {z : Int32 × HT} : ∀ (x : HT) (a1 : Int32) (a2 : Int32) (a3 : Int32), fX3_readNumber_48 F x a1 a2 a3 = some z → Wd p l e { frames := 1, cells := 0, slots := 0, locals := 20 } s m args below meth c D (eX cy ad) 93 ad A (cQi (eX cy ad) 93 ad D A z) 4 48 [(0, .ref (ad 89)), (1, .int a1), (2, .int a2), (3, .int a3)] [] x := by
  intro x a1 a2 a3 hf H locs ls hP hS hl
  obtain ⟨hx, hb, -⟩ := id hC
  refine lv_aload_n hx hb dX3_readNumber_48 rfl (lv_at hl 0 rfl) ?_
  refine gfX3_18 hC hP dX3_readNumber_49 ?_
  refine lv_iload_n hx hb dX3_readNumber_52 rfl (lv_at hl 1 rfl) ?_
  refine lv_iload_n hx hb dX3_readNumber_53 rfl (lv_at hl 3 rfl) ?_
  obtain ⟨h18, hf⟩ := ck_some hf
  refine gIas hC hP hS 92 (by decide) (fun g9 => eX_92 cy ad g9 _) h18 dX3_readNumber_54 (fun H locs hP hS => ?_)
  obtain ⟨x19, e20, hf⟩ := lt_some hf
  have hP : va_P D vwCl (wG (eX cy ad) 93 ad x19) H := by rw [e20]; exact hP
  refine lv_iload_n hx hb dX3_readNumber_55 rfl (lv_at hl 2 rfl) ?_
  refine lv_if_le (tgt := 73) hx hb dX3_readNumber_56 (by decide) (fun c21 => ?_) (fun c21 => ?_)
  · have hf := it_t c21 hf
    exact tX3_readNumber_73 hC F x19 hf H locs ls hP hS (lv_sub hl [] rfl)
  · have hf := it_f c21 hf
    refine lv_aload_n hx hb dX3_readNumber_59 rfl (lv_at hl 0 rfl) ?_
    obtain ⟨r23, x22, e24, hf⟩ := bd_some hf
    refine gVi (As := []) (rest := []) (k := 89) hC hP hS (kX3_byteHere l D cy tX tY ad A hC.2.2.2.2.2.2.2.2.1 F x19 e24) glX3_38 ⟨rfl, rfl⟩ hdX3_byteHere ⟨Nat.le_of_ble_eq_true rfl, Nat.le_of_ble_eq_true rfl⟩ (by decide) (eX_89 cy ad _ _) rfl rfl hl.1 rfl (Nat.le_of_ble_eq_true rfl) dX3_readNumber_60 ⟨Nat.zero_le _, Nat.zero_le _⟩ (fun H locs hP hS => ?_)
    obtain ⟨r26, x25, e27, hf⟩ := bd_some hf
    refine gSi (As := [.int r23]) (rest := []) hC hP hS (kX3_isFigure l D cy tX tY ad A hC.2.2.2.2.2.2.2.2.1 F x22 r23 e27) glX3_50 ⟨rfl, rfl⟩ hdX3_isFigure ⟨Nat.le_of_ble_eq_true rfl, Nat.le_of_ble_eq_true rfl⟩ rfl hl.1 rfl (Nat.le_of_ble_eq_true rfl) dX3_readNumber_63 ⟨Nat.zero_le _, Nat.zero_le _⟩ (fun H locs hP hS => ?_)
    refine lv_if_ne (tgt := 73) hx hb dX3_readNumber_66 (by decide) (fun c28 => ?_) (fun c28 => ?_)
    · have hf := it_f c28 hf
      exact tX3_readNumber_73 hC F x25 hf H locs ls hP hS (lv_sub hl [] rfl)
    · have hf := it_t c28 hf
      refine lv_iconst (v := 1) hx hb dX3_readNumber_69 (by decide) ?_
      refine lv_goto (tgt := 74) hx hb dX3_readNumber_70 (by decide) ?_
      exact gZret hC hP hS rfl hf dX3_readNumber_74
set_option maxHeartbeats 4000000 in
set_option maxRecDepth 100000 in
theorem tX3_readNumber_4b (hC : Cf p s m args meth c cX3_readNumber 4 RX3 (some .boolean) D cy tX tY ad A 93) (F : Nat) {z : Int32 × HT} (rec4 : HT → Int32 → Int32 → Int32 → Option (Int32 × HT)) (hrec4 : ∀ (x : HT) (a1 : Int32) (a2 : Int32) (a3 : Int32), rec4 x a1 a2 a3 = some z → Wd p l e { frames := 1, cells := 0, slots := 0, locals := 20 } s m args below meth c D (eX cy ad) 93 ad A (cQi (eX cy ad) 93 ad D A z) 4 4 [(0, .ref (ad 89)), (1, .int a1), (2, .int a2), (3, .int a3)] [] x) : ∀ (x : HT) (a1 : Int32) (a2 : Int32) (a3 : Int32), fX3_readNumber_4b F rec4 x a1 a2 a3 = some z → Wd p l e { frames := 1, cells := 0, slots := 0, locals := 20 } s m args below meth c D (eX cy ad) 93 ad A (cQi (eX cy ad) 93 ad D A z) 4 4 [(0, .ref (ad 89)), (1, .int a1), (2, .int a2), (3, .int a3)] [] x := by
  intro x a1 a2 a3 hf H locs ls hP hS hl
  obtain ⟨hx, hb, -⟩ := id hC
  refine lv_iload_n hx hb dX3_readNumber_4 rfl (lv_at hl 2 rfl) ?_
  refine lv_iconst (v := 3) hx hb dX3_readNumber_5 (by decide) ?_
  refine lv_icmp_ge (tgt := 48) hx hb dX3_readNumber_6 (by decide) (fun c1 => ?_) (fun c1 => ?_)
  · have hf := it_t c1 hf
    exact tX3_readNumber_48 hC F x a1 a2 a3 hf H locs ls hP hS (lv_sub hl [0, 1, 2, 3] rfl)
  · have hf := it_f c1 hf
    refine lv_aload_n hx hb dX3_readNumber_9 rfl (lv_at hl 0 rfl) ?_
    obtain ⟨r3, x2, e4, hf⟩ := bd_some hf
    refine gVi (As := []) (rest := []) (k := 89) hC hP hS (kX3_byteHere l D cy tX tY ad A hC.2.2.2.2.2.2.2.2.1 F x e4) glX3_38 ⟨rfl, rfl⟩ hdX3_byteHere ⟨Nat.le_of_ble_eq_true rfl, Nat.le_of_ble_eq_true rfl⟩ (by decide) (eX_89 cy ad _ _) rfl rfl hl.1 rfl (Nat.le_of_ble_eq_true rfl) dX3_readNumber_10 ⟨Nat.zero_le _, Nat.zero_le _⟩ (fun H locs hP hS => ?_)
    obtain ⟨r6, x5, e7, hf⟩ := bd_some hf
    refine gSi (As := [.int r3]) (rest := []) hC hP hS (kX3_isFigure l D cy tX tY ad A hC.2.2.2.2.2.2.2.2.1 F x2 r3 e7) glX3_50 ⟨rfl, rfl⟩ hdX3_isFigure ⟨Nat.le_of_ble_eq_true rfl, Nat.le_of_ble_eq_true rfl⟩ rfl hl.1 rfl (Nat.le_of_ble_eq_true rfl) dX3_readNumber_13 ⟨Nat.zero_le _, Nat.zero_le _⟩ (fun H locs hP hS => ?_)
    refine lv_if_eq (tgt := 48) hx hb dX3_readNumber_16 (by decide) (fun c8 => ?_) (fun c8 => ?_)
    · have hf := it_t c8 hf
      exact tX3_readNumber_48 hC F x5 a1 a2 a3 hf H locs ls hP hS (lv_sub hl [0, 1, 2, 3] rfl)
    · have hf := it_f c8 hf
      refine lv_bipush (v := 10) hx hb dX3_readNumber_19 (by decide) ?_
      refine lv_iload_n hx hb dX3_readNumber_21 rfl (lv_at hl 3 rfl) ?_
      refine lv_imul hx hb dX3_readNumber_22 ?_
      refine lv_aload_n hx hb dX3_readNumber_23 rfl (lv_at hl 0 rfl) ?_
      obtain ⟨r10, x9, e11, hf⟩ := bd_some hf
      refine gVi (As := []) (rest := [.int ((10 : Int32) * a3)]) (k := 89) hC hP hS (kX3_byteHere l D cy tX tY ad A hC.2.2.2.2.2.2.2.2.1 F x5 e11) glX3_38 ⟨rfl, rfl⟩ hdX3_byteHere ⟨Nat.le_of_ble_eq_true rfl, Nat.le_of_ble_eq_true rfl⟩ (by decide) (eX_89 cy ad _ _) rfl rfl hl.1 rfl (Nat.le_of_ble_eq_true rfl) dX3_readNumber_24 ⟨Nat.zero_le _, Nat.zero_le _⟩ (fun H locs hP hS => ?_)
      refine lv_iadd hx hb dX3_readNumber_27 ?_
      refine lv_bipush (v := 48) hx hb dX3_readNumber_28 (by decide) ?_
      refine lv_isub hx hb dX3_readNumber_30 ?_
      refine lv_topi (fun b12 e13 => ?_)
      have hf := lt_use e13 hf
      refine lv_istore_n (lv' := [(3, .int b12), (0, .ref (ad 89)), (1, .int a1), (2, .int a2)]) hx hb dX3_readNumber_31 rfl hl (by decide) rfl (fun ls hl => ?_)
      obtain ⟨b14, e15, hf⟩ := lt_some hf
      refine lv_iinc (v := b14) (lv' := [(2, .int b14), (3, .int b12), (0, .ref (ad 89)), (1, .int a1)]) hx hb dX3_readNumber_32 hl (k := 3) rfl (by rw [e15]; rfl) (by decide) rfl (fun ls hl => ?_)
      refine lv_aload_n hx hb dX3_readNumber_35 rfl (lv_at hl 2 rfl) ?_
      refine lv_dup hx hb dX3_readNumber_36 rfl ?_
      refine gfX3_28 hC hP dX3_readNumber_37 ?_
      refine lv_iconst (v := 1) hx hb dX3_readNumber_40 (by decide) ?_
      refine lv_iadd hx hb dX3_readNumber_41 ?_
      refine pfX3_28 hC hP hS dX3_readNumber_42 (fun H locs hP hS => ?_)
      obtain ⟨x16, e17, hf⟩ := lt_some hf
      have hP : va_P D vwCl (wG (eX cy ad) 93 ad x16) H := by rw [e17]; exact hP
      refine lv_goto (tgt := 4) hx hb dX3_readNumber_45 (by decide) ?_
      exact hrec4 x16 a1 b14 b12 hf H locs ls hP hS (lv_sub hl [2, 3, 0, 1] rfl)
theorem tX3_readNumber_4 (hC : Cf p s m args meth c cX3_readNumber 4 RX3 (some .boolean) D cy tX tY ad A 93) (F : Nat) {z : Int32 × HT} : ∀ (n9 : Nat) (x : HT) (a1 : Int32) (a2 : Int32) (a3 : Int32), fX3_readNumber_4 F n9 x a1 a2 a3 = some z → Wd p l e { frames := 1, cells := 0, slots := 0, locals := 20 } s m args below meth c D (eX cy ad) 93 ad A (cQi (eX cy ad) 93 ad D A z) 4 4 [(0, .ref (ad 89)), (1, .int a1), (2, .int a2), (3, .int a3)] [] x := by
  intro n9
  induction n9 with
  | zero => intro x a1 a2 a3 hf; cases hf
  | succ n9 ih => intro x a1 a2 a3 hf; exact tX3_readNumber_4b hC F (fX3_readNumber_4 F n9) ih x a1 a2 a3 hf
set_option maxHeartbeats 4000000 in
set_option maxRecDepth 100000 in
theorem kX3_readNumber (l : Launch) (D : va_G) (cy : Nat → ClassId) (tX tY : Nat) (ad : Nat → Nat) (A : Nat → Prop) (hA : apart ad A 93) (F : Nat) (x : HT) (a1 : Int32) {z : Int32 × HT} (hf : fX3_readNumber F x a1 = some z) : Met l yX3_readNumber (Cond.code yX3_readNumber cX3_readNumber 4 (some .boolean) :: wAll) { frames := 1, cells := 0, slots := 0, locals := 20 } (cPc (eX cy ad) 93 ad D cy tX tY A [.ref (ad 89), .int a1] x) (cQi (eX cy ad) 93 ad D A z) 0 0 A := by
  refine gMet hA (by decide) (Nat.le_of_ble_eq_true rfl) (fun p e s m below meth c hC H locs ls hP hS hl => ?_)
  have hC : Cf p s m _ meth c cX3_readNumber 4 RX3 (some .boolean) D cy tX tY ad A 93 := hC
  have hl : lv_has ls 4 [(0, .ref (ad 89)), (1, .int a1)] := hl
  obtain ⟨hx, hb, -⟩ := id hC
  refine lv_iconst (v := 0) hx hb dX3_readNumber_0 (by decide) ?_
  refine lv_istore_n (lv' := [(2, .int (0 : Int32)), (0, .ref (ad 89)), (1, .int a1)]) hx hb dX3_readNumber_1 rfl hl (by decide) rfl (fun ls hl => ?_)
  refine lv_iconst (v := 0) hx hb dX3_readNumber_2 (by decide) ?_
  refine lv_istore_n (lv' := [(3, .int (0 : Int32)), (2, .int (0 : Int32)), (0, .ref (ad 89)), (1, .int a1)]) hx hb dX3_readNumber_3 rfl hl (by decide) rfl (fun ls hl => ?_)
  exact tX3_readNumber_4 hC F F x a1 (0 : Int32) (0 : Int32) hf H locs ls hP hS (lv_sub hl [2, 3, 1, 0] rfl)
set_option maxHeartbeats 4000000 in
set_option maxRecDepth 100000 in
theorem tX3_readOrder_66b (hC : Cf p s m args meth c cX3_readOrder 4 RX3 (some .boolean) D cy tX tY ad A 93) (F : Nat) {z : Int32 × HT} (rec66 : HT → Int32 → Int32 → Option (Int32 × HT)) (hrec66 : ∀ (x : HT) (a2 : Int32) (a3 : Int32), rec66 x a2 a3 = some z → Wd p l e { frames := 2, cells := 0, slots := 0, locals := 43 } s m args below meth c D (eX cy ad) 93 ad A (cQi (eX cy ad) 93 ad D A z) 4 66 [(0, .ref (ad 89)), (2, .int a2), (3, .int a3)] [] x) : ∀ (x : HT) (a2 : Int32) (a3 : Int32), fX3_readOrder_66b F rec66 x a2 a3 = some z → Wd p l e { frames := 2, cells := 0, slots := 0, locals := 43 } s m args below meth c D (eX cy ad) 93 ad A (cQi (eX cy ad) 93 ad D A z) 4 66 [(0, .ref (ad 89)), (2, .int a2), (3, .int a3)] [] x := by
  intro x a2 a3 hf H locs ls hP hS hl
  obtain ⟨hx, hb, -⟩ := id hC
  refine lv_iload_n hx hb dX3_readOrder_66 rfl (lv_at hl 2 rfl) ?_
  refine lv_iload_n hx hb dX3_readOrder_67 rfl (lv_at hl 1 rfl) ?_
  refine lv_icmp_ge (tgt := 98) hx hb dX3_readOrder_68 (by decide) (fun c19 => ?_) (fun c19 => ?_)
  · have hf := it_t c19 hf
    refine lv_aload_n hx hb dX3_readOrder_98 rfl (lv_at hl 0 rfl) ?_
    obtain ⟨r21, x20, e22, hf⟩ := bd_some hf
    refine gVv (As := []) (rest := []) (k := 89) hC hP hS (kX3_passBlanks l D cy tX tY ad A hC.2.2.2.2.2.2.2.2.1 F x e22) glX3_31 ⟨rfl, rfl⟩ hdX3_passBlanks ⟨Nat.le_of_ble_eq_true rfl, Nat.le_of_ble_eq_true rfl⟩ (by decide) (eX_89 cy ad _ _) rfl rfl hl.1 rfl (Nat.le_of_ble_eq_true rfl) dX3_readOrder_99 ⟨Nat.zero_le _, Nat.zero_le _⟩ (fun H locs hP hS => ?_)
    refine lv_aload_n hx hb dX3_readOrder_102 rfl (lv_at hl 0 rfl) ?_
    obtain ⟨r24, x23, e25, hf⟩ := bd_some hf
    refine gVi (As := []) (rest := []) (k := 89) hC hP hS (kX3_byteHere l D cy tX tY ad A hC.2.2.2.2.2.2.2.2.1 F x20 e25) glX3_38 ⟨rfl, rfl⟩ hdX3_byteHere ⟨Nat.le_of_ble_eq_true rfl, Nat.le_of_ble_eq_true rfl⟩ (by decide) (eX_89 cy ad _ _) rfl rfl hl.1 rfl (Nat.le_of_ble_eq_true rfl) dX3_readOrder_103 ⟨Nat.zero_le _, Nat.zero_le _⟩ (fun H locs hP hS => ?_)
    refine lv_bipush (v := 59) hx hb dX3_readOrder_106 (by decide) ?_
    refine lv_icmp_eq (tgt := 113) hx hb dX3_readOrder_108 (by decide) (fun c26 => ?_) (fun c26 => ?_)
    · have hf := it_t c26 hf
      refine lv_aload_n hx hb dX3_readOrder_113 rfl (lv_at hl 0 rfl) ?_
      refine lv_dup hx hb dX3_readOrder_114 rfl ?_
      refine gfX3_28 hC hP dX3_readOrder_115 ?_
      refine lv_iconst (v := 1) hx hb dX3_readOrder_118 (by decide) ?_
      refine lv_iadd hx hb dX3_readOrder_119 ?_
      refine pfX3_28 hC hP hS dX3_readOrder_120 (fun H locs hP hS => ?_)
      obtain ⟨x27, e28, hf⟩ := lt_some hf
      have hP : va_P D vwCl (wG (eX cy ad) 93 ad x27) H := by rw [e28]; exact hP
      refine lv_iconst (v := 1) hx hb dX3_readOrder_123 (by decide) ?_
      exact gZret hC hP hS rfl hf dX3_readOrder_124
    · have hf := it_f c26 hf
      refine lv_iconst (v := 0) hx hb dX3_readOrder_111 (by decide) ?_
      exact gZret hC hP hS rfl hf dX3_readOrder_112
  · have hf := it_f c19 hf
    refine lv_aload_n hx hb dX3_readOrder_71 rfl (lv_at hl 0 rfl) ?_
    obtain ⟨r30, x29, e31, hf⟩ := bd_some hf
    refine gVv (As := []) (rest := []) (k := 89) hC hP hS (kX3_passBlanks l D cy tX tY ad A hC.2.2.2.2.2.2.2.2.1 F x e31) glX3_31 ⟨rfl, rfl⟩ hdX3_passBlanks ⟨Nat.le_of_ble_eq_true rfl, Nat.le_of_ble_eq_true rfl⟩ (by decide) (eX_89 cy ad _ _) rfl rfl hl.1 rfl (Nat.le_of_ble_eq_true rfl) dX3_readOrder_72 ⟨Nat.zero_le _, Nat.zero_le _⟩ (fun H locs hP hS => ?_)
    refine lv_aload_n hx hb dX3_readOrder_75 rfl (lv_at hl 0 rfl) ?_
    refine lv_aload_n hx hb dX3_readOrder_76 rfl (lv_at hl 0 rfl) ?_
    refine gfX3_25 hC hP dX3_readOrder_77 ?_
    refine lv_iconst (v := 3) hx hb dX3_readOrder_80 (by decide) ?_
    refine lv_imul hx hb dX3_readOrder_81 ?_
    refine lv_iload_n hx hb dX3_readOrder_82 rfl (lv_at hl 2 rfl) ?_
    refine lv_iadd hx hb dX3_readOrder_83 ?_
    obtain ⟨r33, x32, e34, hf⟩ := bd_some hf
    refine gVi (As := [.int (((x29.1 89 4) * (3 : Int32)) + a3)]) (rest := []) (k := 89) hC hP hS (kX3_readNumber l D cy tX tY ad A hC.2.2.2.2.2.2.2.2.1 F x29 (((x29.1 89 4) * (3 : Int32)) + a3) e34) glX3_46 ⟨rfl, rfl⟩ hdX3_readNumber ⟨Nat.le_of_ble_eq_true rfl, Nat.le_of_ble_eq_true rfl⟩ (by decide) (eX_89 cy ad _ _) rfl rfl hl.1 rfl (Nat.le_of_ble_eq_true rfl) dX3_readOrder_84 ⟨Nat.zero_le _, Nat.zero_le _⟩ (fun H locs hP hS => ?_)
    refine lv_if_ne (tgt := 92) hx hb dX3_readOrder_87 (by decide) (fun c35 => ?_) (fun c35 => ?_)
    · have hf := it_f c35 hf
      obtain ⟨b36, e37, hf⟩ := lt_some hf
      refine lv_iinc (v := b36) (lv' := [(3, .int b36), (0, .ref (ad 89)), (2, .int a2)]) hx hb dX3_readOrder_92 hl (k := 2) rfl (by rw [e37]; rfl) (by decide) rfl (fun ls hl => ?_)
      refine lv_goto (tgt := 66) hx hb dX3_readOrder_95 (by decide) ?_
      exact hrec66 x32 a2 b36 hf H locs ls hP hS (lv_sub hl [1, 2, 0] rfl)
    · have hf := it_t c35 hf
      refine lv_iconst (v := 0) hx hb dX3_readOrder_90 (by decide) ?_
      exact gZret hC hP hS rfl hf dX3_readOrder_91
theorem tX3_readOrder_66 (hC : Cf p s m args meth c cX3_readOrder 4 RX3 (some .boolean) D cy tX tY ad A 93) (F : Nat) {z : Int32 × HT} : ∀ (n9 : Nat) (x : HT) (a2 : Int32) (a3 : Int32), fX3_readOrder_66 F n9 x a2 a3 = some z → Wd p l e { frames := 2, cells := 0, slots := 0, locals := 43 } s m args below meth c D (eX cy ad) 93 ad A (cQi (eX cy ad) 93 ad D A z) 4 66 [(0, .ref (ad 89)), (2, .int a2), (3, .int a3)] [] x := by
  intro n9
  induction n9 with
  | zero => intro x a2 a3 hf; cases hf
  | succ n9 ih => intro x a2 a3 hf; exact tX3_readOrder_66b hC F (fX3_readOrder_66 F n9) ih x a2 a3 hf
set_option maxHeartbeats 4000000 in
set_option maxRecDepth 100000 in
theorem tX3_readOrder_39b (hC : Cf p s m args meth c cX3_readOrder 4 RX3 (some .boolean) D cy tX tY ad A 93) (F : Nat) {z : Int32 × HT} (rec39 : HT → Int32 → Int32 → Option (Int32 × HT)) (hrec39 : ∀ (x : HT) (a2 : Int32) (a3 : Int32), rec39 x a2 a3 = some z → Wd p l e { frames := 2, cells := 0, slots := 0, locals := 43 } s m args below meth c D (eX cy ad) 93 ad A (cQi (eX cy ad) 93 ad D A z) 4 39 [(0, .ref (ad 89)), (2, .int a2), (3, .int a3)] [] x) : ∀ (x : HT) (a2 : Int32) (a3 : Int32), fX3_readOrder_39b F rec39 x a2 a3 = some z → Wd p l e { frames := 2, cells := 0, slots := 0, locals := 43 } s m args below meth c D (eX cy ad) 93 ad A (cQi (eX cy ad) 93 ad D A z) 4 39 [(0, .ref (ad 89)), (2, .int a2), (3, .int a3)] [] x := by
  intro x a2 a3 hf H locs ls hP hS hl
  obtain ⟨hx, hb, -⟩ := id hC
  refine lv_iload_n hx hb dX3_readOrder_39 rfl (lv_at hl 2 rfl) ?_
  refine lv_iconst (v := 3) hx hb dX3_readOrder_40 (by decide) ?_
  refine lv_icmp_ge (tgt := 64) hx hb dX3_readOrder_41 (by decide) (fun c13 => ?_) (fun c13 => ?_)
  · have hf := it_t c13 hf
    refine lv_iconst (v := 0) hx hb dX3_readOrder_64 (by decide) ?_
    refine lv_istore_n (lv' := [(3, .int (0 : Int32)), (0, .ref (ad 89)), (2, .int a2)]) hx hb dX3_readOrder_65 rfl hl (by decide) rfl (fun ls hl => ?_)
    exact tX3_readOrder_66 hC F F x a2 (0 : Int32) hf H locs ls hP hS (lv_sub hl [1, 2, 0] rfl)
  · have hf := it_f c13 hf
    refine lv_aload_n hx hb dX3_readOrder_44 rfl (lv_at hl 0 rfl) ?_
    refine gfX3_18 hC hP dX3_readOrder_45 ?_
    refine lv_aload_n hx hb dX3_readOrder_48 rfl (lv_at hl 0 rfl) ?_
    refine gfX3_25 hC hP dX3_readOrder_49 ?_
    refine lv_iconst (v := 3) hx hb dX3_readOrder_52 (by decide) ?_
    refine lv_imul hx hb dX3_readOrder_53 ?_
    refine lv_iload_n hx hb dX3_readOrder_54 rfl (lv_at hl 2 rfl) ?_
    refine lv_iadd hx hb dX3_readOrder_55 ?_
    refine lv_iconst (v := 0) hx hb dX3_readOrder_56 (by decide) ?_
    obtain ⟨h14, hf⟩ := ck_some hf
    refine gIas hC hP hS 92 (by decide) (fun g9 => eX_92 cy ad g9 _) h14 dX3_readOrder_57 (fun H locs hP hS => ?_)
    obtain ⟨x15, e16, hf⟩ := lt_some hf
    have hP : va_P D vwCl (wG (eX cy ad) 93 ad x15) H := by rw [e16]; exact hP
    obtain ⟨b17, e18, hf⟩ := lt_some hf
    refine lv_iinc (v := b17) (lv' := [(3, .int b17), (0, .ref (ad 89)), (2, .int a2)]) hx hb dX3_readOrder_58 hl (k := 2) rfl (by rw [e18]; rfl) (by decide) rfl (fun ls hl => ?_)
    refine lv_goto (tgt := 39) hx hb dX3_readOrder_61 (by decide) ?_
    exact hrec39 x15 a2 b17 hf H locs ls hP hS (lv_sub hl [1, 2, 0] rfl)
theorem tX3_readOrder_39 (hC : Cf p s m args meth c cX3_readOrder 4 RX3 (some .boolean) D cy tX tY ad A 93) (F : Nat) {z : Int32 × HT} : ∀ (n9 : Nat) (x : HT) (a2 : Int32) (a3 : Int32), fX3_readOrder_39 F n9 x a2 a3 = some z → Wd p l e { frames := 2, cells := 0, slots := 0, locals := 43 } s m args below meth c D (eX cy ad) 93 ad A (cQi (eX cy ad) 93 ad D A z) 4 39 [(0, .ref (ad 89)), (2, .int a2), (3, .int a3)] [] x := by
  intro n9
  induction n9 with
  | zero => intro x a2 a3 hf; cases hf
  | succ n9 ih => intro x a2 a3 hf; exact tX3_readOrder_39b hC F (fX3_readOrder_39 F n9) ih x a2 a3 hf
set_option maxHeartbeats 4000000 in
set_option maxRecDepth 100000 in
theorem kX3_readOrder (l : Launch) (D : va_G) (cy : Nat → ClassId) (tX tY : Nat) (ad : Nat → Nat) (A : Nat → Prop) (hA : apart ad A 93) (F : Nat) (x : HT) {z : Int32 × HT} (hf : fX3_readOrder F x = some z) : Met l yX3_readOrder (Cond.code yX3_readOrder cX3_readOrder 4 (some .boolean) :: wAll) { frames := 2, cells := 0, slots := 0, locals := 43 } (cPc (eX cy ad) 93 ad D cy tX tY A [.ref (ad 89)] x) (cQi (eX cy ad) 93 ad D A z) 0 0 A := by
  refine gMet hA (by decide) (Nat.le_of_ble_eq_true rfl) (fun p e s m below meth c hC H locs ls hP hS hl => ?_)
  have hC : Cf p s m _ meth c cX3_readOrder 4 RX3 (some .boolean) D cy tX tY ad A 93 := hC
  have hl : lv_has ls 4 [(0, .ref (ad 89))] := hl
  obtain ⟨hx, hb, -⟩ := id hC
  refine lv_aload_n hx hb dX3_readOrder_0 rfl (lv_at hl 0 rfl) ?_
  obtain ⟨r2, x1, e3, hf⟩ := bd_some hf
  refine gVi (As := []) (rest := []) (k := 89) hC hP hS (kX3_byteHere l D cy tX tY ad A hC.2.2.2.2.2.2.2.2.1 F x e3) glX3_38 ⟨rfl, rfl⟩ hdX3_byteHere ⟨Nat.le_of_ble_eq_true rfl, Nat.le_of_ble_eq_true rfl⟩ (by decide) (eX_89 cy ad _ _) rfl rfl hl.1 rfl (Nat.le_of_ble_eq_true rfl) dX3_readOrder_1 ⟨Nat.zero_le _, Nat.zero_le _⟩ (fun H locs hP hS => ?_)
  refine lv_istore_n (lv' := [(1, .int r2), (0, .ref (ad 89))]) hx hb dX3_readOrder_4 rfl hl (by decide) rfl (fun ls hl => ?_)
  refine lv_iload_n hx hb dX3_readOrder_5 rfl (lv_at hl 0 rfl) ?_
  obtain ⟨r5, x4, e6, hf⟩ := bd_some hf
  refine gSi (As := [.int r2]) (rest := []) hC hP hS (kX3_numbersDue l D cy tX tY ad A hC.2.2.2.2.2.2.2.2.1 F x1 r2 e6) glX3_42 ⟨rfl, rfl⟩ hdX3_numbersDue ⟨Nat.le_of_ble_eq_true rfl, Nat.le_of_ble_eq_true rfl⟩ rfl hl.1 rfl (Nat.le_of_ble_eq_true rfl) dX3_readOrder_6 ⟨Nat.zero_le _, Nat.zero_le _⟩ (fun H locs hP hS => ?_)
  refine lv_istore_n (lv' := [(2, .int r5), (1, .int r2), (0, .ref (ad 89))]) hx hb dX3_readOrder_9 rfl hl (by decide) rfl (fun ls hl => ?_)
  refine lv_iload_n hx hb dX3_readOrder_10 rfl (lv_at hl 0 rfl) ?_
  refine lv_iconst (v := -1) hx hb dX3_readOrder_11 (by decide) ?_
  refine lv_icmp_ne (tgt := 17) hx hb dX3_readOrder_12 (by decide) (fun c7 => ?_) (fun c7 => ?_)
  · have hf := it_f c7 hf
    refine lv_aload_n hx hb dX3_readOrder_17 rfl (lv_at hl 2 rfl) ?_
    refine gfX3_15 hC hP dX3_readOrder_18 ?_
    refine lv_aload_n hx hb dX3_readOrder_21 rfl (lv_at hl 2 rfl) ?_
    refine gfX3_25 hC hP dX3_readOrder_22 ?_
    refine lv_iload_n hx hb dX3_readOrder_25 rfl (lv_at hl 1 rfl) ?_
    obtain ⟨h8, hf⟩ := ck_some hf
    refine gIas hC hP hS 91 (by decide) (fun g9 => eX_91 cy ad g9 _) h8 dX3_readOrder_26 (fun H locs hP hS => ?_)
    obtain ⟨x9, e10, hf⟩ := lt_some hf
    have hP : va_P D vwCl (wG (eX cy ad) 93 ad x9) H := by rw [e10]; exact hP
    refine lv_aload_n hx hb dX3_readOrder_27 rfl (lv_at hl 2 rfl) ?_
    refine lv_dup hx hb dX3_readOrder_28 rfl ?_
    refine gfX3_28 hC hP dX3_readOrder_29 ?_
    refine lv_iconst (v := 1) hx hb dX3_readOrder_32 (by decide) ?_
    refine lv_iadd hx hb dX3_readOrder_33 ?_
    refine pfX3_28 hC hP hS dX3_readOrder_34 (fun H locs hP hS => ?_)
    obtain ⟨x11, e12, hf⟩ := lt_some hf
    have hP : va_P D vwCl (wG (eX cy ad) 93 ad x11) H := by rw [e12]; exact hP
    refine lv_iconst (v := 0) hx hb dX3_readOrder_37 (by decide) ?_
    refine lv_istore_n (lv' := [(3, .int (0 : Int32)), (2, .int r5), (1, .int r2), (0, .ref (ad 89))]) hx hb dX3_readOrder_38 rfl hl (by decide) rfl (fun ls hl => ?_)
    exact tX3_readOrder_39 hC F F x11 r5 (0 : Int32) hf H locs ls hP hS (lv_sub hl [3, 1, 0] rfl)
  · have hf := it_t c7 hf
    refine lv_iconst (v := 0) hx hb dX3_readOrder_15 (by decide) ?_
    exact gZret hC hP hS rfl hf dX3_readOrder_16
set_option maxHeartbeats 4000000 in
set_option maxRecDepth 100000 in
theorem tX3_read_70 (hC : Cf p s m args meth c cX3_read 1 RX3 (some .int) D cy tX tY ad A 93) (F : Nat) {z : Int32 × HT} : ∀ (x : HT), fX3_read_70 F x = some z → Wd p l e { frames := 3, cells := 0, slots := 0, locals := 66 } s m args below meth c D (eX cy ad) 93 ad A (cQi (eX cy ad) 93 ad D A z) 1 70 [] [] x := by
  intro x hf H locs ls hP hS hl
  obtain ⟨hx, hb, -⟩ := id hC
  refine lv_iconst (v := -1) hx hb dX3_read_70 (by decide) ?_
  exact gIret hC hP hS hf dX3_read_71
set_option maxHeartbeats 4000000 in
set_option maxRecDepth 100000 in
theorem tX3_read_41 (hC : Cf p s m args meth c cX3_read 1 RX3 (some .int) D cy tX tY ad A 93) (F : Nat) {z : Int32 × HT} (rec14 : HT → Option (Int32 × HT)) (hrec14 : ∀ (x : HT), rec14 x = some z → Wd p l e { frames := 3, cells := 0, slots := 0, locals := 66 } s m args below meth c D (eX cy ad) 93 ad A (cQi (eX cy ad) 93 ad D A z) 1 14 [(0, .ref (ad 89))] [] x) : ∀ (x : HT), fX3_read_41 F rec14 x = some z → Wd p l e { frames := 3, cells := 0, slots := 0, locals := 66 } s m args below meth c D (eX cy ad) 93 ad A (cQi (eX cy ad) 93 ad D A z) 1 41 [(0, .ref (ad 89))] [] x := by
  intro x hf H locs ls hP hS hl
  obtain ⟨hx, hb, -⟩ := id hC
  refine lv_aload_n hx hb dX3_read_41 rfl (lv_at hl 0 rfl) ?_
  obtain ⟨r12, x11, e13, hf⟩ := bd_some hf
  refine gVi (As := []) (rest := []) (k := 89) hC hP hS (kX3_readOrder l D cy tX tY ad A hC.2.2.2.2.2.2.2.2.1 F x e13) glX3_34 ⟨rfl, rfl⟩ hdX3_readOrder ⟨Nat.le_of_ble_eq_true rfl, Nat.le_of_ble_eq_true rfl⟩ (by decide) (eX_89 cy ad _ _) rfl rfl hl.1 rfl (Nat.le_of_ble_eq_true rfl) dX3_read_42 ⟨Nat.zero_le _, Nat.zero_le _⟩ (fun H locs hP hS => ?_)
  refine lv_if_ne (tgt := 53) hx hb dX3_read_45 (by decide) (fun c14 => ?_) (fun c14 => ?_)
  · have hf := it_f c14 hf
    refine lv_aload_n hx hb dX3_read_53 rfl (lv_at hl 0 rfl) ?_
    refine lv_dup hx hb dX3_read_54 rfl ?_
    refine gfX3_25 hC hP dX3_read_55 ?_
    refine lv_iconst (v := 1) hx hb dX3_read_58 (by decide) ?_
    refine lv_iadd hx hb dX3_read_59 ?_
    refine pfX3_25 hC hP hS dX3_read_60 (fun H locs hP hS => ?_)
    obtain ⟨x15, e16, hf⟩ := lt_some hf
    have hP : va_P D vwCl (wG (eX cy ad) 93 ad x15) H := by rw [e16]; exact hP
    refine lv_aload_n hx hb dX3_read_63 rfl (lv_at hl 0 rfl) ?_
    obtain ⟨r18, x17, e19, hf⟩ := bd_some hf
    refine gVv (As := []) (rest := []) (k := 89) hC hP hS (kX3_passBlanks l D cy tX tY ad A hC.2.2.2.2.2.2.2.2.1 F x15 e19) glX3_31 ⟨rfl, rfl⟩ hdX3_passBlanks ⟨Nat.le_of_ble_eq_true rfl, Nat.le_of_ble_eq_true rfl⟩ (by decide) (eX_89 cy ad _ _) rfl rfl hl.1 rfl (Nat.le_of_ble_eq_true rfl) dX3_read_64 ⟨Nat.zero_le _, Nat.zero_le _⟩ (fun H locs hP hS => ?_)
    refine lv_goto (tgt := 14) hx hb dX3_read_67 (by decide) ?_
    exact hrec14 x17 hf H locs ls hP hS (lv_sub hl [0] rfl)
  · have hf := it_t c14 hf
    refine lv_aload_n hx hb dX3_read_48 rfl (lv_at hl 0 rfl) ?_
    refine gfX3_28 hC hP dX3_read_49 ?_
    exact gIret hC hP hS hf dX3_read_52
set_option maxHeartbeats 4000000 in
set_option maxRecDepth 100000 in
theorem tX3_read_14b (hC : Cf p s m args meth c cX3_read 1 RX3 (some .int) D cy tX tY ad A 93) (F : Nat) {z : Int32 × HT} (rec14 : HT → Option (Int32 × HT)) (hrec14 : ∀ (x : HT), rec14 x = some z → Wd p l e { frames := 3, cells := 0, slots := 0, locals := 66 } s m args below meth c D (eX cy ad) 93 ad A (cQi (eX cy ad) 93 ad D A z) 1 14 [(0, .ref (ad 89))] [] x) : ∀ (x : HT), fX3_read_14b F rec14 x = some z → Wd p l e { frames := 3, cells := 0, slots := 0, locals := 66 } s m args below meth c D (eX cy ad) 93 ad A (cQi (eX cy ad) 93 ad D A z) 1 14 [(0, .ref (ad 89))] [] x := by
  intro x hf H locs ls hP hS hl
  obtain ⟨hx, hb, -⟩ := id hC
  refine lv_aload_n hx hb dX3_read_14 rfl (lv_at hl 0 rfl) ?_
  refine gfX3_25 hC hP dX3_read_15 ?_
  refine lv_bipush (v := 60) hx hb dX3_read_18 (by decide) ?_
  refine lv_icmp_ge (tgt := 70) hx hb dX3_read_20 (by decide) (fun c8 => ?_) (fun c8 => ?_)
  · have hf := it_t c8 hf
    exact tX3_read_70 hC F x hf H locs ls hP hS (lv_sub hl [] rfl)
  · have hf := it_f c8 hf
    refine lv_aload_n hx hb dX3_read_23 rfl (lv_at hl 0 rfl) ?_
    refine gfX3_28 hC hP dX3_read_24 ?_
    refine lv_aload_n hx hb dX3_read_27 rfl (lv_at hl 0 rfl) ?_
    refine gfX3_21 hC hP dX3_read_28 ?_
    refine lv_icmp_lt (tgt := 41) hx hb dX3_read_31 (by decide) (fun c9 => ?_) (fun c9 => ?_)
    · have hf := it_t c9 hf
      exact tX3_read_41 hC F rec14 hrec14 x hf H locs ls hP hS (lv_sub hl [0] rfl)
    · have hf := it_f c9 hf
      refine lv_aload_n hx hb dX3_read_34 rfl (lv_at hl 0 rfl) ?_
      refine gfX3_25 hC hP dX3_read_35 ?_
      refine lv_if_ne (tgt := 70) hx hb dX3_read_38 (by decide) (fun c10 => ?_) (fun c10 => ?_)
      · have hf := it_f c10 hf
        exact tX3_read_70 hC F x hf H locs ls hP hS (lv_sub hl [] rfl)
      · have hf := it_t c10 hf
        exact tX3_read_41 hC F rec14 hrec14 x hf H locs ls hP hS (lv_sub hl [0] rfl)
theorem tX3_read_14 (hC : Cf p s m args meth c cX3_read 1 RX3 (some .int) D cy tX tY ad A 93) (F : Nat) {z : Int32 × HT} : ∀ (n9 : Nat) (x : HT), fX3_read_14 F n9 x = some z → Wd p l e { frames := 3, cells := 0, slots := 0, locals := 66 } s m args below meth c D (eX cy ad) 93 ad A (cQi (eX cy ad) 93 ad D A z) 1 14 [(0, .ref (ad 89))] [] x := by
  intro n9
  induction n9 with
  | zero => intro x hf; cases hf
  | succ n9 ih => intro x hf; exact tX3_read_14b hC F (fX3_read_14 F n9) ih x hf
set_option maxHeartbeats 4000000 in
set_option maxRecDepth 100000 in
theorem kX3_read (l : Launch) (D : va_G) (cy : Nat → ClassId) (tX tY : Nat) (ad : Nat → Nat) (A : Nat → Prop) (hA : apart ad A 93) (F : Nat) (x : HT) {z : Int32 × HT} (hf : fX3_read F x = some z) : Met l yX3_read (Cond.code yX3_read cX3_read 1 (some .int) :: wAll) { frames := 3, cells := 0, slots := 0, locals := 66 } (cPc (eX cy ad) 93 ad D cy tX tY A [.ref (ad 89)] x) (cQi (eX cy ad) 93 ad D A z) 0 0 A := by
  refine gMet hA (by decide) (Nat.le_of_ble_eq_true rfl) (fun p e s m below meth c hC H locs ls hP hS hl => ?_)
  have hC : Cf p s m _ meth c cX3_read 1 RX3 (some .int) D cy tX tY ad A 93 := hC
  have hl : lv_has ls 1 [(0, .ref (ad 89))] := hl
  obtain ⟨hx, hb, -⟩ := id hC
  refine lv_aload_n hx hb dX3_read_0 rfl (lv_at hl 0 rfl) ?_
  refine lv_iconst (v := 0) hx hb dX3_read_1 (by decide) ?_
  refine pfX3_25 hC hP hS dX3_read_2 (fun H locs hP hS => ?_)
  obtain ⟨x1, e2, hf⟩ := lt_some hf
  have hP : va_P D vwCl (wG (eX cy ad) 93 ad x1) H := by rw [e2]; exact hP
  refine lv_aload_n hx hb dX3_read_5 rfl (lv_at hl 0 rfl) ?_
  refine lv_iconst (v := 0) hx hb dX3_read_6 (by decide) ?_
  refine pfX3_28 hC hP hS dX3_read_7 (fun H locs hP hS => ?_)
  obtain ⟨x3, e4, hf⟩ := lt_some hf
  have hP : va_P D vwCl (wG (eX cy ad) 93 ad x3) H := by rw [e4]; exact hP
  refine lv_aload_n hx hb dX3_read_10 rfl (lv_at hl 0 rfl) ?_
  obtain ⟨r6, x5, e7, hf⟩ := bd_some hf
  refine gVv (As := []) (rest := []) (k := 89) hC hP hS (kX3_passBlanks l D cy tX tY ad A hC.2.2.2.2.2.2.2.2.1 F x3 e7) glX3_31 ⟨rfl, rfl⟩ hdX3_passBlanks ⟨Nat.le_of_ble_eq_true rfl, Nat.le_of_ble_eq_true rfl⟩ (by decide) (eX_89 cy ad _ _) rfl rfl hl.1 rfl (Nat.le_of_ble_eq_true rfl) dX3_read_11 ⟨Nat.zero_le _, Nat.zero_le _⟩ (fun H locs hP hS => ?_)
  exact tX3_read_14 hC F F x5 hf H locs ls hP hS (lv_sub hl [0] rfl)
set_option maxHeartbeats 4000000 in
set_option maxRecDepth 100000 in
theorem kX3_orders (l : Launch) (D : va_G) (cy : Nat → ClassId) (tX tY : Nat) (ad : Nat → Nat) (A : Nat → Prop) (hA : apart ad A 93) (F : Nat) (x : HT) {z : Int32 × HT} (hf : fX3_orders F x = some z) : Met l yX3_orders (Cond.code yX3_orders cX3_orders 1 (some .int) :: wAll) { frames := 0, cells := 0, slots := 0, locals := 0 } (cPc (eX cy ad) 93 ad D cy tX tY A [.ref (ad 89)] x) (cQi (eX cy ad) 93 ad D A z) 0 0 A := by
  refine gMet hA (by decide) (Nat.le_of_ble_eq_true rfl) (fun p e s m below meth c hC H locs ls hP hS hl => ?_)
  have hC : Cf p s m _ meth c cX3_orders 1 RX3 (some .int) D cy tX tY ad A 93 := hC
  have hl : lv_has ls 1 [(0, .ref (ad 89))] := hl
  obtain ⟨hx, hb, -⟩ := id hC
  refine lv_aload_n hx hb dX3_orders_0 rfl (lv_at hl 0 rfl) ?_
  refine gfX3_25 hC hP dX3_orders_1 ?_
  exact gIret hC hP hS hf dX3_orders_4
set_option maxHeartbeats 4000000 in
set_option maxRecDepth 100000 in
theorem kX3_letterOf (l : Launch) (D : va_G) (cy : Nat → ClassId) (tX tY : Nat) (ad : Nat → Nat) (A : Nat → Prop) (hA : apart ad A 93) (F : Nat) (x : HT) (a1 : Int32) {z : Int32 × HT} (hf : fX3_letterOf F x a1 = some z) : Met l yX3_letterOf (Cond.code yX3_letterOf cX3_letterOf 2 (some .int) :: wAll) { frames := 0, cells := 0, slots := 0, locals := 0 } (cPc (eX cy ad) 93 ad D cy tX tY A [.ref (ad 89), .int a1] x) (cQi (eX cy ad) 93 ad D A z) 0 0 A := by
  refine gMet hA (by decide) (Nat.le_of_ble_eq_true rfl) (fun p e s m below meth c hC H locs ls hP hS hl => ?_)
  have hC : Cf p s m _ meth c cX3_letterOf 2 RX3 (some .int) D cy tX tY ad A 93 := hC
  have hl : lv_has ls 2 [(0, .ref (ad 89)), (1, .int a1)] := hl
  obtain ⟨hx, hb, -⟩ := id hC
  refine lv_aload_n hx hb dX3_letterOf_0 rfl (lv_at hl 0 rfl) ?_
  refine gfX3_15 hC hP dX3_letterOf_1 ?_
  refine lv_iload_n hx hb dX3_letterOf_4 rfl (lv_at hl 1 rfl) ?_
  obtain ⟨h1, hf⟩ := ck_some hf
  refine gIal hC hP 91 (by decide) (eX_91 cy ad _ _) h1 dX3_letterOf_5 ?_
  exact gIret hC hP hS hf dX3_letterOf_6
set_option maxHeartbeats 4000000 in
set_option maxRecDepth 100000 in
theorem kX3_numberOf (l : Launch) (D : va_G) (cy : Nat → ClassId) (tX tY : Nat) (ad : Nat → Nat) (A : Nat → Prop) (hA : apart ad A 93) (F : Nat) (x : HT) (a1 : Int32) (a2 : Int32) {z : Int32 × HT} (hf : fX3_numberOf F x a1 a2 = some z) : Met l yX3_numberOf (Cond.code yX3_numberOf cX3_numberOf 3 (some .int) :: wAll) { frames := 0, cells := 0, slots := 0, locals := 0 } (cPc (eX cy ad) 93 ad D cy tX tY A [.ref (ad 89), .int a1, .int a2] x) (cQi (eX cy ad) 93 ad D A z) 0 0 A := by
  refine gMet hA (by decide) (Nat.le_of_ble_eq_true rfl) (fun p e s m below meth c hC H locs ls hP hS hl => ?_)
  have hC : Cf p s m _ meth c cX3_numberOf 3 RX3 (some .int) D cy tX tY ad A 93 := hC
  have hl : lv_has ls 3 [(0, .ref (ad 89)), (1, .int a1), (2, .int a2)] := hl
  obtain ⟨hx, hb, -⟩ := id hC
  refine lv_aload_n hx hb dX3_numberOf_0 rfl (lv_at hl 0 rfl) ?_
  refine gfX3_18 hC hP dX3_numberOf_1 ?_
  refine lv_iload_n hx hb dX3_numberOf_4 rfl (lv_at hl 1 rfl) ?_
  refine lv_iconst (v := 3) hx hb dX3_numberOf_5 (by decide) ?_
  refine lv_imul hx hb dX3_numberOf_6 ?_
  refine lv_iload_n hx hb dX3_numberOf_7 rfl (lv_at hl 2 rfl) ?_
  refine lv_iadd hx hb dX3_numberOf_8 ?_
  obtain ⟨h1, hf⟩ := ck_some hf
  refine gIal hC hP 92 (by decide) (eX_92 cy ad _ _) h1 dX3_numberOf_9 ?_
  exact gIret hC hP hS hf dX3_numberOf_10
set_option maxHeartbeats 4000000 in
set_option maxRecDepth 100000 in
theorem kX6_perform (l : Launch) (D : va_G) (cy : Nat → ClassId) (tX tY : Nat) (ad : Nat → Nat) (A : Nat → Prop) (hA : apart ad A 93) (F : Nat) (x : HT) (a1 : Int32) (a2 : Int32) (a3 : Int32) (a4 : Int32) {z : Int32 × HT} (hf : fX6_perform F x a1 a2 a3 a4 = some z) : Met l yX6_perform (Cond.code yX6_perform cX6_perform 5 (some .int) :: wAll) { frames := 5, cells := 0, slots := 0, locals := 124 } (cPc (eX cy ad) 93 ad D cy tX tY A [.ref (ad 0), .int a1, .int a2, .int a3, .int a4] x) (cQi (eX cy ad) 93 ad D A z) 0 0 A := by
  refine gMet hA (by decide) (Nat.le_of_ble_eq_true rfl) (fun p e s m below meth c hC H locs ls hP hS hl => ?_)
  have hC : Cf p s m _ meth c cX6_perform 5 RX6 (some .int) D cy tX tY ad A 93 := hC
  have hl : lv_has ls 5 [(0, .ref (ad 0)), (1, .int a1), (2, .int a2), (3, .int a3), (4, .int a4)] := hl
  obtain ⟨hx, hb, -⟩ := id hC
  refine lv_iload_n hx hb dX6_perform_0 rfl (lv_at hl 1 rfl) ?_
  by_cases c1 : a1 = (97 : Int32)
  · have hf := it_t c1 hf
    refine lv_lookup (tgt := 100) (off := 99) hx hb dX6_perform_1 (by decide) (by rw [c1]; decide) (by decide) ?_
    refine lv_aload_n hx hb dX6_perform_100 rfl (lv_at hl 0 rfl) ?_
    obtain ⟨r3, x2, e4, hf⟩ := bd_some hf
    refine gVi (As := []) (rest := []) (k := 0) hC hP hS (kX6_startAgain l D cy tX tY ad A hC.2.2.2.2.2.2.2.2.1 F x e4) glX6_89 ⟨rfl, rfl⟩ hdX6_startAgain ⟨Nat.le_of_ble_eq_true rfl, Nat.le_of_ble_eq_true rfl⟩ (by decide) (eX_0 cy ad _ _) rfl rfl hl.1 rfl (Nat.le_of_ble_eq_true rfl) dX6_perform_101 ⟨Nat.zero_le _, Nat.zero_le _⟩ (fun H locs hP hS => ?_)
    exact gIret hC hP hS hf dX6_perform_104
  have hf := it_f c1 hf
  by_cases c5 : a1 = (103 : Int32)
  · have hf := it_t c5 hf
    refine lv_lookup (tgt := 76) (off := 75) hx hb dX6_perform_1 (by decide) (by rw [c5]; decide) (by decide) ?_
    refine lv_aload_n hx hb dX6_perform_76 rfl (lv_at hl 0 rfl) ?_
    refine lv_iload_n hx hb dX6_perform_77 rfl (lv_at hl 2 rfl) ?_
    refine lv_iload_n hx hb dX6_perform_78 rfl (lv_at hl 3 rfl) ?_
    refine lv_iload hx hb dX6_perform_79 (lv_at hl 4 rfl) ?_
    obtain ⟨r7, x6, e8, hf⟩ := bd_some hf
    refine gVi (As := [.int a2, .int a3, .int a4]) (rest := []) (k := 0) hC hP hS (kX6_turnGoal l D cy tX tY ad A hC.2.2.2.2.2.2.2.2.1 F x a2 a3 a4 e8) glX6_80 ⟨rfl, rfl⟩ hdX6_turnGoal ⟨Nat.le_of_ble_eq_true rfl, Nat.le_of_ble_eq_true rfl⟩ (by decide) (eX_0 cy ad _ _) rfl rfl hl.1 rfl (Nat.le_of_ble_eq_true rfl) dX6_perform_81 ⟨Nat.zero_le _, Nat.zero_le _⟩ (fun H locs hP hS => ?_)
    exact gIret hC hP hS hf dX6_perform_84
  have hf := it_f c5 hf
  by_cases c9 : a1 = (107 : Int32)
  · have hf := it_t c9 hf
    refine lv_lookup (tgt := 94) (off := 93) hx hb dX6_perform_1 (by decide) (by rw [c9]; decide) (by decide) ?_
    refine lv_aload_n hx hb dX6_perform_94 rfl (lv_at hl 0 rfl) ?_
    refine lv_iload_n hx hb dX6_perform_95 rfl (lv_at hl 2 rfl) ?_
    obtain ⟨r11, x10, e12, hf⟩ := bd_some hf
    refine gVi (As := [.int a2]) (rest := []) (k := 0) hC hP hS (kX6_goSteps l D cy tX tY ad A hC.2.2.2.2.2.2.2.2.1 F x a2 e12) glX6_86 ⟨rfl, rfl⟩ hdX6_goSteps ⟨Nat.le_of_ble_eq_true rfl, Nat.le_of_ble_eq_true rfl⟩ (by decide) (eX_0 cy ad _ _) rfl rfl hl.1 rfl (Nat.le_of_ble_eq_true rfl) dX6_perform_96 ⟨Nat.zero_le _, Nat.zero_le _⟩ (fun H locs hP hS => ?_)
    exact gIret hC hP hS hf dX6_perform_99
  have hf := it_f c9 hf
  by_cases c13 : a1 = (109 : Int32)
  · have hf := it_t c13 hf
    refine lv_lookup (tgt := 67) (off := 66) hx hb dX6_perform_1 (by decide) (by rw [c13]; decide) (by decide) ?_
    refine lv_aload_n hx hb dX6_perform_67 rfl (lv_at hl 0 rfl) ?_
    refine lv_iload_n hx hb dX6_perform_68 rfl (lv_at hl 2 rfl) ?_
    refine lv_iload_n hx hb dX6_perform_69 rfl (lv_at hl 3 rfl) ?_
    refine lv_iload hx hb dX6_perform_70 (lv_at hl 4 rfl) ?_
    obtain ⟨r15, x14, e16, hf⟩ := bd_some hf
    refine gVi (As := [.int a2, .int a3, .int a4]) (rest := []) (k := 0) hC hP hS (kX6_addMessage l D cy tX tY ad A hC.2.2.2.2.2.2.2.2.1 F x a2 a3 a4 e16) glX6_76 ⟨rfl, rfl⟩ hdX6_addMessage ⟨Nat.le_of_ble_eq_true rfl, Nat.le_of_ble_eq_true rfl⟩ (by decide) (eX_0 cy ad _ _) rfl rfl hl.1 rfl (Nat.le_of_ble_eq_true rfl) dX6_perform_72 ⟨Nat.zero_le _, Nat.zero_le _⟩ (fun H locs hP hS => ?_)
    exact gIret hC hP hS hf dX6_perform_75
  have hf := it_f c13 hf
  by_cases c17 : a1 = (116 : Int32)
  · have hf := it_t c17 hf
    refine lv_lookup (tgt := 85) (off := 84) hx hb dX6_perform_1 (by decide) (by rw [c17]; decide) (by decide) ?_
    refine lv_aload_n hx hb dX6_perform_85 rfl (lv_at hl 0 rfl) ?_
    refine lv_iload_n hx hb dX6_perform_86 rfl (lv_at hl 2 rfl) ?_
    refine lv_iload_n hx hb dX6_perform_87 rfl (lv_at hl 3 rfl) ?_
    refine lv_iload hx hb dX6_perform_88 (lv_at hl 4 rfl) ?_
    obtain ⟨r19, x18, e20, hf⟩ := bd_some hf
    refine gVi (As := [.int a2, .int a3, .int a4]) (rest := []) (k := 0) hC hP hS (kX6_turnChannel l D cy tX tY ad A hC.2.2.2.2.2.2.2.2.1 F x a2 a3 a4 e20) glX6_83 ⟨rfl, rfl⟩ hdX6_turnChannel ⟨Nat.le_of_ble_eq_true rfl, Nat.le_of_ble_eq_true rfl⟩ (by decide) (eX_0 cy ad _ _) rfl rfl hl.1 rfl (Nat.le_of_ble_eq_true rfl) dX6_perform_90 ⟨Nat.zero_le _, Nat.zero_le _⟩ (fun H locs hP hS => ?_)
    exact gIret hC hP hS hf dX6_perform_93
  have hf := it_f c17 hf
  by_cases c21 : a1 = (119 : Int32)
  · have hf := it_t c21 hf
    refine lv_lookup (tgt := 60) (off := 59) hx hb dX6_perform_1 (by decide) (by rw [c21]; decide) (by decide) ?_
    refine lv_aload_n hx hb dX6_perform_60 rfl (lv_at hl 0 rfl) ?_
    refine lv_iload_n hx hb dX6_perform_61 rfl (lv_at hl 2 rfl) ?_
    refine lv_iload_n hx hb dX6_perform_62 rfl (lv_at hl 3 rfl) ?_
    obtain ⟨r23, x22, e24, hf⟩ := bd_some hf
    refine gVi (As := [.int a2, .int a3]) (rest := []) (k := 0) hC hP hS (kX6_makeMesh l D cy tX tY ad A hC.2.2.2.2.2.2.2.2.1 F x a2 a3 e24) glX6_68 ⟨rfl, rfl⟩ hdX6_makeMesh ⟨Nat.le_of_ble_eq_true rfl, Nat.le_of_ble_eq_true rfl⟩ (by decide) (eX_0 cy ad _ _) rfl rfl hl.1 rfl (Nat.le_of_ble_eq_true rfl) dX6_perform_63 ⟨Nat.zero_le _, Nat.zero_le _⟩ (fun H locs hP hS => ?_)
    exact gIret hC hP hS hf dX6_perform_66
  have hf := it_f c21 hf
  refine lv_lookup (tgt := 105) (off := 104) hx hb dX6_perform_1 (by decide) ((lv_osw c1 (by decide)).trans ((lv_osw c5 (by decide)).trans ((lv_osw c9 (by decide)).trans ((lv_osw c13 (by decide)).trans ((lv_osw c17 (by decide)).trans ((lv_osw c21 (by decide)).trans rfl)))))) (by decide) ?_
  refine lv_bipush (v := -2) hx hb dX6_perform_105 (by decide) ?_
  exact gIret hC hP hS hf dX6_perform_107
set_option maxHeartbeats 4000000 in
set_option maxRecDepth 100000 in
theorem tX6_layAll_23b (hC : Cf p s m args meth c cX6_layAll 2 RX6 none D cy tX tY ad A 93) (F : Nat) {z : Unit × HT} (rec23 : HT → Int32 → Option (Unit × HT)) (hrec23 : ∀ (x : HT) (a1 : Int32), rec23 x a1 = some z → Wd p l e { frames := 4, cells := 0, slots := 0, locals := 100 } s m args below meth c D (eX cy ad) 93 ad A (cQv (eX cy ad) 93 ad D A z) 2 23 [(0, .ref (ad 0)), (1, .int a1)] [] x) : ∀ (x : HT) (a1 : Int32), fX6_layAll_23b F rec23 x a1 = some z → Wd p l e { frames := 4, cells := 0, slots := 0, locals := 100 } s m args below meth c D (eX cy ad) 93 ad A (cQv (eX cy ad) 93 ad D A z) 2 23 [(0, .ref (ad 0)), (1, .int a1)] [] x := by
  intro x a1 hf H locs ls hP hS hl
  obtain ⟨hx, hb, -⟩ := id hC
  refine lv_iload_n hx hb dX6_layAll_23 rfl (lv_at hl 1 rfl) ?_
  refine lv_aload_n hx hb dX6_layAll_24 rfl (lv_at hl 0 rfl) ?_
  refine gfX6_12 hC hP dX6_layAll_25 ?_
  refine gfX6_203 hC hP (by decide) dX6_layAll_28 ?_
  refine lv_icmp_ge (tgt := 45) hx hb dX6_layAll_31 (by decide) (fun c4 => ?_) (fun c4 => ?_)
  · have hf := it_t c4 hf
    exact gVret hC hP hS hf dX6_layAll_45
  · have hf := it_f c4 hf
    refine lv_aload_n hx hb dX6_layAll_34 rfl (lv_at hl 0 rfl) ?_
    refine lv_iload_n hx hb dX6_layAll_35 rfl (lv_at hl 1 rfl) ?_
    obtain ⟨r6, x5, e7, hf⟩ := bd_some hf
    refine gVv (As := [.int a1]) (rest := []) (k := 0) hC hP hS (kX6_layMessage l D cy tX tY ad A hC.2.2.2.2.2.2.2.2.1 F x a1 e7) glX6_222 ⟨rfl, rfl⟩ hdX6_layMessage ⟨Nat.le_of_ble_eq_true rfl, Nat.le_of_ble_eq_true rfl⟩ (by decide) (eX_0 cy ad _ _) rfl rfl hl.1 rfl (Nat.le_of_ble_eq_true rfl) dX6_layAll_36 ⟨Nat.zero_le _, Nat.zero_le _⟩ (fun H locs hP hS => ?_)
    obtain ⟨b8, e9, hf⟩ := lt_some hf
    refine lv_iinc (v := b8) (lv' := [(1, .int b8), (0, .ref (ad 0))]) hx hb dX6_layAll_39 hl (k := 1) rfl (by rw [e9]; rfl) (by decide) rfl (fun ls hl => ?_)
    refine lv_goto (tgt := 23) hx hb dX6_layAll_42 (by decide) ?_
    exact hrec23 x5 b8 hf H locs ls hP hS (lv_sub hl [1, 0] rfl)
theorem tX6_layAll_23 (hC : Cf p s m args meth c cX6_layAll 2 RX6 none D cy tX tY ad A 93) (F : Nat) {z : Unit × HT} : ∀ (n9 : Nat) (x : HT) (a1 : Int32), fX6_layAll_23 F n9 x a1 = some z → Wd p l e { frames := 4, cells := 0, slots := 0, locals := 100 } s m args below meth c D (eX cy ad) 93 ad A (cQv (eX cy ad) 93 ad D A z) 2 23 [(0, .ref (ad 0)), (1, .int a1)] [] x := by
  intro n9
  induction n9 with
  | zero => intro x a1 hf; cases hf
  | succ n9 ih => intro x a1 hf; exact tX6_layAll_23b hC F (fX6_layAll_23 F n9) ih x a1 hf
set_option maxHeartbeats 4000000 in
set_option maxRecDepth 100000 in
theorem kX6_layAll (l : Launch) (D : va_G) (cy : Nat → ClassId) (tX tY : Nat) (ad : Nat → Nat) (A : Nat → Prop) (hA : apart ad A 93) (F : Nat) (x : HT) {z : Unit × HT} (hf : fX6_layAll F x = some z) : Met l yX6_layAll (Cond.code yX6_layAll cX6_layAll 2 none :: wAll) { frames := 4, cells := 0, slots := 0, locals := 100 } (cPc (eX cy ad) 93 ad D cy tX tY A [.ref (ad 0)] x) (cQv (eX cy ad) 93 ad D A z) 0 0 A := by
  refine gMet hA (by decide) (Nat.le_of_ble_eq_true rfl) (fun p e s m below meth c hC H locs ls hP hS hl => ?_)
  have hC : Cf p s m _ meth c cX6_layAll 2 RX6 none D cy tX tY ad A 93 := hC
  have hl : lv_has ls 2 [(0, .ref (ad 0))] := hl
  obtain ⟨hx, hb, -⟩ := id hC
  refine lv_aload_n hx hb dX6_layAll_0 rfl (lv_at hl 0 rfl) ?_
  refine gfX6_32 hC hP dX6_layAll_1 ?_
  refine lv_aload_n hx hb dX6_layAll_4 rfl (lv_at hl 0 rfl) ?_
  refine gfX6_12 hC hP dX6_layAll_5 ?_
  refine gfX6_298 hC hP (by decide) dX6_layAll_8 ?_
  refine lv_aload_n hx hb dX6_layAll_11 rfl (lv_at hl 0 rfl) ?_
  refine gfX6_12 hC hP dX6_layAll_12 ?_
  refine gfX6_301 hC hP (by decide) dX6_layAll_15 ?_
  obtain ⟨r2, x1, e3, hf⟩ := bd_some hf
  refine gVv (As := [.int (x.1 (7 * 0 + 1) 0), .int (x.1 (7 * 0 + 1) 1)]) (rest := []) (k := 59) hC hP hS (kX0_lay l D cy tX tY ad A hC.2.2.2.2.2.2.2.2.1 F x (x.1 (7 * 0 + 1) 0) (x.1 (7 * 0 + 1) 1) e3) glX6_61 ⟨rfl, rfl⟩ hdX0_lay ⟨Nat.le_of_ble_eq_true rfl, Nat.le_of_ble_eq_true rfl⟩ (by decide) (eX_59 cy ad _ _) rfl rfl hl.1 rfl (Nat.le_of_ble_eq_true rfl) dX6_layAll_18 ⟨Nat.zero_le _, Nat.zero_le _⟩ (fun H locs hP hS => ?_)
  refine lv_iconst (v := 0) hx hb dX6_layAll_21 (by decide) ?_
  refine lv_istore_n (lv' := [(1, .int (0 : Int32)), (0, .ref (ad 0))]) hx hb dX6_layAll_22 rfl hl (by decide) rfl (fun ls hl => ?_)
  exact tX6_layAll_23 hC F F x1 (0 : Int32) hf H locs ls hP hS (lv_sub hl [1, 0] rfl)
set_option maxHeartbeats 4000000 in
set_option maxRecDepth 100000 in
theorem tX6_does_31b (hC : Cf p s m args meth c cX6_does 4 RX6 (some .int) D cy tX tY ad A 93) (F : Nat) {z : Int32 × HT} (rec31 : HT → Int32 → Option (Int32 × HT)) (hrec31 : ∀ (x : HT) (a2 : Int32), rec31 x a2 = some z → Wd p l e { frames := 6, cells := 0, slots := 0, locals := 148 } s m args below meth c D (eX cy ad) 93 ad A (cQi (eX cy ad) 93 ad D A z) 4 31 [(0, .ref (ad 0)), (2, .int a2)] [] x) : ∀ (x : HT) (a2 : Int32), fX6_does_31b F rec31 x a2 = some z → Wd p l e { frames := 6, cells := 0, slots := 0, locals := 148 } s m args below meth c D (eX cy ad) 93 ad A (cQi (eX cy ad) 93 ad D A z) 4 31 [(0, .ref (ad 0)), (2, .int a2)] [] x := by
  intro x a2 hf H locs ls hP hS hl
  obtain ⟨hx, hb, -⟩ := id hC
  refine lv_iload_n hx hb dX6_does_31 rfl (lv_at hl 1 rfl) ?_
  refine lv_aload_n hx hb dX6_does_32 rfl (lv_at hl 0 rfl) ?_
  refine gfX6_53 hC hP dX6_does_33 ?_
  obtain ⟨r9, x8, e10, hf⟩ := bd_some hf
  refine gVi (As := []) (rest := [.int a2]) (k := 89) hC hP hS (kX3_orders l D cy tX tY ad A hC.2.2.2.2.2.2.2.2.1 F x e10) glX6_166 ⟨rfl, rfl⟩ hdX3_orders ⟨Nat.le_of_ble_eq_true rfl, Nat.le_of_ble_eq_true rfl⟩ (by decide) (eX_89 cy ad _ _) rfl rfl hl.1 rfl (Nat.le_of_ble_eq_true rfl) dX6_does_36 ⟨Nat.zero_le _, Nat.zero_le _⟩ (fun H locs hP hS => ?_)
  refine lv_icmp_ge (tgt := 113) hx hb dX6_does_39 (by decide) (fun c11 => ?_) (fun c11 => ?_)
  · have hf := it_t c11 hf
    refine lv_aload_n hx hb dX6_does_113 rfl (lv_at hl 0 rfl) ?_
    refine gfX6_25 hC hP dX6_does_114 ?_
    refine lv_aload_n hx hb dX6_does_117 rfl (lv_at hl 0 rfl) ?_
    refine gfX6_16 hC hP dX6_does_118 ?_
    obtain ⟨r13, x12, e14, hf⟩ := bd_some hf
    refine gVv (As := [.ref (ad (7 * 1 + 1))]) (rest := []) (k := 57) hC hP hS (kX1_push l D cy tX tY ad A hC.2.2.2.2.2.2.2.2.1 F (j := 1) (by decide) x8 e14) glX6_182 ⟨rfl, rfl⟩ hdX1_push ⟨Nat.le_of_ble_eq_true rfl, Nat.le_of_ble_eq_true rfl⟩ (by decide) (eX_57 cy ad _ _) rfl rfl hl.1 rfl (Nat.le_of_ble_eq_true rfl) dX6_does_121 ⟨Nat.zero_le _, Nat.zero_le _⟩ (fun H locs hP hS => ?_)
    refine lv_aload_n hx hb dX6_does_124 rfl (lv_at hl 0 rfl) ?_
    refine gfX6_53 hC hP dX6_does_125 ?_
    obtain ⟨r16, x15, e17, hf⟩ := bd_some hf
    refine gVi (As := []) (rest := []) (k := 89) hC hP hS (kX3_orders l D cy tX tY ad A hC.2.2.2.2.2.2.2.2.1 F x12 e17) glX6_166 ⟨rfl, rfl⟩ hdX3_orders ⟨Nat.le_of_ble_eq_true rfl, Nat.le_of_ble_eq_true rfl⟩ (by decide) (eX_89 cy ad _ _) rfl rfl hl.1 rfl (Nat.le_of_ble_eq_true rfl) dX6_does_128 ⟨Nat.zero_le _, Nat.zero_le _⟩ (fun H locs hP hS => ?_)
    exact gIret hC hP hS hf dX6_does_131
  · have hf := it_f c11 hf
    refine lv_aload_n hx hb dX6_does_42 rfl (lv_at hl 0 rfl) ?_
    refine lv_aload_n hx hb dX6_does_43 rfl (lv_at hl 0 rfl) ?_
    refine gfX6_53 hC hP dX6_does_44 ?_
    refine lv_iload_n hx hb dX6_does_47 rfl (lv_at hl 1 rfl) ?_
    obtain ⟨r19, x18, e20, hf⟩ := bd_some hf
    refine gVi (As := [.int a2]) (rest := [.ref (ad 0)]) (k := 89) hC hP hS (kX3_letterOf l D cy tX tY ad A hC.2.2.2.2.2.2.2.2.1 F x8 a2 e20) glX6_169 ⟨rfl, rfl⟩ hdX3_letterOf ⟨Nat.le_of_ble_eq_true rfl, Nat.le_of_ble_eq_true rfl⟩ (by decide) (eX_89 cy ad _ _) rfl rfl hl.1 rfl (Nat.le_of_ble_eq_true rfl) dX6_does_48 ⟨Nat.zero_le _, Nat.zero_le _⟩ (fun H locs hP hS => ?_)
    refine lv_aload_n hx hb dX6_does_51 rfl (lv_at hl 0 rfl) ?_
    refine gfX6_53 hC hP dX6_does_52 ?_
    refine lv_iload_n hx hb dX6_does_55 rfl (lv_at hl 1 rfl) ?_
    refine lv_iconst (v := 0) hx hb dX6_does_56 (by decide) ?_
    obtain ⟨r22, x21, e23, hf⟩ := bd_some hf
    refine gVi (As := [.int a2, .int (0 : Int32)]) (rest := [.int r19, .ref (ad 0)]) (k := 89) hC hP hS (kX3_numberOf l D cy tX tY ad A hC.2.2.2.2.2.2.2.2.1 F x18 a2 (0 : Int32) e23) glX6_172 ⟨rfl, rfl⟩ hdX3_numberOf ⟨Nat.le_of_ble_eq_true rfl, Nat.le_of_ble_eq_true rfl⟩ (by decide) (eX_89 cy ad _ _) rfl rfl hl.1 rfl (Nat.le_of_ble_eq_true rfl) dX6_does_57 ⟨Nat.zero_le _, Nat.zero_le _⟩ (fun H locs hP hS => ?_)
    refine lv_aload_n hx hb dX6_does_60 rfl (lv_at hl 0 rfl) ?_
    refine gfX6_53 hC hP dX6_does_61 ?_
    refine lv_iload_n hx hb dX6_does_64 rfl (lv_at hl 1 rfl) ?_
    refine lv_iconst (v := 1) hx hb dX6_does_65 (by decide) ?_
    obtain ⟨r25, x24, e26, hf⟩ := bd_some hf
    refine gVi (As := [.int a2, .int (1 : Int32)]) (rest := [.int r22, .int r19, .ref (ad 0)]) (k := 89) hC hP hS (kX3_numberOf l D cy tX tY ad A hC.2.2.2.2.2.2.2.2.1 F x21 a2 (1 : Int32) e26) glX6_172 ⟨rfl, rfl⟩ hdX3_numberOf ⟨Nat.le_of_ble_eq_true rfl, Nat.le_of_ble_eq_true rfl⟩ (by decide) (eX_89 cy ad _ _) rfl rfl hl.1 rfl (Nat.le_of_ble_eq_true rfl) dX6_does_66 ⟨Nat.zero_le _, Nat.zero_le _⟩ (fun H locs hP hS => ?_)
    refine lv_aload_n hx hb dX6_does_69 rfl (lv_at hl 0 rfl) ?_
    refine gfX6_53 hC hP dX6_does_70 ?_
    refine lv_iload_n hx hb dX6_does_73 rfl (lv_at hl 1 rfl) ?_
    refine lv_iconst (v := 2) hx hb dX6_does_74 (by decide) ?_
    obtain ⟨r28, x27, e29, hf⟩ := bd_some hf
    refine gVi (As := [.int a2, .int (2 : Int32)]) (rest := [.int r25, .int r22, .int r19, .ref (ad 0)]) (k := 89) hC hP hS (kX3_numberOf l D cy tX tY ad A hC.2.2.2.2.2.2.2.2.1 F x24 a2 (2 : Int32) e29) glX6_172 ⟨rfl, rfl⟩ hdX3_numberOf ⟨Nat.le_of_ble_eq_true rfl, Nat.le_of_ble_eq_true rfl⟩ (by decide) (eX_89 cy ad _ _) rfl rfl hl.1 rfl (Nat.le_of_ble_eq_true rfl) dX6_does_75 ⟨Nat.zero_le _, Nat.zero_le _⟩ (fun H locs hP hS => ?_)
    obtain ⟨r31, x30, e32, hf⟩ := bd_some hf
    refine gVi (As := [.int r19, .int r22, .int r25, .int r28]) (rest := []) (k := 0) hC hP hS (kX6_perform l D cy tX tY ad A hC.2.2.2.2.2.2.2.2.1 F x27 r19 r22 r25 r28 e32) glX6_175 ⟨rfl, rfl⟩ hdX6_perform ⟨Nat.le_of_ble_eq_true rfl, Nat.le_of_ble_eq_true rfl⟩ (by decide) (eX_0 cy ad _ _) rfl rfl hl.1 rfl (Nat.le_of_ble_eq_true rfl) dX6_does_78 ⟨Nat.zero_le _, Nat.zero_le _⟩ (fun H locs hP hS => ?_)
    refine lv_istore_n (lv' := [(3, .int r31), (0, .ref (ad 0)), (2, .int a2)]) hx hb dX6_does_81 rfl hl (by decide) rfl (fun ls hl => ?_)
    refine lv_iload_n hx hb dX6_does_82 rfl (lv_at hl 0 rfl) ?_
    refine lv_if_ge (tgt := 107) hx hb dX6_does_83 (by decide) (fun c33 => ?_) (fun c33 => ?_)
    · have hf := it_t c33 hf
      obtain ⟨b34, e35, hf⟩ := lt_some hf
      refine lv_iinc (v := b34) (lv' := [(2, .int b34), (3, .int r31), (0, .ref (ad 0))]) hx hb dX6_does_107 hl (k := 2) rfl (by rw [e35]; rfl) (by decide) rfl (fun ls hl => ?_)
      refine lv_goto (tgt := 31) hx hb dX6_does_110 (by decide) ?_
      exact hrec31 x30 b34 hf H locs ls hP hS (lv_sub hl [2, 0] rfl)
    · have hf := it_f c33 hf
      refine lv_aload_n hx hb dX6_does_86 rfl (lv_at hl 1 rfl) ?_
      refine gfX6_12 hC hP dX6_does_87 ?_
      refine lv_aload_n hx hb dX6_does_90 rfl (lv_at hl 1 rfl) ?_
      refine gfX6_16 hC hP dX6_does_91 ?_
      obtain ⟨r37, x36, e38, hf⟩ := bd_some hf
      refine gVv (As := [.ref (ad (7 * 1 + 1))]) (rest := []) (k := (7 * 0 + 1)) hC hP hS (kX2_copyFrom l D cy tX tY ad A hC.2.2.2.2.2.2.2.2.1 F (j := 0) (j2 := 1) (by decide) (by decide) x30 e38) glX6_64 ⟨rfl, rfl⟩ hdX2_copyFrom ⟨Nat.le_of_ble_eq_true rfl, Nat.le_of_ble_eq_true rfl⟩ (by omega) (eX_S (by decide) cy ad _ _) rfl rfl hl.1 rfl (Nat.le_of_ble_eq_true rfl) dX6_does_94 ⟨Nat.zero_le _, Nat.zero_le _⟩ (fun H locs hP hS => ?_)
      refine lv_aload_n hx hb dX6_does_97 rfl (lv_at hl 1 rfl) ?_
      obtain ⟨r40, x39, e41, hf⟩ := bd_some hf
      refine gVv (As := []) (rest := []) (k := 0) hC hP hS (kX6_layAll l D cy tX tY ad A hC.2.2.2.2.2.2.2.2.1 F x36 e41) glX6_179 ⟨rfl, rfl⟩ hdX6_layAll ⟨Nat.le_of_ble_eq_true rfl, Nat.le_of_ble_eq_true rfl⟩ (by decide) (eX_0 cy ad _ _) rfl rfl hl.1 rfl (Nat.le_of_ble_eq_true rfl) dX6_does_98 ⟨Nat.zero_le _, Nat.zero_le _⟩ (fun H locs hP hS => ?_)
      refine lv_sipush (v := -1000) hx hb dX6_does_101 (by decide) ?_
      refine lv_iload_n hx hb dX6_does_104 rfl (lv_at hl 2 rfl) ?_
      refine lv_isub hx hb dX6_does_105 ?_
      exact gIret hC hP hS hf dX6_does_106
theorem tX6_does_31 (hC : Cf p s m args meth c cX6_does 4 RX6 (some .int) D cy tX tY ad A 93) (F : Nat) {z : Int32 × HT} : ∀ (n9 : Nat) (x : HT) (a2 : Int32), fX6_does_31 F n9 x a2 = some z → Wd p l e { frames := 6, cells := 0, slots := 0, locals := 148 } s m args below meth c D (eX cy ad) 93 ad A (cQi (eX cy ad) 93 ad D A z) 4 31 [(0, .ref (ad 0)), (2, .int a2)] [] x := by
  intro n9
  induction n9 with
  | zero => intro x a2 hf; cases hf
  | succ n9 ih => intro x a2 hf; exact tX6_does_31b hC F (fX6_does_31 F n9) ih x a2 hf
set_option maxHeartbeats 4000000 in
set_option maxRecDepth 100000 in
theorem kX6_does (l : Launch) (D : va_G) (cy : Nat → ClassId) (tX tY : Nat) (ad : Nat → Nat) (A : Nat → Prop) (hA : apart ad A 93) (F : Nat) (x : HT) {z : Int32 × HT} (hf : fX6_does F x = some z) : Met l yX6_does (Cond.code yX6_does cX6_does 4 (some .int) :: wAll) { frames := 6, cells := 0, slots := 0, locals := 148 } (cPc (eX cy ad) 93 ad D cy tX tY A [.ref (ad 0)] x) (cQi (eX cy ad) 93 ad D A z) 0 0 A := by
  refine gMet hA (by decide) (Nat.le_of_ble_eq_true rfl) (fun p e s m below meth c hC H locs ls hP hS hl => ?_)
  have hC : Cf p s m _ meth c cX6_does 4 RX6 (some .int) D cy tX tY ad A 93 := hC
  have hl : lv_has ls 4 [(0, .ref (ad 0))] := hl
  obtain ⟨hx, hb, -⟩ := id hC
  refine lv_aload_n hx hb dX6_does_0 rfl (lv_at hl 0 rfl) ?_
  refine gfX6_53 hC hP dX6_does_1 ?_
  obtain ⟨r2, x1, e3, hf⟩ := bd_some hf
  refine gVi (As := []) (rest := []) (k := 89) hC hP hS (kX3_read l D cy tX tY ad A hC.2.2.2.2.2.2.2.2.1 F x e3) glX6_163 ⟨rfl, rfl⟩ hdX3_read ⟨Nat.le_of_ble_eq_true rfl, Nat.le_of_ble_eq_true rfl⟩ (by decide) (eX_89 cy ad _ _) rfl rfl hl.1 rfl (Nat.le_of_ble_eq_true rfl) dX6_does_4 ⟨Nat.zero_le _, Nat.zero_le _⟩ (fun H locs hP hS => ?_)
  refine lv_istore_n (lv' := [(1, .int r2), (0, .ref (ad 0))]) hx hb dX6_does_7 rfl hl (by decide) rfl (fun ls hl => ?_)
  refine lv_iload_n hx hb dX6_does_8 rfl (lv_at hl 0 rfl) ?_
  refine lv_iconst (v := -1) hx hb dX6_does_9 (by decide) ?_
  refine lv_icmp_eq (tgt := 18) hx hb dX6_does_10 (by decide) (fun c4 => ?_) (fun c4 => ?_)
  · have hf := it_t c4 hf
    refine lv_aload_n hx hb dX6_does_18 rfl (lv_at hl 1 rfl) ?_
    refine gfX6_16 hC hP dX6_does_19 ?_
    refine lv_aload_n hx hb dX6_does_22 rfl (lv_at hl 1 rfl) ?_
    refine gfX6_12 hC hP dX6_does_23 ?_
    obtain ⟨r6, x5, e7, hf⟩ := bd_some hf
    refine gVv (As := [.ref (ad (7 * 0 + 1))]) (rest := []) (k := (7 * 1 + 1)) hC hP hS (kX2_copyFrom l D cy tX tY ad A hC.2.2.2.2.2.2.2.2.1 F (j := 1) (j2 := 0) (by decide) (by decide) x1 e7) glX6_64 ⟨rfl, rfl⟩ hdX2_copyFrom ⟨Nat.le_of_ble_eq_true rfl, Nat.le_of_ble_eq_true rfl⟩ (by omega) (eX_S (by decide) cy ad _ _) rfl rfl hl.1 rfl (Nat.le_of_ble_eq_true rfl) dX6_does_26 ⟨Nat.zero_le _, Nat.zero_le _⟩ (fun H locs hP hS => ?_)
    refine lv_iconst (v := 0) hx hb dX6_does_29 (by decide) ?_
    refine lv_istore_n (lv' := [(2, .int (0 : Int32)), (1, .int r2), (0, .ref (ad 0))]) hx hb dX6_does_30 rfl hl (by decide) rfl (fun ls hl => ?_)
    exact tX6_does_31 hC F F x5 (0 : Int32) hf H locs ls hP hS (lv_sub hl [2, 0] rfl)
  · have hf := it_f c4 hf
    refine lv_bipush (v := -10) hx hb dX6_does_13 (by decide) ?_
    refine lv_iload_n hx hb dX6_does_15 rfl (lv_at hl 0 rfl) ?_
    refine lv_isub hx hb dX6_does_16 ?_
    exact gIret hC hP hS hf dX6_does_17
