variable {p : Program} {l : Launch} {e : Env} {s : State} {m : MethodId} {args : Array Value} {below : List Frame} {meth : Method} {c : Code} {D : va_G} {cy : Nat → ClassId} {tX tY : Nat} {ad : Nat → Nat} {A : Nat → Prop}
set_option maxHeartbeats 4000000 in
set_option maxRecDepth 100000 in
theorem tX7_far_24 (hC : Cf p s m args meth c cX7_far 6 RX7 (some .int) D cy tX tY ad A 12) (F : Nat) {z : Int32 × HT} : ∀ (x : HT) (a1 : Int32) (a2 : Int32) (a3 : Int32) (a4 : Int32) (t0 : Int32), fX7_far_24 F x a1 a2 a3 a4 t0 = some z → Wd p l e { frames := 5, cells := 0, slots := 0, locals := 119 } s m args below meth c D (eM cy ad) 12 ad A (cQi (eM cy ad) 12 ad D A z) 6 24 [(0, .ref (ad 0)), (1, .int a1), (2, .int a2), (3, .int a3), (4, .int a4)] [.int t0] x := by
  intro x a1 a2 a3 a4 t0 hf H locs ls hP hS hl
  obtain ⟨hx, hb, -⟩ := id hC
  refine lv_istore (lv' := [(5, .int t0), (0, .ref (ad 0)), (1, .int a1), (2, .int a2), (3, .int a3), (4, .int a4)]) hx hb dX7_far_24 hl (by decide) rfl (fun ls hl => ?_)
  refine lv_iload hx hb dX7_far_26 (lv_at hl 0 rfl) ?_
  refine lv_if_eq (tgt := 51) hx hb dX7_far_28 (by decide) (fun c9 => ?_) (fun c9 => ?_)
  · have hf := it_t c9 hf
    refine lv_aload_n hx hb dX7_far_51 rfl (lv_at hl 1 rfl) ?_
    refine lv_bipush (v := -2) hx hb dX7_far_52 (by decide) ?_
    obtain ⟨r11, x10, e12, hf⟩ := bd_some hf
    refine gVi (As := [.int (-2 : Int32)]) (rest := []) (k := 0) hC hP hS (kX7_refuses l D cy tX tY ad A hC.2.2.2.2.2.2.2.2.1 F x (-2 : Int32) e12) glX7_47 ⟨rfl, rfl⟩ hdX7_refuses ⟨Nat.le_of_ble_eq_true rfl, Nat.le_of_ble_eq_true rfl⟩ (by decide) (eM_0 cy ad _ _) rfl rfl hl.1 rfl (Nat.le_of_ble_eq_true rfl) dX7_far_54 ⟨Nat.zero_le _, Nat.zero_le _⟩ (fun H locs hP hS => ?_)
    exact gIret hC hP hS hf dX7_far_57
  · have hf := it_f c9 hf
    refine lv_aload_n hx hb dX7_far_31 rfl (lv_at hl 1 rfl) ?_
    refine lv_aload_n hx hb dX7_far_32 rfl (lv_at hl 1 rfl) ?_
    refine lv_iload_n hx hb dX7_far_33 rfl (lv_at hl 2 rfl) ?_
    refine lv_iload_n hx hb dX7_far_34 rfl (lv_at hl 3 rfl) ?_
    obtain ⟨r14, x13, e15, hf⟩ := bd_some hf
    refine gVi (As := [.int a1, .int a2]) (rest := [.ref (ad 0)]) (k := 0) hC hP hS (kX7_labelOf l D cy tX tY ad A hC.2.2.2.2.2.2.2.2.1 F x a1 a2 e15) glX7_68 ⟨rfl, rfl⟩ hdX7_labelOf ⟨Nat.le_of_ble_eq_true rfl, Nat.le_of_ble_eq_true rfl⟩ (by decide) (eM_0 cy ad _ _) rfl rfl hl.1 rfl (Nat.le_of_ble_eq_true rfl) dX7_far_35 ⟨Nat.zero_le _, Nat.zero_le _⟩ (fun H locs hP hS => ?_)
    refine lv_aload_n hx hb dX7_far_38 rfl (lv_at hl 1 rfl) ?_
    refine lv_iload_n hx hb dX7_far_39 rfl (lv_at hl 4 rfl) ?_
    refine lv_iload hx hb dX7_far_40 (lv_at hl 5 rfl) ?_
    obtain ⟨r17, x16, e18, hf⟩ := bd_some hf
    refine gVi (As := [.int a3, .int a4]) (rest := [.int r14, .ref (ad 0)]) (k := 0) hC hP hS (kX7_labelOf l D cy tX tY ad A hC.2.2.2.2.2.2.2.2.1 F x13 a3 a4 e18) glX7_68 ⟨rfl, rfl⟩ hdX7_labelOf ⟨Nat.le_of_ble_eq_true rfl, Nat.le_of_ble_eq_true rfl⟩ (by decide) (eM_0 cy ad _ _) rfl rfl hl.1 rfl (Nat.le_of_ble_eq_true rfl) dX7_far_42 ⟨Nat.zero_le _, Nat.zero_le _⟩ (fun H locs hP hS => ?_)
    obtain ⟨r20, x19, e21, hf⟩ := bd_some hf
    refine gVi (As := [.int r14, .int r17]) (rest := []) (k := 0) hC hP hS (kX7_farOf l D cy tX tY ad A hC.2.2.2.2.2.2.2.2.1 F x16 r14 r17 e21) glX7_170 ⟨rfl, rfl⟩ hdX7_farOf ⟨Nat.le_of_ble_eq_true rfl, Nat.le_of_ble_eq_true rfl⟩ (by decide) (eM_0 cy ad _ _) rfl rfl hl.1 rfl (Nat.le_of_ble_eq_true rfl) dX7_far_45 ⟨Nat.zero_le _, Nat.zero_le _⟩ (fun H locs hP hS => ?_)
    refine lv_goto (tgt := 57) hx hb dX7_far_48 (by decide) ?_
    exact gIret hC hP hS hf dX7_far_57
set_option maxHeartbeats 4000000 in
set_option maxRecDepth 100000 in
theorem tX7_far_23 (hC : Cf p s m args meth c cX7_far 6 RX7 (some .int) D cy tX tY ad A 12) (F : Nat) {z : Int32 × HT} : ∀ (x : HT) (a1 : Int32) (a2 : Int32) (a3 : Int32) (a4 : Int32), fX7_far_23 F x a1 a2 a3 a4 = some z → Wd p l e { frames := 5, cells := 0, slots := 0, locals := 119 } s m args below meth c D (eM cy ad) 12 ad A (cQi (eM cy ad) 12 ad D A z) 6 23 [(0, .ref (ad 0)), (1, .int a1), (2, .int a2), (3, .int a3), (4, .int a4)] [] x := by
  intro x a1 a2 a3 a4 hf H locs ls hP hS hl
  obtain ⟨hx, hb, -⟩ := id hC
  refine lv_iconst (v := 0) hx hb dX7_far_23 (by decide) ?_
  exact tX7_far_24 hC F x a1 a2 a3 a4 (0 : Int32) hf H locs ls hP hS (lv_sub hl [0, 1, 2, 3, 4] rfl)
set_option maxHeartbeats 4000000 in
set_option maxRecDepth 100000 in
theorem kX7_far (l : Launch) (D : va_G) (cy : Nat → ClassId) (tX tY : Nat) (ad : Nat → Nat) (A : Nat → Prop) (hA : apart ad A 12) (F : Nat) (x : HT) (a1 : Int32) (a2 : Int32) (a3 : Int32) (a4 : Int32) {z : Int32 × HT} (hf : fX7_far F x a1 a2 a3 a4 = some z) : Met l yX7_far (Cond.code yX7_far cX7_far 6 (some .int) :: wAll) { frames := 5, cells := 0, slots := 0, locals := 119 } (cPc (eM cy ad) 12 ad D cy tX tY A [.ref (ad 0), .int a1, .int a2, .int a3, .int a4] x) (cQi (eM cy ad) 12 ad D A z) 0 0 A := by
  refine gMet hA (by decide) (Nat.le_of_ble_eq_true rfl) (fun p e s m below meth c hC H locs ls hP hS hl => ?_)
  have hC : Cf p s m _ meth c cX7_far 6 RX7 (some .int) D cy tX tY ad A 12 := hC
  have hl : lv_has ls 6 [(0, .ref (ad 0)), (1, .int a1), (2, .int a2), (3, .int a3), (4, .int a4)] := hl
  obtain ⟨hx, hb, -⟩ := id hC
  refine lv_aload_n hx hb dX7_far_0 rfl (lv_at hl 0 rfl) ?_
  refine lv_iload_n hx hb dX7_far_1 rfl (lv_at hl 1 rfl) ?_
  refine lv_iload_n hx hb dX7_far_2 rfl (lv_at hl 2 rfl) ?_
  obtain ⟨r2, x1, e3, hf⟩ := bd_some hf
  refine gVi (As := [.int a1, .int a2]) (rest := []) (k := 0) hC hP hS (kX7_isPlace l D cy tX tY ad A hC.2.2.2.2.2.2.2.2.1 F x a1 a2 e3) glX7_64 ⟨rfl, rfl⟩ hdX7_isPlace ⟨Nat.le_of_ble_eq_true rfl, Nat.le_of_ble_eq_true rfl⟩ (by decide) (eM_0 cy ad _ _) rfl rfl hl.1 rfl (Nat.le_of_ble_eq_true rfl) dX7_far_3 ⟨Nat.zero_le _, Nat.zero_le _⟩ (fun H locs hP hS => ?_)
  refine lv_if_eq (tgt := 23) hx hb dX7_far_6 (by decide) (fun c4 => ?_) (fun c4 => ?_)
  · have hf := it_t c4 hf
    exact tX7_far_23 hC F x1 a1 a2 a3 a4 hf H locs ls hP hS (lv_sub hl [0, 1, 2, 3, 4] rfl)
  · have hf := it_f c4 hf
    refine lv_aload_n hx hb dX7_far_9 rfl (lv_at hl 0 rfl) ?_
    refine lv_iload_n hx hb dX7_far_10 rfl (lv_at hl 3 rfl) ?_
    refine lv_iload hx hb dX7_far_11 (lv_at hl 4 rfl) ?_
    obtain ⟨r6, x5, e7, hf⟩ := bd_some hf
    refine gVi (As := [.int a3, .int a4]) (rest := []) (k := 0) hC hP hS (kX7_isPlace l D cy tX tY ad A hC.2.2.2.2.2.2.2.2.1 F x1 a3 a4 e7) glX7_64 ⟨rfl, rfl⟩ hdX7_isPlace ⟨Nat.le_of_ble_eq_true rfl, Nat.le_of_ble_eq_true rfl⟩ (by decide) (eM_0 cy ad _ _) rfl rfl hl.1 rfl (Nat.le_of_ble_eq_true rfl) dX7_far_13 ⟨Nat.zero_le _, Nat.zero_le _⟩ (fun H locs hP hS => ?_)
    refine lv_if_eq (tgt := 23) hx hb dX7_far_16 (by decide) (fun c8 => ?_) (fun c8 => ?_)
    · have hf := it_t c8 hf
      exact tX7_far_23 hC F x5 a1 a2 a3 a4 hf H locs ls hP hS (lv_sub hl [0, 1, 2, 3, 4] rfl)
    · have hf := it_f c8 hf
      refine lv_iconst (v := 1) hx hb dX7_far_19 (by decide) ?_
      refine lv_goto (tgt := 24) hx hb dX7_far_20 (by decide) ?_
      exact tX7_far_24 hC F x5 a1 a2 a3 a4 (1 : Int32) hf H locs ls hP hS (lv_sub hl [0, 1, 2, 3, 4] rfl)
set_option maxHeartbeats 4000000 in
set_option maxRecDepth 100000 in
theorem kX7_holds (l : Launch) (D : va_G) (cy : Nat → ClassId) (tX tY : Nat) (ad : Nat → Nat) (A : Nat → Prop) (hA : apart ad A 12) (F : Nat) (x : HT) (a1 : Int32) (a2 : Int32) (a3 : Int32) {z : Int32 × HT} (hf : fX7_holds F x a1 a2 a3 = some z) : Met l yX7_holds (Cond.code yX7_holds cX7_holds 5 (some .int) :: wAll) { frames := 6, cells := 0, slots := 0, locals := 144 } (cPc (eM cy ad) 12 ad D cy tX tY A [.ref (ad 0), .int a1, .int a2, .int a3] x) (cQi (eM cy ad) 12 ad D A z) 0 0 A := by
  refine gMet hA (by decide) (Nat.le_of_ble_eq_true rfl) (fun p e s m below meth c hC H locs ls hP hS hl => ?_)
  have hC : Cf p s m _ meth c cX7_holds 5 RX7 (some .int) D cy tX tY ad A 12 := hC
  have hl : lv_has ls 5 [(0, .ref (ad 0)), (1, .int a1), (2, .int a2), (3, .int a3)] := hl
  obtain ⟨hx, hb, -⟩ := id hC
  refine lv_aload_n hx hb dX7_holds_0 rfl (lv_at hl 0 rfl) ?_
  refine lv_iload_n hx hb dX7_holds_1 rfl (lv_at hl 1 rfl) ?_
  refine lv_iload_n hx hb dX7_holds_2 rfl (lv_at hl 2 rfl) ?_
  refine lv_iload_n hx hb dX7_holds_3 rfl (lv_at hl 3 rfl) ?_
  obtain ⟨r2, x1, e3, hf⟩ := bd_some hf
  refine gVi (As := [.int a1, .int a2, .int a3]) (rest := []) (k := 0) hC hP hS (kX7_isChannel l D cy tX tY ad A hC.2.2.2.2.2.2.2.2.1 F x a1 a2 a3 e3) glX7_126 ⟨rfl, rfl⟩ hdX7_isChannel ⟨Nat.le_of_ble_eq_true rfl, Nat.le_of_ble_eq_true rfl⟩ (by decide) (eM_0 cy ad _ _) rfl rfl hl.1 rfl (Nat.le_of_ble_eq_true rfl) dX7_holds_4 ⟨Nat.zero_le _, Nat.zero_le _⟩ (fun H locs hP hS => ?_)
  refine lv_if_ne (tgt := 17) hx hb dX7_holds_7 (by decide) (fun c4 => ?_) (fun c4 => ?_)
  · have hf := it_f c4 hf
    refine lv_aload_n hx hb dX7_holds_17 rfl (lv_at hl 0 rfl) ?_
    obtain ⟨r6, x5, e7, hf⟩ := bd_some hf
    refine gVv (As := []) (rest := []) (k := 0) hC hP hS (kX7_laysWays l D cy tX tY ad A hC.2.2.2.2.2.2.2.2.1 F x1 e7) glX7_129 ⟨rfl, rfl⟩ hdX7_laysWays ⟨Nat.le_of_ble_eq_true rfl, Nat.le_of_ble_eq_true rfl⟩ (by decide) (eM_0 cy ad _ _) rfl rfl hl.1 rfl (Nat.le_of_ble_eq_true rfl) dX7_holds_18 ⟨Nat.zero_le _, Nat.zero_le _⟩ (fun H locs hP hS => ?_)
    refine lv_aload_n hx hb dX7_holds_21 rfl (lv_at hl 0 rfl) ?_
    refine lv_iload_n hx hb dX7_holds_22 rfl (lv_at hl 1 rfl) ?_
    refine lv_iload_n hx hb dX7_holds_23 rfl (lv_at hl 2 rfl) ?_
    obtain ⟨r9, x8, e10, hf⟩ := bd_some hf
    refine gVi (As := [.int a1, .int a2]) (rest := []) (k := 0) hC hP hS (kX7_labelOf l D cy tX tY ad A hC.2.2.2.2.2.2.2.2.1 F x5 a1 a2 e10) glX7_68 ⟨rfl, rfl⟩ hdX7_labelOf ⟨Nat.le_of_ble_eq_true rfl, Nat.le_of_ble_eq_true rfl⟩ (by decide) (eM_0 cy ad _ _) rfl rfl hl.1 rfl (Nat.le_of_ble_eq_true rfl) dX7_holds_24 ⟨Nat.zero_le _, Nat.zero_le _⟩ (fun H locs hP hS => ?_)
    refine lv_istore (lv' := [(4, .int r9), (0, .ref (ad 0)), (1, .int a1), (2, .int a2), (3, .int a3)]) hx hb dX7_holds_27 hl (by decide) rfl (fun ls hl => ?_)
    refine lv_aload_n hx hb dX7_holds_29 rfl (lv_at hl 1 rfl) ?_
    refine lv_iload hx hb dX7_holds_30 (lv_at hl 0 rfl) ?_
    refine lv_aload_n hx hb dX7_holds_32 rfl (lv_at hl 1 rfl) ?_
    refine lv_iload hx hb dX7_holds_33 (lv_at hl 0 rfl) ?_
    refine lv_iload_n hx hb dX7_holds_35 rfl (lv_at hl 4 rfl) ?_
    obtain ⟨r12, x11, e13, hf⟩ := bd_some hf
    refine gVi (As := [.int r9, .int a3]) (rest := [.int r9, .ref (ad 0)]) (k := 0) hC hP hS (kX7_beside l D cy tX tY ad A hC.2.2.2.2.2.2.2.2.1 F x8 r9 a3 e13) glX7_72 ⟨rfl, rfl⟩ hdX7_beside ⟨Nat.le_of_ble_eq_true rfl, Nat.le_of_ble_eq_true rfl⟩ (by decide) (eM_0 cy ad _ _) rfl rfl hl.1 rfl (Nat.le_of_ble_eq_true rfl) dX7_holds_36 ⟨Nat.zero_le _, Nat.zero_le _⟩ (fun H locs hP hS => ?_)
    obtain ⟨r15, x14, e16, hf⟩ := bd_some hf
    refine gVi (As := [.int r9, .int r12]) (rest := []) (k := 0) hC hP hS (kX7_holder l D cy tX tY ad A hC.2.2.2.2.2.2.2.2.1 F x11 r9 r12 e16) glX7_106 ⟨rfl, rfl⟩ hdX7_holder ⟨Nat.le_of_ble_eq_true rfl, Nat.le_of_ble_eq_true rfl⟩ (by decide) (eM_0 cy ad _ _) rfl rfl hl.1 rfl (Nat.le_of_ble_eq_true rfl) dX7_holds_39 ⟨Nat.zero_le _, Nat.zero_le _⟩ (fun H locs hP hS => ?_)
    exact gIret hC hP hS hf dX7_holds_42
  · have hf := it_t c4 hf
    refine lv_aload_n hx hb dX7_holds_10 rfl (lv_at hl 0 rfl) ?_
    refine lv_bipush (v := -2) hx hb dX7_holds_11 (by decide) ?_
    obtain ⟨r18, x17, e19, hf⟩ := bd_some hf
    refine gVi (As := [.int (-2 : Int32)]) (rest := []) (k := 0) hC hP hS (kX7_refuses l D cy tX tY ad A hC.2.2.2.2.2.2.2.2.1 F x1 (-2 : Int32) e19) glX7_47 ⟨rfl, rfl⟩ hdX7_refuses ⟨Nat.le_of_ble_eq_true rfl, Nat.le_of_ble_eq_true rfl⟩ (by decide) (eM_0 cy ad _ _) rfl rfl hl.1 rfl (Nat.le_of_ble_eq_true rfl) dX7_holds_13 ⟨Nat.zero_le _, Nat.zero_le _⟩ (fun H locs hP hS => ?_)
    exact gIret hC hP hS hf dX7_holds_16
set_option maxHeartbeats 4000000 in
set_option maxRecDepth 100000 in
theorem tX7_isWorm_21 (hC : Cf p s m args meth c cX7_isWorm 3 RX7 (some .boolean) D cy tX tY ad A 12) (F : Nat) {z : Int32 × HT} : ∀ (x : HT), fX7_isWorm_21 F x = some z → Wd p l e { frames := 2, cells := 0, slots := 0, locals := 43 } s m args below meth c D (eM cy ad) 12 ad A (cQi (eM cy ad) 12 ad D A z) 3 21 [] [] x := by
  intro x hf H locs ls hP hS hl
  obtain ⟨hx, hb, -⟩ := id hC
  refine lv_iconst (v := 0) hx hb dX7_isWorm_21 (by decide) ?_
  exact gZret hC hP hS rfl hf dX7_isWorm_22
set_option maxHeartbeats 4000000 in
set_option maxRecDepth 100000 in
theorem kX7_isWorm (l : Launch) (D : va_G) (cy : Nat → ClassId) (tX tY : Nat) (ad : Nat → Nat) (A : Nat → Prop) (hA : apart ad A 12) (F : Nat) (x : HT) (a1 : Int32) (a2 : Int32) {z : Int32 × HT} (hf : fX7_isWorm F x a1 a2 = some z) : Met l yX7_isWorm (Cond.code yX7_isWorm cX7_isWorm 3 (some .boolean) :: wAll) { frames := 2, cells := 0, slots := 0, locals := 43 } (cPc (eM cy ad) 12 ad D cy tX tY A [.ref (ad 0), .int a1, .int a2] x) (cQi (eM cy ad) 12 ad D A z) 0 0 A := by
  refine gMet hA (by decide) (Nat.le_of_ble_eq_true rfl) (fun p e s m below meth c hC H locs ls hP hS hl => ?_)
  have hC : Cf p s m _ meth c cX7_isWorm 3 RX7 (some .boolean) D cy tX tY ad A 12 := hC
  have hl : lv_has ls 3 [(0, .ref (ad 0)), (1, .int a1), (2, .int a2)] := hl
  obtain ⟨hx, hb, -⟩ := id hC
  refine lv_aload_n hx hb dX7_isWorm_0 rfl (lv_at hl 0 rfl) ?_
  refine lv_iload_n hx hb dX7_isWorm_1 rfl (lv_at hl 1 rfl) ?_
  obtain ⟨r2, x1, e3, hf⟩ := bd_some hf
  refine gVi (As := [.int a1]) (rest := []) (k := 0) hC hP hS (kX7_isMessage l D cy tX tY ad A hC.2.2.2.2.2.2.2.2.1 F x a1 e3) glX7_120 ⟨rfl, rfl⟩ hdX7_isMessage ⟨Nat.le_of_ble_eq_true rfl, Nat.le_of_ble_eq_true rfl⟩ (by decide) (eM_0 cy ad _ _) rfl rfl hl.1 rfl (Nat.le_of_ble_eq_true rfl) dX7_isWorm_2 ⟨Nat.zero_le _, Nat.zero_le _⟩ (fun H locs hP hS => ?_)
  refine lv_if_eq (tgt := 21) hx hb dX7_isWorm_5 (by decide) (fun c4 => ?_) (fun c4 => ?_)
  · have hf := it_t c4 hf
    exact tX7_isWorm_21 hC F x1 hf H locs ls hP hS (lv_sub hl [] rfl)
  · have hf := it_f c4 hf
    refine lv_iload_n hx hb dX7_isWorm_8 rfl (lv_at hl 2 rfl) ?_
    refine lv_iconst (v := 0) hx hb dX7_isWorm_9 (by decide) ?_
    refine lv_iconst (v := 1) hx hb dX7_isWorm_10 (by decide) ?_
    obtain ⟨r6, x5, e7, hf⟩ := bd_some hf
    refine gSi (As := [.int a2, .int (0 : Int32), .int (1 : Int32)]) (rest := []) hC hP hS (kX7_in l D cy tX tY ad A hC.2.2.2.2.2.2.2.2.1 F x1 a2 (0 : Int32) (1 : Int32) e7) glX7_54 ⟨rfl, rfl⟩ hdX7_in ⟨Nat.le_of_ble_eq_true rfl, Nat.le_of_ble_eq_true rfl⟩ rfl hl.1 rfl (Nat.le_of_ble_eq_true rfl) dX7_isWorm_11 ⟨Nat.zero_le _, Nat.zero_le _⟩ (fun H locs hP hS => ?_)
    refine lv_if_eq (tgt := 21) hx hb dX7_isWorm_14 (by decide) (fun c8 => ?_) (fun c8 => ?_)
    · have hf := it_t c8 hf
      exact tX7_isWorm_21 hC F x5 hf H locs ls hP hS (lv_sub hl [] rfl)
    · have hf := it_f c8 hf
      refine lv_iconst (v := 1) hx hb dX7_isWorm_17 (by decide) ?_
      refine lv_goto (tgt := 22) hx hb dX7_isWorm_18 (by decide) ?_
      exact gZret hC hP hS rfl hf dX7_isWorm_22
set_option maxHeartbeats 4000000 in
set_option maxRecDepth 100000 in
theorem tX7_arrived_39 (hC : Cf p s m args meth c cX7_arrived 4 RX7 (some .int) D cy tX tY ad A 12) (F : Nat) {z : Int32 × HT} (rec4 : HT → Int32 → Int32 → Int32 → Option (Int32 × HT)) (hrec4 : ∀ (x : HT) (a1 : Int32) (a2 : Int32) (a3 : Int32), rec4 x a1 a2 a3 = some z → Wd p l e { frames := 2, cells := 0, slots := 0, locals := 43 } s m args below meth c D (eM cy ad) 12 ad A (cQi (eM cy ad) 12 ad D A z) 4 4 [(0, .ref (ad 0)), (1, .int a1), (2, .int a2), (3, .int a3)] [] x) : ∀ (x : HT) (a1 : Int32) (a3 : Int32) (t0 : Int32) (t1 : Int32), fX7_arrived_39 F rec4 x a1 a3 t0 t1 = some z → Wd p l e { frames := 2, cells := 0, slots := 0, locals := 43 } s m args below meth c D (eM cy ad) 12 ad A (cQi (eM cy ad) 12 ad D A z) 4 39 [(0, .ref (ad 0)), (1, .int a1), (3, .int a3)] [.int t1, .int t0] x := by
  intro x a1 a3 t0 t1 hf H locs ls hP hS hl
  obtain ⟨hx, hb, -⟩ := id hC
  refine lv_iadd hx hb dX7_arrived_39 ?_
  refine lv_topi (fun b8 e9 => ?_)
  have hf := lt_use e9 hf
  refine lv_istore_n (lv' := [(2, .int b8), (0, .ref (ad 0)), (1, .int a1), (3, .int a3)]) hx hb dX7_arrived_40 rfl hl (by decide) rfl (fun ls hl => ?_)
  obtain ⟨b10, e11, hf⟩ := lt_some hf
  refine lv_iinc (v := b10) (lv' := [(3, .int b10), (2, .int b8), (0, .ref (ad 0)), (1, .int a1)]) hx hb dX7_arrived_41 hl (k := 3) rfl (by rw [e11]; rfl) (by decide) rfl (fun ls hl => ?_)
  refine lv_goto (tgt := 4) hx hb dX7_arrived_44 (by decide) ?_
  exact hrec4 x a1 b8 b10 hf H locs ls hP hS (lv_sub hl [2, 3, 1, 0] rfl)
set_option maxHeartbeats 4000000 in
set_option maxRecDepth 100000 in
theorem tX7_arrived_4b (hC : Cf p s m args meth c cX7_arrived 4 RX7 (some .int) D cy tX tY ad A 12) (F : Nat) {z : Int32 × HT} (rec4 : HT → Int32 → Int32 → Int32 → Option (Int32 × HT)) (hrec4 : ∀ (x : HT) (a1 : Int32) (a2 : Int32) (a3 : Int32), rec4 x a1 a2 a3 = some z → Wd p l e { frames := 2, cells := 0, slots := 0, locals := 43 } s m args below meth c D (eM cy ad) 12 ad A (cQi (eM cy ad) 12 ad D A z) 4 4 [(0, .ref (ad 0)), (1, .int a1), (2, .int a2), (3, .int a3)] [] x) : ∀ (x : HT) (a1 : Int32) (a2 : Int32) (a3 : Int32), fX7_arrived_4b F rec4 x a1 a2 a3 = some z → Wd p l e { frames := 2, cells := 0, slots := 0, locals := 43 } s m args below meth c D (eM cy ad) 12 ad A (cQi (eM cy ad) 12 ad D A z) 4 4 [(0, .ref (ad 0)), (1, .int a1), (2, .int a2), (3, .int a3)] [] x := by
  intro x a1 a2 a3 hf H locs ls hP hS hl
  obtain ⟨hx, hb, -⟩ := id hC
  refine lv_iload_n hx hb dX7_arrived_4 rfl (lv_at hl 3 rfl) ?_
  refine lv_aload_n hx hb dX7_arrived_5 rfl (lv_at hl 0 rfl) ?_
  refine gfX7_31 hC hP dX7_arrived_6 ?_
  refine lv_iload_n hx hb dX7_arrived_9 rfl (lv_at hl 1 rfl) ?_
  obtain ⟨h1, hf⟩ := ck_some hf
  refine gIal hC hP 8 (by decide) (eM_8 cy ad _ _) h1 dX7_arrived_10 ?_
  refine lv_icmp_ge (tgt := 47) hx hb dX7_arrived_11 (by decide) (fun c2 => ?_) (fun c2 => ?_)
  · have hf := it_t c2 hf
    refine lv_iload_n hx hb dX7_arrived_47 rfl (lv_at hl 2 rfl) ?_
    exact gIret hC hP hS hf dX7_arrived_48
  · have hf := it_f c2 hf
    refine lv_iload_n hx hb dX7_arrived_14 rfl (lv_at hl 2 rfl) ?_
    refine lv_aload_n hx hb dX7_arrived_15 rfl (lv_at hl 0 rfl) ?_
    refine gfX7_34 hC hP dX7_arrived_16 ?_
    refine lv_bipush (v := 36) hx hb dX7_arrived_19 (by decide) ?_
    refine lv_iload_n hx hb dX7_arrived_21 rfl (lv_at hl 1 rfl) ?_
    refine lv_imul hx hb dX7_arrived_22 ?_
    refine lv_iload_n hx hb dX7_arrived_23 rfl (lv_at hl 3 rfl) ?_
    refine lv_iadd hx hb dX7_arrived_24 ?_
    obtain ⟨h3, hf⟩ := ck_some hf
    refine gIal hC hP 9 (by decide) (eM_9 cy ad _ _) h3 dX7_arrived_25 ?_
    refine lv_aload_n hx hb dX7_arrived_26 rfl (lv_at hl 0 rfl) ?_
    refine lv_iload_n hx hb dX7_arrived_27 rfl (lv_at hl 1 rfl) ?_
    obtain ⟨r5, x4, e6, hf⟩ := bd_some hf
    refine gVi (As := [.int a1]) (rest := [.int (x.1 9 (((36 : Int32) * a1) + a3).toNatClampNeg), .int a2]) (k := 0) hC hP hS (kX7_moves l D cy tX tY ad A hC.2.2.2.2.2.2.2.2.1 F x a1 e6) glX7_88 ⟨rfl, rfl⟩ hdX7_moves ⟨Nat.le_of_ble_eq_true rfl, Nat.le_of_ble_eq_true rfl⟩ (by decide) (eM_0 cy ad _ _) rfl rfl hl.1 rfl (Nat.le_of_ble_eq_true rfl) dX7_arrived_28 ⟨Nat.zero_le _, Nat.zero_le _⟩ (fun H locs hP hS => ?_)
    refine lv_icmp_gt (tgt := 38) hx hb dX7_arrived_31 (by decide) (fun c7 => ?_) (fun c7 => ?_)
    · have hf := it_t c7 hf
      refine lv_iconst (v := 0) hx hb dX7_arrived_38 (by decide) ?_
      exact tX7_arrived_39 hC F rec4 hrec4 x4 a1 a3 a2 (0 : Int32) hf H locs ls hP hS (lv_sub hl [0, 1, 3] rfl)
    · have hf := it_f c7 hf
      refine lv_iconst (v := 1) hx hb dX7_arrived_34 (by decide) ?_
      refine lv_goto (tgt := 39) hx hb dX7_arrived_35 (by decide) ?_
      exact tX7_arrived_39 hC F rec4 hrec4 x4 a1 a3 a2 (1 : Int32) hf H locs ls hP hS (lv_sub hl [0, 1, 3] rfl)
theorem tX7_arrived_4 (hC : Cf p s m args meth c cX7_arrived 4 RX7 (some .int) D cy tX tY ad A 12) (F : Nat) {z : Int32 × HT} : ∀ (n9 : Nat) (x : HT) (a1 : Int32) (a2 : Int32) (a3 : Int32), fX7_arrived_4 F n9 x a1 a2 a3 = some z → Wd p l e { frames := 2, cells := 0, slots := 0, locals := 43 } s m args below meth c D (eM cy ad) 12 ad A (cQi (eM cy ad) 12 ad D A z) 4 4 [(0, .ref (ad 0)), (1, .int a1), (2, .int a2), (3, .int a3)] [] x := by
  intro n9
  induction n9 with
  | zero => intro x a1 a2 a3 hf; cases hf
  | succ n9 ih => intro x a1 a2 a3 hf; exact tX7_arrived_4b hC F (fX7_arrived_4 F n9) ih x a1 a2 a3 hf
set_option maxHeartbeats 4000000 in
set_option maxRecDepth 100000 in
theorem kX7_arrived (l : Launch) (D : va_G) (cy : Nat → ClassId) (tX tY : Nat) (ad : Nat → Nat) (A : Nat → Prop) (hA : apart ad A 12) (F : Nat) (x : HT) (a1 : Int32) {z : Int32 × HT} (hf : fX7_arrived F x a1 = some z) : Met l yX7_arrived (Cond.code yX7_arrived cX7_arrived 4 (some .int) :: wAll) { frames := 2, cells := 0, slots := 0, locals := 43 } (cPc (eM cy ad) 12 ad D cy tX tY A [.ref (ad 0), .int a1] x) (cQi (eM cy ad) 12 ad D A z) 0 0 A := by
  refine gMet hA (by decide) (Nat.le_of_ble_eq_true rfl) (fun p e s m below meth c hC H locs ls hP hS hl => ?_)
  have hC : Cf p s m _ meth c cX7_arrived 4 RX7 (some .int) D cy tX tY ad A 12 := hC
  have hl : lv_has ls 4 [(0, .ref (ad 0)), (1, .int a1)] := hl
  obtain ⟨hx, hb, -⟩ := id hC
  refine lv_iconst (v := 0) hx hb dX7_arrived_0 (by decide) ?_
  refine lv_istore_n (lv' := [(2, .int (0 : Int32)), (0, .ref (ad 0)), (1, .int a1)]) hx hb dX7_arrived_1 rfl hl (by decide) rfl (fun ls hl => ?_)
  refine lv_iconst (v := 0) hx hb dX7_arrived_2 (by decide) ?_
  refine lv_istore_n (lv' := [(3, .int (0 : Int32)), (2, .int (0 : Int32)), (0, .ref (ad 0)), (1, .int a1)]) hx hb dX7_arrived_3 rfl hl (by decide) rfl (fun ls hl => ?_)
  exact tX7_arrived_4 hC F F x a1 (0 : Int32) (0 : Int32) hf H locs ls hP hS (lv_sub hl [2, 3, 1, 0] rfl)
set_option maxHeartbeats 4000000 in
set_option maxRecDepth 100000 in
theorem kX7_heldMany (l : Launch) (D : va_G) (cy : Nat → ClassId) (tX tY : Nat) (ad : Nat → Nat) (A : Nat → Prop) (hA : apart ad A 12) (F : Nat) (x : HT) (a1 : Int32) {z : Int32 × HT} (hf : fX7_heldMany F x a1 = some z) : Met l yX7_heldMany (Cond.code yX7_heldMany cX7_heldMany 3 (some .int) :: wAll) { frames := 3, cells := 0, slots := 0, locals := 65 } (cPc (eM cy ad) 12 ad D cy tX tY A [.ref (ad 0), .int a1] x) (cQi (eM cy ad) 12 ad D A z) 0 0 A := by
  refine gMet hA (by decide) (Nat.le_of_ble_eq_true rfl) (fun p e s m below meth c hC H locs ls hP hS hl => ?_)
  have hC : Cf p s m _ meth c cX7_heldMany 3 RX7 (some .int) D cy tX tY ad A 12 := hC
  have hl : lv_has ls 3 [(0, .ref (ad 0)), (1, .int a1)] := hl
  obtain ⟨hx, hb, -⟩ := id hC
  refine lv_aload_n hx hb dX7_heldMany_0 rfl (lv_at hl 0 rfl) ?_
  refine lv_iload_n hx hb dX7_heldMany_1 rfl (lv_at hl 1 rfl) ?_
  obtain ⟨r2, x1, e3, hf⟩ := bd_some hf
  refine gVi (As := [.int a1]) (rest := []) (k := 0) hC hP hS (kX7_heldTo l D cy tX tY ad A hC.2.2.2.2.2.2.2.2.1 F x a1 e3) glX7_94 ⟨rfl, rfl⟩ hdX7_heldTo ⟨Nat.le_of_ble_eq_true rfl, Nat.le_of_ble_eq_true rfl⟩ (by decide) (eM_0 cy ad _ _) rfl rfl hl.1 rfl (Nat.le_of_ble_eq_true rfl) dX7_heldMany_2 ⟨Nat.zero_le _, Nat.zero_le _⟩ (fun H locs hP hS => ?_)
  refine lv_aload_n hx hb dX7_heldMany_5 rfl (lv_at hl 0 rfl) ?_
  refine lv_iload_n hx hb dX7_heldMany_6 rfl (lv_at hl 1 rfl) ?_
  obtain ⟨r5, x4, e6, hf⟩ := bd_some hf
  refine gVi (As := [.int a1]) (rest := [.int r2]) (k := 0) hC hP hS (kX7_heldFrom l D cy tX tY ad A hC.2.2.2.2.2.2.2.2.1 F x1 a1 e6) glX7_91 ⟨rfl, rfl⟩ hdX7_heldFrom ⟨Nat.le_of_ble_eq_true rfl, Nat.le_of_ble_eq_true rfl⟩ (by decide) (eM_0 cy ad _ _) rfl rfl hl.1 rfl (Nat.le_of_ble_eq_true rfl) dX7_heldMany_7 ⟨Nat.zero_le _, Nat.zero_le _⟩ (fun H locs hP hS => ?_)
  refine lv_isub hx hb dX7_heldMany_10 ?_
  refine lv_topi (fun b7 e8 => ?_)
  have hf := lt_use e8 hf
  refine lv_istore_n (lv' := [(2, .int b7), (0, .ref (ad 0)), (1, .int a1)]) hx hb dX7_heldMany_11 rfl hl (by decide) rfl (fun ls hl => ?_)
  refine lv_iload_n hx hb dX7_heldMany_12 rfl (lv_at hl 0 rfl) ?_
  refine lv_if_ge (tgt := 20) hx hb dX7_heldMany_13 (by decide) (fun c9 => ?_) (fun c9 => ?_)
  · have hf := it_t c9 hf
    refine lv_iload_n hx hb dX7_heldMany_20 rfl (lv_at hl 0 rfl) ?_
    exact gIret hC hP hS hf dX7_heldMany_21
  · have hf := it_f c9 hf
    refine lv_iconst (v := 0) hx hb dX7_heldMany_16 (by decide) ?_
    refine lv_goto (tgt := 21) hx hb dX7_heldMany_17 (by decide) ?_
    exact gIret hC hP hS hf dX7_heldMany_21
set_option maxHeartbeats 4000000 in
set_option maxRecDepth 100000 in
theorem tX7_downOf_61 (hC : Cf p s m args meth c cX7_downOf 5 RX7 (some .int) D cy tX tY ad A 12) (F : Nat) {z : Int32 × HT} (rec4 : HT → Int32 → Int32 → Int32 → Option (Int32 × HT)) (hrec4 : ∀ (x : HT) (a1 : Int32) (a2 : Int32) (a3 : Int32), rec4 x a1 a2 a3 = some z → Wd p l e { frames := 4, cells := 0, slots := 0, locals := 91 } s m args below meth c D (eM cy ad) 12 ad A (cQi (eM cy ad) 12 ad D A z) 5 4 [(0, .ref (ad 0)), (1, .int a1), (2, .int a2), (3, .int a3)] [] x) : ∀ (x : HT) (a1 : Int32) (a3 : Int32) (t0 : Int32) (t1 : Int32), fX7_downOf_61 F rec4 x a1 a3 t0 t1 = some z → Wd p l e { frames := 4, cells := 0, slots := 0, locals := 91 } s m args below meth c D (eM cy ad) 12 ad A (cQi (eM cy ad) 12 ad D A z) 5 61 [(0, .ref (ad 0)), (1, .int a1), (3, .int a3)] [.int t1, .int t0] x := by
  intro x a1 a3 t0 t1 hf H locs ls hP hS hl
  obtain ⟨hx, hb, -⟩ := id hC
  refine lv_iadd hx hb dX7_downOf_61 ?_
  refine lv_topi (fun b14 e15 => ?_)
  have hf := lt_use e15 hf
  refine lv_istore_n (lv' := [(2, .int b14), (0, .ref (ad 0)), (1, .int a1), (3, .int a3)]) hx hb dX7_downOf_62 rfl hl (by decide) rfl (fun ls hl => ?_)
  obtain ⟨b16, e17, hf⟩ := lt_some hf
  refine lv_iinc (v := b16) (lv' := [(3, .int b16), (2, .int b14), (0, .ref (ad 0)), (1, .int a1)]) hx hb dX7_downOf_63 hl (k := 3) rfl (by rw [e17]; rfl) (by decide) rfl (fun ls hl => ?_)
  refine lv_goto (tgt := 4) hx hb dX7_downOf_66 (by decide) ?_
  exact hrec4 x a1 b14 b16 hf H locs ls hP hS (lv_sub hl [2, 3, 1, 0] rfl)
set_option maxHeartbeats 4000000 in
set_option maxRecDepth 100000 in
theorem tX7_downOf_4b (hC : Cf p s m args meth c cX7_downOf 5 RX7 (some .int) D cy tX tY ad A 12) (F : Nat) {z : Int32 × HT} (rec4 : HT → Int32 → Int32 → Int32 → Option (Int32 × HT)) (hrec4 : ∀ (x : HT) (a1 : Int32) (a2 : Int32) (a3 : Int32), rec4 x a1 a2 a3 = some z → Wd p l e { frames := 4, cells := 0, slots := 0, locals := 91 } s m args below meth c D (eM cy ad) 12 ad A (cQi (eM cy ad) 12 ad D A z) 5 4 [(0, .ref (ad 0)), (1, .int a1), (2, .int a2), (3, .int a3)] [] x) : ∀ (x : HT) (a1 : Int32) (a2 : Int32) (a3 : Int32), fX7_downOf_4b F rec4 x a1 a2 a3 = some z → Wd p l e { frames := 4, cells := 0, slots := 0, locals := 91 } s m args below meth c D (eM cy ad) 12 ad A (cQi (eM cy ad) 12 ad D A z) 5 4 [(0, .ref (ad 0)), (1, .int a1), (2, .int a2), (3, .int a3)] [] x := by
  intro x a1 a2 a3 hf H locs ls hP hS hl
  obtain ⟨hx, hb, -⟩ := id hC
  refine lv_iload_n hx hb dX7_downOf_4 rfl (lv_at hl 3 rfl) ?_
  refine lv_aload_n hx hb dX7_downOf_5 rfl (lv_at hl 0 rfl) ?_
  refine gfX7_28 hC hP dX7_downOf_6 ?_
  refine lv_iload_n hx hb dX7_downOf_9 rfl (lv_at hl 1 rfl) ?_
  obtain ⟨h1, hf⟩ := ck_some hf
  refine gIal hC hP 7 (by decide) (eM_7 cy ad _ _) h1 dX7_downOf_10 ?_
  refine lv_icmp_ge (tgt := 69) hx hb dX7_downOf_11 (by decide) (fun c2 => ?_) (fun c2 => ?_)
  · have hf := it_t c2 hf
    refine lv_iload_n hx hb dX7_downOf_69 rfl (lv_at hl 2 rfl) ?_
    exact gIret hC hP hS hf dX7_downOf_70
  · have hf := it_f c2 hf
    refine lv_aload_n hx hb dX7_downOf_14 rfl (lv_at hl 0 rfl) ?_
    refine gfX7_25 hC hP dX7_downOf_15 ?_
    refine lv_bipush (v := 37) hx hb dX7_downOf_18 (by decide) ?_
    refine lv_iload_n hx hb dX7_downOf_20 rfl (lv_at hl 1 rfl) ?_
    refine lv_imul hx hb dX7_downOf_21 ?_
    refine lv_iload_n hx hb dX7_downOf_22 rfl (lv_at hl 3 rfl) ?_
    refine lv_iadd hx hb dX7_downOf_23 ?_
    obtain ⟨h3, hf⟩ := ck_some hf
    refine gIal hC hP 6 (by decide) (eM_6 cy ad _ _) h3 dX7_downOf_24 ?_
    refine lv_topi (fun b4 e5 => ?_)
    have hf := lt_use e5 hf
    refine lv_istore (lv' := [(4, .int b4), (0, .ref (ad 0)), (1, .int a1), (2, .int a2), (3, .int a3)]) hx hb dX7_downOf_25 hl (by decide) rfl (fun ls hl => ?_)
    refine lv_iload_n hx hb dX7_downOf_27 rfl (lv_at hl 3 rfl) ?_
    refine lv_aload_n hx hb dX7_downOf_28 rfl (lv_at hl 1 rfl) ?_
    refine lv_iload hx hb dX7_downOf_29 (lv_at hl 0 rfl) ?_
    refine lv_aload_n hx hb dX7_downOf_31 rfl (lv_at hl 1 rfl) ?_
    refine lv_iload hx hb dX7_downOf_32 (lv_at hl 0 rfl) ?_
    refine lv_aload_n hx hb dX7_downOf_34 rfl (lv_at hl 1 rfl) ?_
    refine gfX7_25 hC hP dX7_downOf_35 ?_
    refine lv_bipush (v := 37) hx hb dX7_downOf_38 (by decide) ?_
    refine lv_iload_n hx hb dX7_downOf_40 rfl (lv_at hl 2 rfl) ?_
    refine lv_imul hx hb dX7_downOf_41 ?_
    refine lv_iload_n hx hb dX7_downOf_42 rfl (lv_at hl 4 rfl) ?_
    refine lv_iadd hx hb dX7_downOf_43 ?_
    refine lv_iconst (v := 1) hx hb dX7_downOf_44 (by decide) ?_
    refine lv_iadd hx hb dX7_downOf_45 ?_
    obtain ⟨h6, hf⟩ := ck_some hf
    refine gIal hC hP 6 (by decide) (eM_6 cy ad _ _) h6 dX7_downOf_46 ?_
    obtain ⟨r8, x7, e9, hf⟩ := bd_some hf
    refine gVi (As := [.int b4, .int (x.1 6 ((((37 : Int32) * a1) + a3) + (1 : Int32)).toNatClampNeg)]) (rest := [.int b4, .ref (ad 0), .int a2]) (k := 0) hC hP hS (kX7_wayTo l D cy tX tY ad A hC.2.2.2.2.2.2.2.2.1 F x b4 (x.1 6 ((((37 : Int32) * a1) + a3) + (1 : Int32)).toNatClampNeg) e9) glX7_100 ⟨rfl, rfl⟩ hdX7_wayTo ⟨Nat.le_of_ble_eq_true rfl, Nat.le_of_ble_eq_true rfl⟩ (by decide) (eM_0 cy ad _ _) rfl rfl hl.1 rfl (Nat.le_of_ble_eq_true rfl) dX7_downOf_47 ⟨Nat.zero_le _, Nat.zero_le _⟩ (fun H locs hP hS => ?_)
    obtain ⟨r11, x10, e12, hf⟩ := bd_some hf
    refine gVi (As := [.int b4, .int r8]) (rest := [.int a2]) (k := 0) hC hP hS (kX7_isDown l D cy tX tY ad A hC.2.2.2.2.2.2.2.2.1 F x7 b4 r8 e12) glX7_103 ⟨rfl, rfl⟩ hdX7_isDown ⟨Nat.le_of_ble_eq_true rfl, Nat.le_of_ble_eq_true rfl⟩ (by decide) (eM_0 cy ad _ _) rfl rfl hl.1 rfl (Nat.le_of_ble_eq_true rfl) dX7_downOf_50 ⟨Nat.zero_le _, Nat.zero_le _⟩ (fun H locs hP hS => ?_)
    refine lv_if_eq (tgt := 60) hx hb dX7_downOf_53 (by decide) (fun c13 => ?_) (fun c13 => ?_)
    · have hf := it_t c13 hf
      refine lv_iconst (v := 0) hx hb dX7_downOf_60 (by decide) ?_
      exact tX7_downOf_61 hC F rec4 hrec4 x10 a1 a3 a2 (0 : Int32) hf H locs ls hP hS (lv_sub hl [1, 2, 4] rfl)
    · have hf := it_f c13 hf
      refine lv_iconst (v := 1) hx hb dX7_downOf_56 (by decide) ?_
      refine lv_goto (tgt := 61) hx hb dX7_downOf_57 (by decide) ?_
      exact tX7_downOf_61 hC F rec4 hrec4 x10 a1 a3 a2 (1 : Int32) hf H locs ls hP hS (lv_sub hl [1, 2, 4] rfl)
theorem tX7_downOf_4 (hC : Cf p s m args meth c cX7_downOf 5 RX7 (some .int) D cy tX tY ad A 12) (F : Nat) {z : Int32 × HT} : ∀ (n9 : Nat) (x : HT) (a1 : Int32) (a2 : Int32) (a3 : Int32), fX7_downOf_4 F n9 x a1 a2 a3 = some z → Wd p l e { frames := 4, cells := 0, slots := 0, locals := 91 } s m args below meth c D (eM cy ad) 12 ad A (cQi (eM cy ad) 12 ad D A z) 5 4 [(0, .ref (ad 0)), (1, .int a1), (2, .int a2), (3, .int a3)] [] x := by
  intro n9
  induction n9 with
  | zero => intro x a1 a2 a3 hf; cases hf
  | succ n9 ih => intro x a1 a2 a3 hf; exact tX7_downOf_4b hC F (fX7_downOf_4 F n9) ih x a1 a2 a3 hf
set_option maxHeartbeats 4000000 in
set_option maxRecDepth 100000 in
theorem kX7_downOf (l : Launch) (D : va_G) (cy : Nat → ClassId) (tX tY : Nat) (ad : Nat → Nat) (A : Nat → Prop) (hA : apart ad A 12) (F : Nat) (x : HT) (a1 : Int32) {z : Int32 × HT} (hf : fX7_downOf F x a1 = some z) : Met l yX7_downOf (Cond.code yX7_downOf cX7_downOf 5 (some .int) :: wAll) { frames := 4, cells := 0, slots := 0, locals := 91 } (cPc (eM cy ad) 12 ad D cy tX tY A [.ref (ad 0), .int a1] x) (cQi (eM cy ad) 12 ad D A z) 0 0 A := by
  refine gMet hA (by decide) (Nat.le_of_ble_eq_true rfl) (fun p e s m below meth c hC H locs ls hP hS hl => ?_)
  have hC : Cf p s m _ meth c cX7_downOf 5 RX7 (some .int) D cy tX tY ad A 12 := hC
  have hl : lv_has ls 5 [(0, .ref (ad 0)), (1, .int a1)] := hl
  obtain ⟨hx, hb, -⟩ := id hC
  refine lv_iconst (v := 0) hx hb dX7_downOf_0 (by decide) ?_
  refine lv_istore_n (lv' := [(2, .int (0 : Int32)), (0, .ref (ad 0)), (1, .int a1)]) hx hb dX7_downOf_1 rfl hl (by decide) rfl (fun ls hl => ?_)
  refine lv_iconst (v := 0) hx hb dX7_downOf_2 (by decide) ?_
  refine lv_istore_n (lv' := [(3, .int (0 : Int32)), (2, .int (0 : Int32)), (0, .ref (ad 0)), (1, .int a1)]) hx hb dX7_downOf_3 rfl hl (by decide) rfl (fun ls hl => ?_)
  exact tX7_downOf_4 hC F F x a1 (0 : Int32) (0 : Int32) hf H locs ls hP hS (lv_sub hl [2, 3, 1, 0] rfl)
set_option maxHeartbeats 4000000 in
set_option maxRecDepth 100000 in
theorem kX7_wormTold (l : Launch) (D : va_G) (cy : Nat → ClassId) (tX tY : Nat) (ad : Nat → Nat) (A : Nat → Prop) (hA : apart ad A 12) (F : Nat) (x : HT) (a1 : Int32) (a2 : Int32) {z : Int32 × HT} (hf : fX7_wormTold F x a1 a2 = some z) : Met l yX7_wormTold (Cond.code yX7_wormTold cX7_wormTold 3 (some .int) :: wAll) { frames := 5, cells := 0, slots := 0, locals := 115 } (cPc (eM cy ad) 12 ad D cy tX tY A [.ref (ad 0), .int a1, .int a2] x) (cQi (eM cy ad) 12 ad D A z) 0 0 A := by
  refine gMet hA (by decide) (Nat.le_of_ble_eq_true rfl) (fun p e s m below meth c hC H locs ls hP hS hl => ?_)
  have hC : Cf p s m _ meth c cX7_wormTold 3 RX7 (some .int) D cy tX tY ad A 12 := hC
  have hl : lv_has ls 3 [(0, .ref (ad 0)), (1, .int a1), (2, .int a2)] := hl
  obtain ⟨hx, hb, -⟩ := id hC
  refine lv_iload_n hx hb dX7_wormTold_0 rfl (lv_at hl 2 rfl) ?_
  by_cases c1 : a2 = (0 : Int32)
  · have hf := it_t c1 hf
    refine lv_tableIn (tgt := 48) (off := 47) hx hb dX7_wormTold_1 (by rw [c1]; decide) (by rw [c1]; decide) (by rw [c1]; decide) (by decide) ?_
    refine lv_aload_n hx hb dX7_wormTold_48 rfl (lv_at hl 0 rfl) ?_
    refine gfX7_31 hC hP dX7_wormTold_49 ?_
    refine lv_iload_n hx hb dX7_wormTold_52 rfl (lv_at hl 1 rfl) ?_
    obtain ⟨h2, hf⟩ := ck_some hf
    refine gIal hC hP 8 (by decide) (eM_8 cy ad _ _) h2 dX7_wormTold_53 ?_
    exact gIret hC hP hS hf dX7_wormTold_54
  have hf := it_f c1 hf
  by_cases c3 : a2 = (1 : Int32)
  · have hf := it_t c3 hf
    refine lv_tableIn (tgt := 55) (off := 54) hx hb dX7_wormTold_1 (by rw [c3]; decide) (by rw [c3]; decide) (by rw [c3]; decide) (by decide) ?_
    refine lv_aload_n hx hb dX7_wormTold_55 rfl (lv_at hl 0 rfl) ?_
    refine gfX7_28 hC hP dX7_wormTold_56 ?_
    refine lv_iload_n hx hb dX7_wormTold_59 rfl (lv_at hl 1 rfl) ?_
    obtain ⟨h4, hf⟩ := ck_some hf
    refine gIal hC hP 7 (by decide) (eM_7 cy ad _ _) h4 dX7_wormTold_60 ?_
    exact gIret hC hP hS hf dX7_wormTold_61
  have hf := it_f c3 hf
  by_cases c5 : a2 = (2 : Int32)
  · have hf := it_t c5 hf
    refine lv_tableIn (tgt := 62) (off := 61) hx hb dX7_wormTold_1 (by rw [c5]; decide) (by rw [c5]; decide) (by rw [c5]; decide) (by decide) ?_
    refine lv_aload_n hx hb dX7_wormTold_62 rfl (lv_at hl 0 rfl) ?_
    refine lv_iload_n hx hb dX7_wormTold_63 rfl (lv_at hl 1 rfl) ?_
    obtain ⟨r7, x6, e8, hf⟩ := bd_some hf
    refine gVi (As := [.int a1]) (rest := []) (k := 0) hC hP hS (kX7_moves l D cy tX tY ad A hC.2.2.2.2.2.2.2.2.1 F x a1 e8) glX7_88 ⟨rfl, rfl⟩ hdX7_moves ⟨Nat.le_of_ble_eq_true rfl, Nat.le_of_ble_eq_true rfl⟩ (by decide) (eM_0 cy ad _ _) rfl rfl hl.1 rfl (Nat.le_of_ble_eq_true rfl) dX7_wormTold_64 ⟨Nat.zero_le _, Nat.zero_le _⟩ (fun H locs hP hS => ?_)
    exact gIret hC hP hS hf dX7_wormTold_67
  have hf := it_f c5 hf
  by_cases c9 : a2 = (3 : Int32)
  · have hf := it_t c9 hf
    refine lv_tableIn (tgt := 68) (off := 67) hx hb dX7_wormTold_1 (by rw [c9]; decide) (by rw [c9]; decide) (by rw [c9]; decide) (by decide) ?_
    refine lv_aload_n hx hb dX7_wormTold_68 rfl (lv_at hl 0 rfl) ?_
    refine lv_aload_n hx hb dX7_wormTold_69 rfl (lv_at hl 0 rfl) ?_
    refine gfX7_25 hC hP dX7_wormTold_70 ?_
    refine lv_bipush (v := 37) hx hb dX7_wormTold_73 (by decide) ?_
    refine lv_iload_n hx hb dX7_wormTold_75 rfl (lv_at hl 1 rfl) ?_
    refine lv_imul hx hb dX7_wormTold_76 ?_
    refine lv_aload_n hx hb dX7_wormTold_77 rfl (lv_at hl 0 rfl) ?_
    refine lv_iload_n hx hb dX7_wormTold_78 rfl (lv_at hl 1 rfl) ?_
    obtain ⟨r11, x10, e12, hf⟩ := bd_some hf
    refine gVi (As := [.int a1]) (rest := [.int ((37 : Int32) * a1), .ref (ad 6), .ref (ad 0)]) (k := 0) hC hP hS (kX7_heldTo l D cy tX tY ad A hC.2.2.2.2.2.2.2.2.1 F x a1 e12) glX7_94 ⟨rfl, rfl⟩ hdX7_heldTo ⟨Nat.le_of_ble_eq_true rfl, Nat.le_of_ble_eq_true rfl⟩ (by decide) (eM_0 cy ad _ _) rfl rfl hl.1 rfl (Nat.le_of_ble_eq_true rfl) dX7_wormTold_79 ⟨Nat.zero_le _, Nat.zero_le _⟩ (fun H locs hP hS => ?_)
    refine lv_iadd hx hb dX7_wormTold_82 ?_
    obtain ⟨h13, hf⟩ := ck_some hf
    refine gIal hC hP 6 (by decide) (eM_6 cy ad _ _) h13 dX7_wormTold_83 ?_
    obtain ⟨r15, x14, e16, hf⟩ := bd_some hf
    refine gVi (As := [.int (x10.1 6 (((37 : Int32) * a1) + r11).toNatClampNeg)]) (rest := []) (k := 0) hC hP hS (kX7_toldOf l D cy tX tY ad A hC.2.2.2.2.2.2.2.2.1 F x10 (x10.1 6 (((37 : Int32) * a1) + r11).toNatClampNeg) e16) glX7_167 ⟨rfl, rfl⟩ hdX7_toldOf ⟨Nat.le_of_ble_eq_true rfl, Nat.le_of_ble_eq_true rfl⟩ (by decide) (eM_0 cy ad _ _) rfl rfl hl.1 rfl (Nat.le_of_ble_eq_true rfl) dX7_wormTold_84 ⟨Nat.zero_le _, Nat.zero_le _⟩ (fun H locs hP hS => ?_)
    exact gIret hC hP hS hf dX7_wormTold_87
  have hf := it_f c9 hf
  by_cases c17 : a2 = (4 : Int32)
  · have hf := it_t c17 hf
    refine lv_tableIn (tgt := 88) (off := 87) hx hb dX7_wormTold_1 (by rw [c17]; decide) (by rw [c17]; decide) (by rw [c17]; decide) (by decide) ?_
    refine lv_aload_n hx hb dX7_wormTold_88 rfl (lv_at hl 0 rfl) ?_
    refine lv_iload_n hx hb dX7_wormTold_89 rfl (lv_at hl 1 rfl) ?_
    obtain ⟨r19, x18, e20, hf⟩ := bd_some hf
    refine gVi (As := [.int a1]) (rest := []) (k := 0) hC hP hS (kX7_arrived l D cy tX tY ad A hC.2.2.2.2.2.2.2.2.1 F x a1 e20) glX7_173 ⟨rfl, rfl⟩ hdX7_arrived ⟨Nat.le_of_ble_eq_true rfl, Nat.le_of_ble_eq_true rfl⟩ (by decide) (eM_0 cy ad _ _) rfl rfl hl.1 rfl (Nat.le_of_ble_eq_true rfl) dX7_wormTold_90 ⟨Nat.zero_le _, Nat.zero_le _⟩ (fun H locs hP hS => ?_)
    exact gIret hC hP hS hf dX7_wormTold_93
  have hf := it_f c17 hf
  by_cases c21 : a2 = (5 : Int32)
  · have hf := it_t c21 hf
    refine lv_tableIn (tgt := 94) (off := 93) hx hb dX7_wormTold_1 (by rw [c21]; decide) (by rw [c21]; decide) (by rw [c21]; decide) (by decide) ?_
    refine lv_aload_n hx hb dX7_wormTold_94 rfl (lv_at hl 0 rfl) ?_
    refine lv_iload_n hx hb dX7_wormTold_95 rfl (lv_at hl 1 rfl) ?_
    refine lv_iconst (v := 2) hx hb dX7_wormTold_96 (by decide) ?_
    refine lv_idiv hx hb dX7_wormTold_97 (by decide) ?_
    refine lv_bipush (v := 6) hx hb dX7_wormTold_98 (by decide) ?_
    refine lv_iload_n hx hb dX7_wormTold_100 rfl (lv_at hl 1 rfl) ?_
    refine lv_iconst (v := 2) hx hb dX7_wormTold_101 (by decide) ?_
    refine lv_irem hx hb dX7_wormTold_102 (by decide) ?_
    refine lv_iadd hx hb dX7_wormTold_103 ?_
    obtain ⟨r23, x22, e24, hf⟩ := bd_some hf
    refine gVi (As := [.int (a1 / (2 : Int32)), .int ((6 : Int32) + (a1 - a1 / (2 : Int32) * (2 : Int32)))]) (rest := []) (k := 0) hC hP hS (kX7_of0 l D cy tX tY ad A hC.2.2.2.2.2.2.2.2.1 F x (a1 / (2 : Int32)) ((6 : Int32) + (a1 - a1 / (2 : Int32) * (2 : Int32))) e24) glX7_78 ⟨rfl, rfl⟩ hdX7_of0 ⟨Nat.le_of_ble_eq_true rfl, Nat.le_of_ble_eq_true rfl⟩ (by decide) (eM_0 cy ad _ _) rfl rfl hl.1 rfl (Nat.le_of_ble_eq_true rfl) dX7_wormTold_104 ⟨Nat.zero_le _, Nat.zero_le _⟩ (fun H locs hP hS => ?_)
    exact gIret hC hP hS hf dX7_wormTold_107
  have hf := it_f c21 hf
  by_cases c25 : a2 = (6 : Int32)
  · have hf := it_t c25 hf
    refine lv_tableIn (tgt := 108) (off := 107) hx hb dX7_wormTold_1 (by rw [c25]; decide) (by rw [c25]; decide) (by rw [c25]; decide) (by decide) ?_
    refine lv_aload_n hx hb dX7_wormTold_108 rfl (lv_at hl 0 rfl) ?_
    refine lv_iload_n hx hb dX7_wormTold_109 rfl (lv_at hl 1 rfl) ?_
    obtain ⟨r27, x26, e28, hf⟩ := bd_some hf
    refine gVi (As := [.int a1]) (rest := []) (k := 0) hC hP hS (kX7_isDone l D cy tX tY ad A hC.2.2.2.2.2.2.2.2.1 F x a1 e28) glX7_112 ⟨rfl, rfl⟩ hdX7_isDone ⟨Nat.le_of_ble_eq_true rfl, Nat.le_of_ble_eq_true rfl⟩ (by decide) (eM_0 cy ad _ _) rfl rfl hl.1 rfl (Nat.le_of_ble_eq_true rfl) dX7_wormTold_110 ⟨Nat.zero_le _, Nat.zero_le _⟩ (fun H locs hP hS => ?_)
    refine lv_if_eq (tgt := 120) hx hb dX7_wormTold_113 (by decide) (fun c29 => ?_) (fun c29 => ?_)
    · have hf := it_t c29 hf
      refine lv_iconst (v := 0) hx hb dX7_wormTold_120 (by decide) ?_
      exact gIret hC hP hS hf dX7_wormTold_121
    · have hf := it_f c29 hf
      refine lv_iconst (v := 1) hx hb dX7_wormTold_116 (by decide) ?_
      refine lv_goto (tgt := 121) hx hb dX7_wormTold_117 (by decide) ?_
      exact gIret hC hP hS hf dX7_wormTold_121
  have hf := it_f c25 hf
  by_cases c30 : a2 = (7 : Int32)
  · have hf := it_t c30 hf
    refine lv_tableIn (tgt := 122) (off := 121) hx hb dX7_wormTold_1 (by rw [c30]; decide) (by rw [c30]; decide) (by rw [c30]; decide) (by decide) ?_
    refine lv_aload_n hx hb dX7_wormTold_122 rfl (lv_at hl 0 rfl) ?_
    refine lv_iload_n hx hb dX7_wormTold_123 rfl (lv_at hl 1 rfl) ?_
    obtain ⟨r32, x31, e33, hf⟩ := bd_some hf
    refine gVi (As := [.int a1]) (rest := []) (k := 0) hC hP hS (kX7_heldMany l D cy tX tY ad A hC.2.2.2.2.2.2.2.2.1 F x a1 e33) glX7_176 ⟨rfl, rfl⟩ hdX7_heldMany ⟨Nat.le_of_ble_eq_true rfl, Nat.le_of_ble_eq_true rfl⟩ (by decide) (eM_0 cy ad _ _) rfl rfl hl.1 rfl (Nat.le_of_ble_eq_true rfl) dX7_wormTold_124 ⟨Nat.zero_le _, Nat.zero_le _⟩ (fun H locs hP hS => ?_)
    exact gIret hC hP hS hf dX7_wormTold_127
  have hf := it_f c30 hf
  refine lv_tableOut (tgt := 128) hx hb dX7_wormTold_1 (by have n0 := lv_neT c1 (a := 0) (by decide); have n1 := lv_neT c3 (a := 1) (by decide); have n2 := lv_neT c5 (a := 2) (by decide); have n3 := lv_neT c9 (a := 3) (by decide); have n4 := lv_neT c17 (a := 4) (by decide); have n5 := lv_neT c21 (a := 5) (by decide); have n6 := lv_neT c25 (a := 6) (by decide); have n7 := lv_neT c30 (a := 7) (by decide); omega) (by decide) ?_
  refine lv_aload_n hx hb dX7_wormTold_128 rfl (lv_at hl 0 rfl) ?_
  refine lv_iload_n hx hb dX7_wormTold_129 rfl (lv_at hl 1 rfl) ?_
  obtain ⟨r35, x34, e36, hf⟩ := bd_some hf
  refine gVi (As := [.int a1]) (rest := []) (k := 0) hC hP hS (kX7_downOf l D cy tX tY ad A hC.2.2.2.2.2.2.2.2.1 F x a1 e36) glX7_179 ⟨rfl, rfl⟩ hdX7_downOf ⟨Nat.le_of_ble_eq_true rfl, Nat.le_of_ble_eq_true rfl⟩ (by decide) (eM_0 cy ad _ _) rfl rfl hl.1 rfl (Nat.le_of_ble_eq_true rfl) dX7_wormTold_130 ⟨Nat.zero_le _, Nat.zero_le _⟩ (fun H locs hP hS => ?_)
  exact gIret hC hP hS hf dX7_wormTold_133
set_option maxHeartbeats 4000000 in
set_option maxRecDepth 100000 in
theorem tX7_worm_19 (hC : Cf p s m args meth c cX7_worm 4 RX7 (some .int) D cy tX tY ad A 12) (F : Nat) {z : Int32 × HT} : ∀ (x : HT), fX7_worm_19 F x = some z → Wd p l e { frames := 6, cells := 0, slots := 0, locals := 144 } s m args below meth c D (eM cy ad) 12 ad A (cQi (eM cy ad) 12 ad D A z) 4 19 [(0, .ref (ad 0))] [] x := by
  intro x hf H locs ls hP hS hl
  obtain ⟨hx, hb, -⟩ := id hC
  refine lv_aload_n hx hb dX7_worm_19 rfl (lv_at hl 0 rfl) ?_
  refine lv_bipush (v := -2) hx hb dX7_worm_20 (by decide) ?_
  obtain ⟨r16, x15, e17, hf⟩ := bd_some hf
  refine gVi (As := [.int (-2 : Int32)]) (rest := []) (k := 0) hC hP hS (kX7_refuses l D cy tX tY ad A hC.2.2.2.2.2.2.2.2.1 F x (-2 : Int32) e17) glX7_47 ⟨rfl, rfl⟩ hdX7_refuses ⟨Nat.le_of_ble_eq_true rfl, Nat.le_of_ble_eq_true rfl⟩ (by decide) (eM_0 cy ad _ _) rfl rfl hl.1 rfl (Nat.le_of_ble_eq_true rfl) dX7_worm_22 ⟨Nat.zero_le _, Nat.zero_le _⟩ (fun H locs hP hS => ?_)
  exact gIret hC hP hS hf dX7_worm_25
set_option maxHeartbeats 4000000 in
set_option maxRecDepth 100000 in
theorem kX7_worm (l : Launch) (D : va_G) (cy : Nat → ClassId) (tX tY : Nat) (ad : Nat → Nat) (A : Nat → Prop) (hA : apart ad A 12) (F : Nat) (x : HT) (a1 : Int32) (a2 : Int32) (a3 : Int32) {z : Int32 × HT} (hf : fX7_worm F x a1 a2 a3 = some z) : Met l yX7_worm (Cond.code yX7_worm cX7_worm 4 (some .int) :: wAll) { frames := 6, cells := 0, slots := 0, locals := 144 } (cPc (eM cy ad) 12 ad D cy tX tY A [.ref (ad 0), .int a1, .int a2, .int a3] x) (cQi (eM cy ad) 12 ad D A z) 0 0 A := by
  refine gMet hA (by decide) (Nat.le_of_ble_eq_true rfl) (fun p e s m below meth c hC H locs ls hP hS hl => ?_)
  have hC : Cf p s m _ meth c cX7_worm 4 RX7 (some .int) D cy tX tY ad A 12 := hC
  have hl : lv_has ls 4 [(0, .ref (ad 0)), (1, .int a1), (2, .int a2), (3, .int a3)] := hl
  obtain ⟨hx, hb, -⟩ := id hC
  refine lv_aload_n hx hb dX7_worm_0 rfl (lv_at hl 0 rfl) ?_
  refine lv_iload_n hx hb dX7_worm_1 rfl (lv_at hl 1 rfl) ?_
  refine lv_iload_n hx hb dX7_worm_2 rfl (lv_at hl 2 rfl) ?_
  obtain ⟨r2, x1, e3, hf⟩ := bd_some hf
  refine gVi (As := [.int a1, .int a2]) (rest := []) (k := 0) hC hP hS (kX7_isWorm l D cy tX tY ad A hC.2.2.2.2.2.2.2.2.1 F x a1 a2 e3) glX7_182 ⟨rfl, rfl⟩ hdX7_isWorm ⟨Nat.le_of_ble_eq_true rfl, Nat.le_of_ble_eq_true rfl⟩ (by decide) (eM_0 cy ad _ _) rfl rfl hl.1 rfl (Nat.le_of_ble_eq_true rfl) dX7_worm_3 ⟨Nat.zero_le _, Nat.zero_le _⟩ (fun H locs hP hS => ?_)
  refine lv_if_eq (tgt := 19) hx hb dX7_worm_6 (by decide) (fun c4 => ?_) (fun c4 => ?_)
  · have hf := it_t c4 hf
    exact tX7_worm_19 hC F x1 hf H locs ls hP hS (lv_sub hl [0] rfl)
  · have hf := it_f c4 hf
    refine lv_iload_n hx hb dX7_worm_9 rfl (lv_at hl 3 rfl) ?_
    refine lv_iconst (v := 0) hx hb dX7_worm_10 (by decide) ?_
    refine lv_bipush (v := 8) hx hb dX7_worm_11 (by decide) ?_
    obtain ⟨r6, x5, e7, hf⟩ := bd_some hf
    refine gSi (As := [.int a3, .int (0 : Int32), .int (8 : Int32)]) (rest := []) hC hP hS (kX7_in l D cy tX tY ad A hC.2.2.2.2.2.2.2.2.1 F x1 a3 (0 : Int32) (8 : Int32) e7) glX7_54 ⟨rfl, rfl⟩ hdX7_in ⟨Nat.le_of_ble_eq_true rfl, Nat.le_of_ble_eq_true rfl⟩ rfl hl.1 rfl (Nat.le_of_ble_eq_true rfl) dX7_worm_13 ⟨Nat.zero_le _, Nat.zero_le _⟩ (fun H locs hP hS => ?_)
    refine lv_if_ne (tgt := 26) hx hb dX7_worm_16 (by decide) (fun c8 => ?_) (fun c8 => ?_)
    · have hf := it_f c8 hf
      refine lv_aload_n hx hb dX7_worm_26 rfl (lv_at hl 0 rfl) ?_
      obtain ⟨r10, x9, e11, hf⟩ := bd_some hf
      refine gVv (As := []) (rest := []) (k := 0) hC hP hS (kX7_laysWays l D cy tX tY ad A hC.2.2.2.2.2.2.2.2.1 F x5 e11) glX7_129 ⟨rfl, rfl⟩ hdX7_laysWays ⟨Nat.le_of_ble_eq_true rfl, Nat.le_of_ble_eq_true rfl⟩ (by decide) (eM_0 cy ad _ _) rfl rfl hl.1 rfl (Nat.le_of_ble_eq_true rfl) dX7_worm_27 ⟨Nat.zero_le _, Nat.zero_le _⟩ (fun H locs hP hS => ?_)
      refine lv_aload_n hx hb dX7_worm_30 rfl (lv_at hl 0 rfl) ?_
      refine lv_iconst (v := 2) hx hb dX7_worm_31 (by decide) ?_
      refine lv_iload_n hx hb dX7_worm_32 rfl (lv_at hl 1 rfl) ?_
      refine lv_imul hx hb dX7_worm_33 ?_
      refine lv_iload_n hx hb dX7_worm_34 rfl (lv_at hl 2 rfl) ?_
      refine lv_iadd hx hb dX7_worm_35 ?_
      refine lv_iload_n hx hb dX7_worm_36 rfl (lv_at hl 3 rfl) ?_
      obtain ⟨r13, x12, e14, hf⟩ := bd_some hf
      refine gVi (As := [.int (((2 : Int32) * a1) + a2), .int a3]) (rest := []) (k := 0) hC hP hS (kX7_wormTold l D cy tX tY ad A hC.2.2.2.2.2.2.2.2.1 F x9 (((2 : Int32) * a1) + a2) a3 e14) glX7_185 ⟨rfl, rfl⟩ hdX7_wormTold ⟨Nat.le_of_ble_eq_true rfl, Nat.le_of_ble_eq_true rfl⟩ (by decide) (eM_0 cy ad _ _) rfl rfl hl.1 rfl (Nat.le_of_ble_eq_true rfl) dX7_worm_37 ⟨Nat.zero_le _, Nat.zero_le _⟩ (fun H locs hP hS => ?_)
      exact gIret hC hP hS hf dX7_worm_40
    · have hf := it_t c8 hf
      exact tX7_worm_19 hC F x5 hf H locs ls hP hS (lv_sub hl [0] rfl)
set_option maxHeartbeats 4000000 in
set_option maxRecDepth 100000 in
theorem tX7_way_13 (hC : Cf p s m args meth c cX7_way 5 RX7 (some .int) D cy tX tY ad A 12) (F : Nat) {z : Int32 × HT} : ∀ (x : HT), fX7_way_13 F x = some z → Wd p l e { frames := 6, cells := 0, slots := 0, locals := 144 } s m args below meth c D (eM cy ad) 12 ad A (cQi (eM cy ad) 12 ad D A z) 5 13 [(0, .ref (ad 0))] [] x := by
  intro x hf H locs ls hP hS hl
  obtain ⟨hx, hb, -⟩ := id hC
  refine lv_aload_n hx hb dX7_way_13 rfl (lv_at hl 0 rfl) ?_
  refine lv_bipush (v := -2) hx hb dX7_way_14 (by decide) ?_
  obtain ⟨r18, x17, e19, hf⟩ := bd_some hf
  refine gVi (As := [.int (-2 : Int32)]) (rest := []) (k := 0) hC hP hS (kX7_refuses l D cy tX tY ad A hC.2.2.2.2.2.2.2.2.1 F x (-2 : Int32) e19) glX7_47 ⟨rfl, rfl⟩ hdX7_refuses ⟨Nat.le_of_ble_eq_true rfl, Nat.le_of_ble_eq_true rfl⟩ (by decide) (eM_0 cy ad _ _) rfl rfl hl.1 rfl (Nat.le_of_ble_eq_true rfl) dX7_way_16 ⟨Nat.zero_le _, Nat.zero_le _⟩ (fun H locs hP hS => ?_)
  exact gIret hC hP hS hf dX7_way_19
set_option maxHeartbeats 4000000 in
set_option maxRecDepth 100000 in
theorem kX7_way (l : Launch) (D : va_G) (cy : Nat → ClassId) (tX tY : Nat) (ad : Nat → Nat) (A : Nat → Prop) (hA : apart ad A 12) (F : Nat) (x : HT) (a1 : Int32) (a2 : Int32) (a3 : Int32) {z : Int32 × HT} (hf : fX7_way F x a1 a2 a3 = some z) : Met l yX7_way (Cond.code yX7_way cX7_way 5 (some .int) :: wAll) { frames := 6, cells := 0, slots := 0, locals := 144 } (cPc (eM cy ad) 12 ad D cy tX tY A [.ref (ad 0), .int a1, .int a2, .int a3] x) (cQi (eM cy ad) 12 ad D A z) 0 0 A := by
  refine gMet hA (by decide) (Nat.le_of_ble_eq_true rfl) (fun p e s m below meth c hC H locs ls hP hS hl => ?_)
  have hC : Cf p s m _ meth c cX7_way 5 RX7 (some .int) D cy tX tY ad A 12 := hC
  have hl : lv_has ls 5 [(0, .ref (ad 0)), (1, .int a1), (2, .int a2), (3, .int a3)] := hl
  obtain ⟨hx, hb, -⟩ := id hC
  refine lv_aload_n hx hb dX7_way_0 rfl (lv_at hl 0 rfl) ?_
  refine lv_iload_n hx hb dX7_way_1 rfl (lv_at hl 1 rfl) ?_
  refine lv_iload_n hx hb dX7_way_2 rfl (lv_at hl 2 rfl) ?_
  obtain ⟨r2, x1, e3, hf⟩ := bd_some hf
  refine gVi (As := [.int a1, .int a2]) (rest := []) (k := 0) hC hP hS (kX7_isWorm l D cy tX tY ad A hC.2.2.2.2.2.2.2.2.1 F x a1 a2 e3) glX7_182 ⟨rfl, rfl⟩ hdX7_isWorm ⟨Nat.le_of_ble_eq_true rfl, Nat.le_of_ble_eq_true rfl⟩ (by decide) (eM_0 cy ad _ _) rfl rfl hl.1 rfl (Nat.le_of_ble_eq_true rfl) dX7_way_3 ⟨Nat.zero_le _, Nat.zero_le _⟩ (fun H locs hP hS => ?_)
  refine lv_if_eq (tgt := 13) hx hb dX7_way_6 (by decide) (fun c4 => ?_) (fun c4 => ?_)
  · have hf := it_t c4 hf
    exact tX7_way_13 hC F x1 hf H locs ls hP hS (lv_sub hl [0] rfl)
  · have hf := it_f c4 hf
    refine lv_iload_n hx hb dX7_way_9 rfl (lv_at hl 3 rfl) ?_
    refine lv_if_ge (tgt := 20) hx hb dX7_way_10 (by decide) (fun c5 => ?_) (fun c5 => ?_)
    · have hf := it_t c5 hf
      refine lv_aload_n hx hb dX7_way_20 rfl (lv_at hl 0 rfl) ?_
      obtain ⟨r7, x6, e8, hf⟩ := bd_some hf
      refine gVv (As := []) (rest := []) (k := 0) hC hP hS (kX7_laysWays l D cy tX tY ad A hC.2.2.2.2.2.2.2.2.1 F x1 e8) glX7_129 ⟨rfl, rfl⟩ hdX7_laysWays ⟨Nat.le_of_ble_eq_true rfl, Nat.le_of_ble_eq_true rfl⟩ (by decide) (eM_0 cy ad _ _) rfl rfl hl.1 rfl (Nat.le_of_ble_eq_true rfl) dX7_way_21 ⟨Nat.zero_le _, Nat.zero_le _⟩ (fun H locs hP hS => ?_)
      refine lv_iconst (v := 2) hx hb dX7_way_24 (by decide) ?_
      refine lv_iload_n hx hb dX7_way_25 rfl (lv_at hl 1 rfl) ?_
      refine lv_imul hx hb dX7_way_26 ?_
      refine lv_iload_n hx hb dX7_way_27 rfl (lv_at hl 2 rfl) ?_
      refine lv_iadd hx hb dX7_way_28 ?_
      refine lv_topi (fun b9 e10 => ?_)
      have hf := lt_use e10 hf
      refine lv_istore (lv' := [(4, .int b9), (0, .ref (ad 0)), (1, .int a1), (2, .int a2), (3, .int a3)]) hx hb dX7_way_29 hl (by decide) rfl (fun ls hl => ?_)
      refine lv_iload_n hx hb dX7_way_31 rfl (lv_at hl 4 rfl) ?_
      refine lv_aload_n hx hb dX7_way_32 rfl (lv_at hl 1 rfl) ?_
      refine gfX7_28 hC hP dX7_way_33 ?_
      refine lv_iload hx hb dX7_way_36 (lv_at hl 0 rfl) ?_
      obtain ⟨h11, hf⟩ := ck_some hf
      refine gIal hC hP 7 (by decide) (eM_7 cy ad _ _) h11 dX7_way_38 ?_
      refine lv_icmp_le (tgt := 46) hx hb dX7_way_39 (by decide) (fun c12 => ?_) (fun c12 => ?_)
      · have hf := it_t c12 hf
        refine lv_aload_n hx hb dX7_way_46 rfl (lv_at hl 1 rfl) ?_
        refine lv_aload_n hx hb dX7_way_47 rfl (lv_at hl 1 rfl) ?_
        refine gfX7_25 hC hP dX7_way_48 ?_
        refine lv_bipush (v := 37) hx hb dX7_way_51 (by decide) ?_
        refine lv_iload hx hb dX7_way_53 (lv_at hl 0 rfl) ?_
        refine lv_imul hx hb dX7_way_55 ?_
        refine lv_iload_n hx hb dX7_way_56 rfl (lv_at hl 4 rfl) ?_
        refine lv_iadd hx hb dX7_way_57 ?_
        obtain ⟨h13, hf⟩ := ck_some hf
        refine gIal hC hP 6 (by decide) (eM_6 cy ad _ _) h13 dX7_way_58 ?_
        obtain ⟨r15, x14, e16, hf⟩ := bd_some hf
        refine gVi (As := [.int (x6.1 6 (((37 : Int32) * b9) + a3).toNatClampNeg)]) (rest := []) (k := 0) hC hP hS (kX7_toldOf l D cy tX tY ad A hC.2.2.2.2.2.2.2.2.1 F x6 (x6.1 6 (((37 : Int32) * b9) + a3).toNatClampNeg) e16) glX7_167 ⟨rfl, rfl⟩ hdX7_toldOf ⟨Nat.le_of_ble_eq_true rfl, Nat.le_of_ble_eq_true rfl⟩ (by decide) (eM_0 cy ad _ _) rfl rfl hl.1 rfl (Nat.le_of_ble_eq_true rfl) dX7_way_59 ⟨Nat.zero_le _, Nat.zero_le _⟩ (fun H locs hP hS => ?_)
        exact gIret hC hP hS hf dX7_way_62
      · have hf := it_f c12 hf
        refine lv_iconst (v := -1) hx hb dX7_way_42 (by decide) ?_
        refine lv_goto (tgt := 62) hx hb dX7_way_43 (by decide) ?_
        exact gIret hC hP hS hf dX7_way_62
    · have hf := it_f c5 hf
      exact tX7_way_13 hC F x1 hf H locs ls hP hS (lv_sub hl [0] rfl)
set_option maxHeartbeats 4000000 in
set_option maxRecDepth 100000 in
theorem tX7_goalAt_13 (hC : Cf p s m args meth c cX7_goalAt 5 RX7 (some .int) D cy tX tY ad A 12) (F : Nat) {z : Int32 × HT} : ∀ (x : HT), fX7_goalAt_13 F x = some z → Wd p l e { frames := 6, cells := 0, slots := 0, locals := 144 } s m args below meth c D (eM cy ad) 12 ad A (cQi (eM cy ad) 12 ad D A z) 5 13 [(0, .ref (ad 0))] [] x := by
  intro x hf H locs ls hP hS hl
  obtain ⟨hx, hb, -⟩ := id hC
  refine lv_aload_n hx hb dX7_goalAt_13 rfl (lv_at hl 0 rfl) ?_
  refine lv_bipush (v := -2) hx hb dX7_goalAt_14 (by decide) ?_
  obtain ⟨r19, x18, e20, hf⟩ := bd_some hf
  refine gVi (As := [.int (-2 : Int32)]) (rest := []) (k := 0) hC hP hS (kX7_refuses l D cy tX tY ad A hC.2.2.2.2.2.2.2.2.1 F x (-2 : Int32) e20) glX7_47 ⟨rfl, rfl⟩ hdX7_refuses ⟨Nat.le_of_ble_eq_true rfl, Nat.le_of_ble_eq_true rfl⟩ (by decide) (eM_0 cy ad _ _) rfl rfl hl.1 rfl (Nat.le_of_ble_eq_true rfl) dX7_goalAt_16 ⟨Nat.zero_le _, Nat.zero_le _⟩ (fun H locs hP hS => ?_)
  exact gIret hC hP hS hf dX7_goalAt_19
set_option maxHeartbeats 4000000 in
set_option maxRecDepth 100000 in
theorem kX7_goalAt (l : Launch) (D : va_G) (cy : Nat → ClassId) (tX tY : Nat) (ad : Nat → Nat) (A : Nat → Prop) (hA : apart ad A 12) (F : Nat) (x : HT) (a1 : Int32) (a2 : Int32) (a3 : Int32) {z : Int32 × HT} (hf : fX7_goalAt F x a1 a2 a3 = some z) : Met l yX7_goalAt (Cond.code yX7_goalAt cX7_goalAt 5 (some .int) :: wAll) { frames := 6, cells := 0, slots := 0, locals := 144 } (cPc (eM cy ad) 12 ad D cy tX tY A [.ref (ad 0), .int a1, .int a2, .int a3] x) (cQi (eM cy ad) 12 ad D A z) 0 0 A := by
  refine gMet hA (by decide) (Nat.le_of_ble_eq_true rfl) (fun p e s m below meth c hC H locs ls hP hS hl => ?_)
  have hC : Cf p s m _ meth c cX7_goalAt 5 RX7 (some .int) D cy tX tY ad A 12 := hC
  have hl : lv_has ls 5 [(0, .ref (ad 0)), (1, .int a1), (2, .int a2), (3, .int a3)] := hl
  obtain ⟨hx, hb, -⟩ := id hC
  refine lv_aload_n hx hb dX7_goalAt_0 rfl (lv_at hl 0 rfl) ?_
  refine lv_iload_n hx hb dX7_goalAt_1 rfl (lv_at hl 1 rfl) ?_
  refine lv_iload_n hx hb dX7_goalAt_2 rfl (lv_at hl 2 rfl) ?_
  obtain ⟨r2, x1, e3, hf⟩ := bd_some hf
  refine gVi (As := [.int a1, .int a2]) (rest := []) (k := 0) hC hP hS (kX7_isWorm l D cy tX tY ad A hC.2.2.2.2.2.2.2.2.1 F x a1 a2 e3) glX7_182 ⟨rfl, rfl⟩ hdX7_isWorm ⟨Nat.le_of_ble_eq_true rfl, Nat.le_of_ble_eq_true rfl⟩ (by decide) (eM_0 cy ad _ _) rfl rfl hl.1 rfl (Nat.le_of_ble_eq_true rfl) dX7_goalAt_3 ⟨Nat.zero_le _, Nat.zero_le _⟩ (fun H locs hP hS => ?_)
  refine lv_if_eq (tgt := 13) hx hb dX7_goalAt_6 (by decide) (fun c4 => ?_) (fun c4 => ?_)
  · have hf := it_t c4 hf
    exact tX7_goalAt_13 hC F x1 hf H locs ls hP hS (lv_sub hl [0] rfl)
  · have hf := it_f c4 hf
    refine lv_iload_n hx hb dX7_goalAt_9 rfl (lv_at hl 3 rfl) ?_
    refine lv_if_ge (tgt := 20) hx hb dX7_goalAt_10 (by decide) (fun c5 => ?_) (fun c5 => ?_)
    · have hf := it_t c5 hf
      refine lv_aload_n hx hb dX7_goalAt_20 rfl (lv_at hl 0 rfl) ?_
      obtain ⟨r7, x6, e8, hf⟩ := bd_some hf
      refine gVv (As := []) (rest := []) (k := 0) hC hP hS (kX7_laysWays l D cy tX tY ad A hC.2.2.2.2.2.2.2.2.1 F x1 e8) glX7_129 ⟨rfl, rfl⟩ hdX7_laysWays ⟨Nat.le_of_ble_eq_true rfl, Nat.le_of_ble_eq_true rfl⟩ (by decide) (eM_0 cy ad _ _) rfl rfl hl.1 rfl (Nat.le_of_ble_eq_true rfl) dX7_goalAt_21 ⟨Nat.zero_le _, Nat.zero_le _⟩ (fun H locs hP hS => ?_)
      refine lv_iconst (v := 2) hx hb dX7_goalAt_24 (by decide) ?_
      refine lv_iload_n hx hb dX7_goalAt_25 rfl (lv_at hl 1 rfl) ?_
      refine lv_imul hx hb dX7_goalAt_26 ?_
      refine lv_iload_n hx hb dX7_goalAt_27 rfl (lv_at hl 2 rfl) ?_
      refine lv_iadd hx hb dX7_goalAt_28 ?_
      refine lv_topi (fun b9 e10 => ?_)
      have hf := lt_use e10 hf
      refine lv_istore (lv' := [(4, .int b9), (0, .ref (ad 0)), (1, .int a1), (2, .int a2), (3, .int a3)]) hx hb dX7_goalAt_29 hl (by decide) rfl (fun ls hl => ?_)
      refine lv_iload_n hx hb dX7_goalAt_31 rfl (lv_at hl 4 rfl) ?_
      refine lv_aload_n hx hb dX7_goalAt_32 rfl (lv_at hl 1 rfl) ?_
      refine gfX7_31 hC hP dX7_goalAt_33 ?_
      refine lv_iload hx hb dX7_goalAt_36 (lv_at hl 0 rfl) ?_
      obtain ⟨h11, hf⟩ := ck_some hf
      refine gIal hC hP 8 (by decide) (eM_8 cy ad _ _) h11 dX7_goalAt_38 ?_
      refine lv_icmp_lt (tgt := 46) hx hb dX7_goalAt_39 (by decide) (fun c12 => ?_) (fun c12 => ?_)
      · have hf := it_t c12 hf
        refine lv_aload_n hx hb dX7_goalAt_46 rfl (lv_at hl 1 rfl) ?_
        refine lv_aload_n hx hb dX7_goalAt_47 rfl (lv_at hl 1 rfl) ?_
        refine gfX7_25 hC hP dX7_goalAt_48 ?_
        refine lv_bipush (v := 37) hx hb dX7_goalAt_51 (by decide) ?_
        refine lv_iload hx hb dX7_goalAt_53 (lv_at hl 0 rfl) ?_
        refine lv_imul hx hb dX7_goalAt_55 ?_
        refine lv_aload_n hx hb dX7_goalAt_56 rfl (lv_at hl 1 rfl) ?_
        refine gfX7_34 hC hP dX7_goalAt_57 ?_
        refine lv_bipush (v := 36) hx hb dX7_goalAt_60 (by decide) ?_
        refine lv_iload hx hb dX7_goalAt_62 (lv_at hl 0 rfl) ?_
        refine lv_imul hx hb dX7_goalAt_64 ?_
        refine lv_iload_n hx hb dX7_goalAt_65 rfl (lv_at hl 4 rfl) ?_
        refine lv_iadd hx hb dX7_goalAt_66 ?_
        obtain ⟨h13, hf⟩ := ck_some hf
        refine gIal hC hP 9 (by decide) (eM_9 cy ad _ _) h13 dX7_goalAt_67 ?_
        refine lv_iadd hx hb dX7_goalAt_68 ?_
        obtain ⟨h14, hf⟩ := ck_some hf
        refine gIal hC hP 6 (by decide) (eM_6 cy ad _ _) h14 dX7_goalAt_69 ?_
        obtain ⟨r16, x15, e17, hf⟩ := bd_some hf
        refine gVi (As := [.int (x6.1 6 (((37 : Int32) * b9) + (x6.1 9 (((36 : Int32) * b9) + a3).toNatClampNeg)).toNatClampNeg)]) (rest := []) (k := 0) hC hP hS (kX7_toldOf l D cy tX tY ad A hC.2.2.2.2.2.2.2.2.1 F x6 (x6.1 6 (((37 : Int32) * b9) + (x6.1 9 (((36 : Int32) * b9) + a3).toNatClampNeg)).toNatClampNeg) e17) glX7_167 ⟨rfl, rfl⟩ hdX7_toldOf ⟨Nat.le_of_ble_eq_true rfl, Nat.le_of_ble_eq_true rfl⟩ (by decide) (eM_0 cy ad _ _) rfl rfl hl.1 rfl (Nat.le_of_ble_eq_true rfl) dX7_goalAt_70 ⟨Nat.zero_le _, Nat.zero_le _⟩ (fun H locs hP hS => ?_)
        exact gIret hC hP hS hf dX7_goalAt_73
      · have hf := it_f c12 hf
        refine lv_iconst (v := -1) hx hb dX7_goalAt_42 (by decide) ?_
        refine lv_goto (tgt := 73) hx hb dX7_goalAt_43 (by decide) ?_
        exact gIret hC hP hS hf dX7_goalAt_73
    · have hf := it_f c5 hf
      exact tX7_goalAt_13 hC F x1 hf H locs ls hP hS (lv_sub hl [0] rfl)
set_option maxHeartbeats 4000000 in
set_option maxRecDepth 100000 in
theorem tX7_messageTold_125 (hC : Cf p s m args meth c cX7_messageTold 6 RX7 (some .int) D cy tX tY ad A 12) (F : Nat) {z : Int32 × HT} (rec95 : HT → Int32 → Int32 → Int32 → Int32 → Option (Int32 × HT)) (hrec95 : ∀ (x : HT) (a1 : Int32) (a3 : Int32) (a4 : Int32) (a5 : Int32), rec95 x a1 a3 a4 a5 = some z → Wd p l e { frames := 5, cells := 0, slots := 0, locals := 119 } s m args below meth c D (eM cy ad) 12 ad A (cQi (eM cy ad) 12 ad D A z) 6 95 [(0, .ref (ad 0)), (1, .int a1), (3, .int a3), (4, .int a4), (5, .int a5)] [] x) : ∀ (x : HT) (a1 : Int32) (a3 : Int32) (a5 : Int32) (t0 : Int32) (t1 : Int32), fX7_messageTold_125 F rec95 x a1 a3 a5 t0 t1 = some z → Wd p l e { frames := 5, cells := 0, slots := 0, locals := 119 } s m args below meth c D (eM cy ad) 12 ad A (cQi (eM cy ad) 12 ad D A z) 6 125 [(0, .ref (ad 0)), (1, .int a1), (3, .int a3), (5, .int a5)] [.int t1, .int t0] x := by
  intro x a1 a3 a5 t0 t1 hf H locs ls hP hS hl
  obtain ⟨hx, hb, -⟩ := id hC
  refine lv_iadd hx hb dX7_messageTold_125 ?_
  refine lv_topi (fun b31 e32 => ?_)
  have hf := lt_use e32 hf
  refine lv_istore (lv' := [(4, .int b31), (0, .ref (ad 0)), (1, .int a1), (3, .int a3), (5, .int a5)]) hx hb dX7_messageTold_126 hl (by decide) rfl (fun ls hl => ?_)
  obtain ⟨b33, e34, hf⟩ := lt_some hf
  refine lv_iinc (v := b33) (lv' := [(5, .int b33), (4, .int b31), (0, .ref (ad 0)), (1, .int a1), (3, .int a3)]) hx hb dX7_messageTold_128 hl (k := 4) rfl (by rw [e34]; rfl) (by decide) rfl (fun ls hl => ?_)
  refine lv_goto (tgt := 95) hx hb dX7_messageTold_131 (by decide) ?_
  exact hrec95 x a1 a3 b31 b33 hf H locs ls hP hS (lv_sub hl [2, 3, 4, 1, 0] rfl)
set_option maxHeartbeats 4000000 in
set_option maxRecDepth 100000 in
theorem tX7_messageTold_95b (hC : Cf p s m args meth c cX7_messageTold 6 RX7 (some .int) D cy tX tY ad A 12) (F : Nat) {z : Int32 × HT} (rec95 : HT → Int32 → Int32 → Int32 → Int32 → Option (Int32 × HT)) (hrec95 : ∀ (x : HT) (a1 : Int32) (a3 : Int32) (a4 : Int32) (a5 : Int32), rec95 x a1 a3 a4 a5 = some z → Wd p l e { frames := 5, cells := 0, slots := 0, locals := 119 } s m args below meth c D (eM cy ad) 12 ad A (cQi (eM cy ad) 12 ad D A z) 6 95 [(0, .ref (ad 0)), (1, .int a1), (3, .int a3), (4, .int a4), (5, .int a5)] [] x) : ∀ (x : HT) (a1 : Int32) (a3 : Int32) (a4 : Int32) (a5 : Int32), fX7_messageTold_95b F rec95 x a1 a3 a4 a5 = some z → Wd p l e { frames := 5, cells := 0, slots := 0, locals := 119 } s m args below meth c D (eM cy ad) 12 ad A (cQi (eM cy ad) 12 ad D A z) 6 95 [(0, .ref (ad 0)), (1, .int a1), (3, .int a3), (4, .int a4), (5, .int a5)] [] x := by
  intro x a1 a3 a4 a5 hf H locs ls hP hS hl
  obtain ⟨hx, hb, -⟩ := id hC
  refine lv_iload hx hb dX7_messageTold_95 (lv_at hl 4 rfl) ?_
  refine lv_bipush (v := 36) hx hb dX7_messageTold_97 (by decide) ?_
  refine lv_icmp_ge (tgt := 134) hx hb dX7_messageTold_99 (by decide) (fun c23 => ?_) (fun c23 => ?_)
  · have hf := it_t c23 hf
    refine lv_iload hx hb dX7_messageTold_134 (lv_at hl 3 rfl) ?_
    exact gIret hC hP hS hf dX7_messageTold_136
  · have hf := it_f c23 hf
    refine lv_iload hx hb dX7_messageTold_102 (lv_at hl 3 rfl) ?_
    refine lv_aload_n hx hb dX7_messageTold_104 rfl (lv_at hl 0 rfl) ?_
    refine lv_iload_n hx hb dX7_messageTold_105 rfl (lv_at hl 1 rfl) ?_
    refine lv_iload hx hb dX7_messageTold_106 (lv_at hl 4 rfl) ?_
    obtain ⟨r25, x24, e26, hf⟩ := bd_some hf
    refine gVi (As := [.int a1, .int a5]) (rest := [.int a4]) (k := 0) hC hP hS (kX7_isGoal l D cy tX tY ad A hC.2.2.2.2.2.2.2.2.1 F x a1 a5 e26) glX7_81 ⟨rfl, rfl⟩ hdX7_isGoal ⟨Nat.le_of_ble_eq_true rfl, Nat.le_of_ble_eq_true rfl⟩ (by decide) (eM_0 cy ad _ _) rfl rfl hl.1 rfl (Nat.le_of_ble_eq_true rfl) dX7_messageTold_108 ⟨Nat.zero_le _, Nat.zero_le _⟩ (fun H locs hP hS => ?_)
    refine lv_if_eq (tgt := 124) hx hb dX7_messageTold_111 (by decide) (fun c27 => ?_) (fun c27 => ?_)
    · have hf := it_t c27 hf
      refine lv_iconst (v := 0) hx hb dX7_messageTold_124 (by decide) ?_
      exact tX7_messageTold_125 hC F rec95 hrec95 x24 a1 a3 a5 a4 (0 : Int32) hf H locs ls hP hS (lv_sub hl [0, 1, 2, 4] rfl)
    · have hf := it_f c27 hf
      refine lv_aload_n hx hb dX7_messageTold_114 rfl (lv_at hl 0 rfl) ?_
      refine lv_iload_n hx hb dX7_messageTold_115 rfl (lv_at hl 2 rfl) ?_
      refine lv_iload hx hb dX7_messageTold_116 (lv_at hl 4 rfl) ?_
      obtain ⟨r29, x28, e30, hf⟩ := bd_some hf
      refine gVi (As := [.int a3, .int a5]) (rest := [.int a4]) (k := 0) hC hP hS (kX7_farOf l D cy tX tY ad A hC.2.2.2.2.2.2.2.2.1 F x24 a3 a5 e30) glX7_170 ⟨rfl, rfl⟩ hdX7_farOf ⟨Nat.le_of_ble_eq_true rfl, Nat.le_of_ble_eq_true rfl⟩ (by decide) (eM_0 cy ad _ _) rfl rfl hl.1 rfl (Nat.le_of_ble_eq_true rfl) dX7_messageTold_118 ⟨Nat.zero_le _, Nat.zero_le _⟩ (fun H locs hP hS => ?_)
      refine lv_goto (tgt := 125) hx hb dX7_messageTold_121 (by decide) ?_
      exact tX7_messageTold_125 hC F rec95 hrec95 x28 a1 a3 a5 a4 r29 hf H locs ls hP hS (lv_sub hl [0, 1, 2, 4] rfl)
theorem tX7_messageTold_95 (hC : Cf p s m args meth c cX7_messageTold 6 RX7 (some .int) D cy tX tY ad A 12) (F : Nat) {z : Int32 × HT} : ∀ (n9 : Nat) (x : HT) (a1 : Int32) (a3 : Int32) (a4 : Int32) (a5 : Int32), fX7_messageTold_95 F n9 x a1 a3 a4 a5 = some z → Wd p l e { frames := 5, cells := 0, slots := 0, locals := 119 } s m args below meth c D (eM cy ad) 12 ad A (cQi (eM cy ad) 12 ad D A z) 6 95 [(0, .ref (ad 0)), (1, .int a1), (3, .int a3), (4, .int a4), (5, .int a5)] [] x := by
  intro n9
  induction n9 with
  | zero => intro x a1 a3 a4 a5 hf; cases hf
  | succ n9 ih => intro x a1 a3 a4 a5 hf; exact tX7_messageTold_95b hC F (fX7_messageTold_95 F n9) ih x a1 a3 a4 a5 hf
set_option maxHeartbeats 4000000 in
set_option maxRecDepth 100000 in
theorem kX7_messageTold (l : Launch) (D : va_G) (cy : Nat → ClassId) (tX tY : Nat) (ad : Nat → Nat) (A : Nat → Prop) (hA : apart ad A 12) (F : Nat) (x : HT) (a1 : Int32) (a2 : Int32) {z : Int32 × HT} (hf : fX7_messageTold F x a1 a2 = some z) : Met l yX7_messageTold (Cond.code yX7_messageTold cX7_messageTold 6 (some .int) :: wAll) { frames := 5, cells := 0, slots := 0, locals := 119 } (cPc (eM cy ad) 12 ad D cy tX tY A [.ref (ad 0), .int a1, .int a2] x) (cQi (eM cy ad) 12 ad D A z) 0 0 A := by
  refine gMet hA (by decide) (Nat.le_of_ble_eq_true rfl) (fun p e s m below meth c hC H locs ls hP hS hl => ?_)
  have hC : Cf p s m _ meth c cX7_messageTold 6 RX7 (some .int) D cy tX tY ad A 12 := hC
  have hl : lv_has ls 6 [(0, .ref (ad 0)), (1, .int a1), (2, .int a2)] := hl
  obtain ⟨hx, hb, -⟩ := id hC
  refine lv_aload_n hx hb dX7_messageTold_0 rfl (lv_at hl 0 rfl) ?_
  refine lv_iload_n hx hb dX7_messageTold_1 rfl (lv_at hl 1 rfl) ?_
  refine lv_iconst (v := 0) hx hb dX7_messageTold_2 (by decide) ?_
  obtain ⟨r2, x1, e3, hf⟩ := bd_some hf
  refine gVi (As := [.int a1, .int (0 : Int32)]) (rest := []) (k := 0) hC hP hS (kX7_of0 l D cy tX tY ad A hC.2.2.2.2.2.2.2.2.1 F x a1 (0 : Int32) e3) glX7_78 ⟨rfl, rfl⟩ hdX7_of0 ⟨Nat.le_of_ble_eq_true rfl, Nat.le_of_ble_eq_true rfl⟩ (by decide) (eM_0 cy ad _ _) rfl rfl hl.1 rfl (Nat.le_of_ble_eq_true rfl) dX7_messageTold_3 ⟨Nat.zero_le _, Nat.zero_le _⟩ (fun H locs hP hS => ?_)
  refine lv_istore_n (lv' := [(3, .int r2), (0, .ref (ad 0)), (1, .int a1), (2, .int a2)]) hx hb dX7_messageTold_6 rfl hl (by decide) rfl (fun ls hl => ?_)
  refine lv_iload_n hx hb dX7_messageTold_7 rfl (lv_at hl 3 rfl) ?_
  by_cases c4 : a2 = (0 : Int32)
  · have hf := it_t c4 hf
    refine lv_tableIn (tgt := 44) (off := 36) hx hb dX7_messageTold_8 (by rw [c4]; decide) (by rw [c4]; decide) (by rw [c4]; decide) (by decide) ?_
    refine lv_aload_n hx hb dX7_messageTold_44 rfl (lv_at hl 1 rfl) ?_
    refine lv_iload_n hx hb dX7_messageTold_45 rfl (lv_at hl 0 rfl) ?_
    obtain ⟨r6, x5, e7, hf⟩ := bd_some hf
    refine gVi (As := [.int r2]) (rest := []) (k := 0) hC hP hS (kX7_xOf l D cy tX tY ad A hC.2.2.2.2.2.2.2.2.1 F x1 r2 e7) glX7_58 ⟨rfl, rfl⟩ hdX7_xOf ⟨Nat.le_of_ble_eq_true rfl, Nat.le_of_ble_eq_true rfl⟩ (by decide) (eM_0 cy ad _ _) rfl rfl hl.1 rfl (Nat.le_of_ble_eq_true rfl) dX7_messageTold_46 ⟨Nat.zero_le _, Nat.zero_le _⟩ (fun H locs hP hS => ?_)
    exact gIret hC hP hS hf dX7_messageTold_49
  have hf := it_f c4 hf
  by_cases c8 : a2 = (1 : Int32)
  · have hf := it_t c8 hf
    refine lv_tableIn (tgt := 50) (off := 42) hx hb dX7_messageTold_8 (by rw [c8]; decide) (by rw [c8]; decide) (by rw [c8]; decide) (by decide) ?_
    refine lv_aload_n hx hb dX7_messageTold_50 rfl (lv_at hl 1 rfl) ?_
    refine lv_iload_n hx hb dX7_messageTold_51 rfl (lv_at hl 0 rfl) ?_
    obtain ⟨r10, x9, e11, hf⟩ := bd_some hf
    refine gVi (As := [.int r2]) (rest := []) (k := 0) hC hP hS (kX7_yOf l D cy tX tY ad A hC.2.2.2.2.2.2.2.2.1 F x1 r2 e11) glX7_61 ⟨rfl, rfl⟩ hdX7_yOf ⟨Nat.le_of_ble_eq_true rfl, Nat.le_of_ble_eq_true rfl⟩ (by decide) (eM_0 cy ad _ _) rfl rfl hl.1 rfl (Nat.le_of_ble_eq_true rfl) dX7_messageTold_52 ⟨Nat.zero_le _, Nat.zero_le _⟩ (fun H locs hP hS => ?_)
    exact gIret hC hP hS hf dX7_messageTold_55
  have hf := it_f c8 hf
  by_cases c12 : a2 = (2 : Int32)
  · have hf := it_t c12 hf
    refine lv_tableIn (tgt := 56) (off := 48) hx hb dX7_messageTold_8 (by rw [c12]; decide) (by rw [c12]; decide) (by rw [c12]; decide) (by decide) ?_
    refine lv_aload_n hx hb dX7_messageTold_56 rfl (lv_at hl 1 rfl) ?_
    refine lv_iload_n hx hb dX7_messageTold_57 rfl (lv_at hl 2 rfl) ?_
    refine lv_iconst (v := 1) hx hb dX7_messageTold_58 (by decide) ?_
    obtain ⟨r14, x13, e15, hf⟩ := bd_some hf
    refine gVi (As := [.int a1, .int (1 : Int32)]) (rest := []) (k := 0) hC hP hS (kX7_of0 l D cy tX tY ad A hC.2.2.2.2.2.2.2.2.1 F x1 a1 (1 : Int32) e15) glX7_78 ⟨rfl, rfl⟩ hdX7_of0 ⟨Nat.le_of_ble_eq_true rfl, Nat.le_of_ble_eq_true rfl⟩ (by decide) (eM_0 cy ad _ _) rfl rfl hl.1 rfl (Nat.le_of_ble_eq_true rfl) dX7_messageTold_59 ⟨Nat.zero_le _, Nat.zero_le _⟩ (fun H locs hP hS => ?_)
    exact gIret hC hP hS hf dX7_messageTold_62
  have hf := it_f c12 hf
  by_cases c16 : a2 = (3 : Int32)
  · have hf := it_t c16 hf
    refine lv_tableIn (tgt := 63) (off := 55) hx hb dX7_messageTold_8 (by rw [c16]; decide) (by rw [c16]; decide) (by rw [c16]; decide) (by decide) ?_
    refine lv_aload_n hx hb dX7_messageTold_63 rfl (lv_at hl 1 rfl) ?_
    refine lv_iload_n hx hb dX7_messageTold_64 rfl (lv_at hl 2 rfl) ?_
    obtain ⟨r18, x17, e19, hf⟩ := bd_some hf
    refine gVi (As := [.int a1]) (rest := []) (k := 0) hC hP hS (kX7_goalsOf l D cy tX tY ad A hC.2.2.2.2.2.2.2.2.1 F x1 a1 e19) glX7_123 ⟨rfl, rfl⟩ hdX7_goalsOf ⟨Nat.le_of_ble_eq_true rfl, Nat.le_of_ble_eq_true rfl⟩ (by decide) (eM_0 cy ad _ _) rfl rfl hl.1 rfl (Nat.le_of_ble_eq_true rfl) dX7_messageTold_65 ⟨Nat.zero_le _, Nat.zero_le _⟩ (fun H locs hP hS => ?_)
    exact gIret hC hP hS hf dX7_messageTold_68
  have hf := it_f c16 hf
  by_cases c20 : a2 = (4 : Int32)
  · have hf := it_t c20 hf
    refine lv_tableIn (tgt := 69) (off := 61) hx hb dX7_messageTold_8 (by rw [c20]; decide) (by rw [c20]; decide) (by rw [c20]; decide) (by decide) ?_
    refine lv_aload_n hx hb dX7_messageTold_69 rfl (lv_at hl 1 rfl) ?_
    refine gfX7_28 hC hP dX7_messageTold_70 ?_
    refine lv_iconst (v := 2) hx hb dX7_messageTold_73 (by decide) ?_
    refine lv_iload_n hx hb dX7_messageTold_74 rfl (lv_at hl 2 rfl) ?_
    refine lv_imul hx hb dX7_messageTold_75 ?_
    obtain ⟨h21, hf⟩ := ck_some hf
    refine gIal hC hP 7 (by decide) (eM_7 cy ad _ _) h21 dX7_messageTold_76 ?_
    refine lv_aload_n hx hb dX7_messageTold_77 rfl (lv_at hl 1 rfl) ?_
    refine gfX7_28 hC hP dX7_messageTold_78 ?_
    refine lv_iconst (v := 2) hx hb dX7_messageTold_81 (by decide) ?_
    refine lv_iload_n hx hb dX7_messageTold_82 rfl (lv_at hl 2 rfl) ?_
    refine lv_imul hx hb dX7_messageTold_83 ?_
    refine lv_iconst (v := 1) hx hb dX7_messageTold_84 (by decide) ?_
    refine lv_iadd hx hb dX7_messageTold_85 ?_
    obtain ⟨h22, hf⟩ := ck_some hf
    refine gIal hC hP 7 (by decide) (eM_7 cy ad _ _) h22 dX7_messageTold_86 ?_
    refine lv_iadd hx hb dX7_messageTold_87 ?_
    exact gIret hC hP hS hf dX7_messageTold_88
  have hf := it_f c20 hf
  refine lv_tableOut (tgt := 89) hx hb dX7_messageTold_8 (by have n0 := lv_neT c4 (a := 0) (by decide); have n1 := lv_neT c8 (a := 1) (by decide); have n2 := lv_neT c12 (a := 2) (by decide); have n3 := lv_neT c16 (a := 3) (by decide); have n4 := lv_neT c20 (a := 4) (by decide); omega) (by decide) ?_
  refine lv_iconst (v := 0) hx hb dX7_messageTold_89 (by decide) ?_
  refine lv_istore (lv' := [(4, .int (0 : Int32)), (3, .int r2), (0, .ref (ad 0)), (1, .int a1), (2, .int a2)]) hx hb dX7_messageTold_90 hl (by decide) rfl (fun ls hl => ?_)
  refine lv_iconst (v := 0) hx hb dX7_messageTold_92 (by decide) ?_
  refine lv_istore (lv' := [(5, .int (0 : Int32)), (4, .int (0 : Int32)), (3, .int r2), (0, .ref (ad 0)), (1, .int a1), (2, .int a2)]) hx hb dX7_messageTold_93 hl (by decide) rfl (fun ls hl => ?_)
  exact tX7_messageTold_95 hC F F x1 a1 r2 (0 : Int32) (0 : Int32) hf H locs ls hP hS (lv_sub hl [3, 4, 2, 1, 0] rfl)
set_option maxHeartbeats 4000000 in
set_option maxRecDepth 100000 in
theorem tX7_of_17 (hC : Cf p s m args meth c cX7_of 3 RX7 (some .int) D cy tX tY ad A 12) (F : Nat) {z : Int32 × HT} : ∀ (x : HT), fX7_of_17 F x = some z → Wd p l e { frames := 6, cells := 0, slots := 0, locals := 144 } s m args below meth c D (eM cy ad) 12 ad A (cQi (eM cy ad) 12 ad D A z) 3 17 [(0, .ref (ad 0))] [] x := by
  intro x hf H locs ls hP hS hl
  obtain ⟨hx, hb, -⟩ := id hC
  refine lv_aload_n hx hb dX7_of_17 rfl (lv_at hl 0 rfl) ?_
  refine lv_bipush (v := -2) hx hb dX7_of_18 (by decide) ?_
  obtain ⟨r16, x15, e17, hf⟩ := bd_some hf
  refine gVi (As := [.int (-2 : Int32)]) (rest := []) (k := 0) hC hP hS (kX7_refuses l D cy tX tY ad A hC.2.2.2.2.2.2.2.2.1 F x (-2 : Int32) e17) glX7_47 ⟨rfl, rfl⟩ hdX7_refuses ⟨Nat.le_of_ble_eq_true rfl, Nat.le_of_ble_eq_true rfl⟩ (by decide) (eM_0 cy ad _ _) rfl rfl hl.1 rfl (Nat.le_of_ble_eq_true rfl) dX7_of_20 ⟨Nat.zero_le _, Nat.zero_le _⟩ (fun H locs hP hS => ?_)
  exact gIret hC hP hS hf dX7_of_23
set_option maxHeartbeats 4000000 in
set_option maxRecDepth 100000 in
theorem kX7_of (l : Launch) (D : va_G) (cy : Nat → ClassId) (tX tY : Nat) (ad : Nat → Nat) (A : Nat → Prop) (hA : apart ad A 12) (F : Nat) (x : HT) (a1 : Int32) (a2 : Int32) {z : Int32 × HT} (hf : fX7_of F x a1 a2 = some z) : Met l yX7_of (Cond.code yX7_of cX7_of 3 (some .int) :: wAll) { frames := 6, cells := 0, slots := 0, locals := 144 } (cPc (eM cy ad) 12 ad D cy tX tY A [.ref (ad 0), .int a1, .int a2] x) (cQi (eM cy ad) 12 ad D A z) 0 0 A := by
  refine gMet hA (by decide) (Nat.le_of_ble_eq_true rfl) (fun p e s m below meth c hC H locs ls hP hS hl => ?_)
  have hC : Cf p s m _ meth c cX7_of 3 RX7 (some .int) D cy tX tY ad A 12 := hC
  have hl : lv_has ls 3 [(0, .ref (ad 0)), (1, .int a1), (2, .int a2)] := hl
  obtain ⟨hx, hb, -⟩ := id hC
  refine lv_aload_n hx hb dX7_of_0 rfl (lv_at hl 0 rfl) ?_
  refine lv_iload_n hx hb dX7_of_1 rfl (lv_at hl 1 rfl) ?_
  obtain ⟨r2, x1, e3, hf⟩ := bd_some hf
  refine gVi (As := [.int a1]) (rest := []) (k := 0) hC hP hS (kX7_isMessage l D cy tX tY ad A hC.2.2.2.2.2.2.2.2.1 F x a1 e3) glX7_120 ⟨rfl, rfl⟩ hdX7_isMessage ⟨Nat.le_of_ble_eq_true rfl, Nat.le_of_ble_eq_true rfl⟩ (by decide) (eM_0 cy ad _ _) rfl rfl hl.1 rfl (Nat.le_of_ble_eq_true rfl) dX7_of_2 ⟨Nat.zero_le _, Nat.zero_le _⟩ (fun H locs hP hS => ?_)
  refine lv_if_eq (tgt := 17) hx hb dX7_of_5 (by decide) (fun c4 => ?_) (fun c4 => ?_)
  · have hf := it_t c4 hf
    exact tX7_of_17 hC F x1 hf H locs ls hP hS (lv_sub hl [0] rfl)
  · have hf := it_f c4 hf
    refine lv_iload_n hx hb dX7_of_8 rfl (lv_at hl 2 rfl) ?_
    refine lv_iconst (v := 0) hx hb dX7_of_9 (by decide) ?_
    refine lv_iconst (v := 5) hx hb dX7_of_10 (by decide) ?_
    obtain ⟨r6, x5, e7, hf⟩ := bd_some hf
    refine gSi (As := [.int a2, .int (0 : Int32), .int (5 : Int32)]) (rest := []) hC hP hS (kX7_in l D cy tX tY ad A hC.2.2.2.2.2.2.2.2.1 F x1 a2 (0 : Int32) (5 : Int32) e7) glX7_54 ⟨rfl, rfl⟩ hdX7_in ⟨Nat.le_of_ble_eq_true rfl, Nat.le_of_ble_eq_true rfl⟩ rfl hl.1 rfl (Nat.le_of_ble_eq_true rfl) dX7_of_11 ⟨Nat.zero_le _, Nat.zero_le _⟩ (fun H locs hP hS => ?_)
    refine lv_if_ne (tgt := 24) hx hb dX7_of_14 (by decide) (fun c8 => ?_) (fun c8 => ?_)
    · have hf := it_f c8 hf
      refine lv_aload_n hx hb dX7_of_24 rfl (lv_at hl 0 rfl) ?_
      obtain ⟨r10, x9, e11, hf⟩ := bd_some hf
      refine gVv (As := []) (rest := []) (k := 0) hC hP hS (kX7_laysWays l D cy tX tY ad A hC.2.2.2.2.2.2.2.2.1 F x5 e11) glX7_129 ⟨rfl, rfl⟩ hdX7_laysWays ⟨Nat.le_of_ble_eq_true rfl, Nat.le_of_ble_eq_true rfl⟩ (by decide) (eM_0 cy ad _ _) rfl rfl hl.1 rfl (Nat.le_of_ble_eq_true rfl) dX7_of_25 ⟨Nat.zero_le _, Nat.zero_le _⟩ (fun H locs hP hS => ?_)
      refine lv_aload_n hx hb dX7_of_28 rfl (lv_at hl 0 rfl) ?_
      refine lv_iload_n hx hb dX7_of_29 rfl (lv_at hl 1 rfl) ?_
      refine lv_iload_n hx hb dX7_of_30 rfl (lv_at hl 2 rfl) ?_
      obtain ⟨r13, x12, e14, hf⟩ := bd_some hf
      refine gVi (As := [.int a1, .int a2]) (rest := []) (k := 0) hC hP hS (kX7_messageTold l D cy tX tY ad A hC.2.2.2.2.2.2.2.2.1 F x9 a1 a2 e14) glX7_188 ⟨rfl, rfl⟩ hdX7_messageTold ⟨Nat.le_of_ble_eq_true rfl, Nat.le_of_ble_eq_true rfl⟩ (by decide) (eM_0 cy ad _ _) rfl rfl hl.1 rfl (Nat.le_of_ble_eq_true rfl) dX7_of_31 ⟨Nat.zero_le _, Nat.zero_le _⟩ (fun H locs hP hS => ?_)
      exact gIret hC hP hS hf dX7_of_34
    · have hf := it_t c8 hf
      exact tX7_of_17 hC F x5 hf H locs ls hP hS (lv_sub hl [0] rfl)
set_option maxHeartbeats 4000000 in
set_option maxRecDepth 100000 in
theorem tX7_areDone_45 (hC : Cf p s m args meth c cX7_areDone 4 RX7 (some .boolean) D cy tX tY ad A 12) (F : Nat) {z : Int32 × HT} (rec4 : HT → Int32 → Int32 → Int32 → Option (Int32 × HT)) (hrec4 : ∀ (x : HT) (a1 : Int32) (a2 : Int32) (a3 : Int32), rec4 x a1 a2 a3 = some z → Wd p l e { frames := 3, cells := 0, slots := 0, locals := 64 } s m args below meth c D (eM cy ad) 12 ad A (cQi (eM cy ad) 12 ad D A z) 4 4 [(0, .ref (ad 0)), (1, .int a1), (2, .int a2), (3, .int a3)] [] x) : ∀ (x : HT) (a1 : Int32) (a3 : Int32) (t0 : Int32), fX7_areDone_45 F rec4 x a1 a3 t0 = some z → Wd p l e { frames := 3, cells := 0, slots := 0, locals := 64 } s m args below meth c D (eM cy ad) 12 ad A (cQi (eM cy ad) 12 ad D A z) 4 45 [(0, .ref (ad 0)), (1, .int a1), (3, .int a3)] [.int t0] x := by
  intro x a1 a3 t0 hf H locs ls hP hS hl
  obtain ⟨hx, hb, -⟩ := id hC
  refine lv_istore_n (lv' := [(2, .int t0), (0, .ref (ad 0)), (1, .int a1), (3, .int a3)]) hx hb dX7_areDone_45 rfl hl (by decide) rfl (fun ls hl => ?_)
  obtain ⟨b7, e8, hf⟩ := lt_some hf
  refine lv_iinc (v := b7) (lv' := [(3, .int b7), (2, .int t0), (0, .ref (ad 0)), (1, .int a1)]) hx hb dX7_areDone_46 hl (k := 3) rfl (by rw [e8]; rfl) (by decide) rfl (fun ls hl => ?_)
  refine lv_goto (tgt := 4) hx hb dX7_areDone_49 (by decide) ?_
  exact hrec4 x a1 t0 b7 hf H locs ls hP hS (lv_sub hl [2, 3, 1, 0] rfl)
set_option maxHeartbeats 4000000 in
set_option maxRecDepth 100000 in
theorem tX7_areDone_44 (hC : Cf p s m args meth c cX7_areDone 4 RX7 (some .boolean) D cy tX tY ad A 12) (F : Nat) {z : Int32 × HT} (rec4 : HT → Int32 → Int32 → Int32 → Option (Int32 × HT)) (hrec4 : ∀ (x : HT) (a1 : Int32) (a2 : Int32) (a3 : Int32), rec4 x a1 a2 a3 = some z → Wd p l e { frames := 3, cells := 0, slots := 0, locals := 64 } s m args below meth c D (eM cy ad) 12 ad A (cQi (eM cy ad) 12 ad D A z) 4 4 [(0, .ref (ad 0)), (1, .int a1), (2, .int a2), (3, .int a3)] [] x) : ∀ (x : HT) (a1 : Int32) (a3 : Int32), fX7_areDone_44 F rec4 x a1 a3 = some z → Wd p l e { frames := 3, cells := 0, slots := 0, locals := 64 } s m args below meth c D (eM cy ad) 12 ad A (cQi (eM cy ad) 12 ad D A z) 4 44 [(0, .ref (ad 0)), (1, .int a1), (3, .int a3)] [] x := by
  intro x a1 a3 hf H locs ls hP hS hl
  obtain ⟨hx, hb, -⟩ := id hC
  refine lv_iconst (v := 0) hx hb dX7_areDone_44 (by decide) ?_
  exact tX7_areDone_45 hC F rec4 hrec4 x a1 a3 (0 : Int32) hf H locs ls hP hS (lv_sub hl [0, 1, 2] rfl)
set_option maxHeartbeats 4000000 in
set_option maxRecDepth 100000 in
theorem tX7_areDone_40 (hC : Cf p s m args meth c cX7_areDone 4 RX7 (some .boolean) D cy tX tY ad A 12) (F : Nat) {z : Int32 × HT} (rec4 : HT → Int32 → Int32 → Int32 → Option (Int32 × HT)) (hrec4 : ∀ (x : HT) (a1 : Int32) (a2 : Int32) (a3 : Int32), rec4 x a1 a2 a3 = some z → Wd p l e { frames := 3, cells := 0, slots := 0, locals := 64 } s m args below meth c D (eM cy ad) 12 ad A (cQi (eM cy ad) 12 ad D A z) 4 4 [(0, .ref (ad 0)), (1, .int a1), (2, .int a2), (3, .int a3)] [] x) : ∀ (x : HT) (a1 : Int32) (a3 : Int32), fX7_areDone_40 F rec4 x a1 a3 = some z → Wd p l e { frames := 3, cells := 0, slots := 0, locals := 64 } s m args below meth c D (eM cy ad) 12 ad A (cQi (eM cy ad) 12 ad D A z) 4 40 [(0, .ref (ad 0)), (1, .int a1), (3, .int a3)] [] x := by
  intro x a1 a3 hf H locs ls hP hS hl
  obtain ⟨hx, hb, -⟩ := id hC
  refine lv_iconst (v := 1) hx hb dX7_areDone_40 (by decide) ?_
  refine lv_goto (tgt := 45) hx hb dX7_areDone_41 (by decide) ?_
  exact tX7_areDone_45 hC F rec4 hrec4 x a1 a3 (1 : Int32) hf H locs ls hP hS (lv_sub hl [0, 1, 2] rfl)
set_option maxHeartbeats 4000000 in
set_option maxRecDepth 100000 in
theorem tX7_areDone_32 (hC : Cf p s m args meth c cX7_areDone 4 RX7 (some .boolean) D cy tX tY ad A 12) (F : Nat) {z : Int32 × HT} (rec4 : HT → Int32 → Int32 → Int32 → Option (Int32 × HT)) (hrec4 : ∀ (x : HT) (a1 : Int32) (a2 : Int32) (a3 : Int32), rec4 x a1 a2 a3 = some z → Wd p l e { frames := 3, cells := 0, slots := 0, locals := 64 } s m args below meth c D (eM cy ad) 12 ad A (cQi (eM cy ad) 12 ad D A z) 4 4 [(0, .ref (ad 0)), (1, .int a1), (2, .int a2), (3, .int a3)] [] x) : ∀ (x : HT) (a1 : Int32) (a3 : Int32), fX7_areDone_32 F rec4 x a1 a3 = some z → Wd p l e { frames := 3, cells := 0, slots := 0, locals := 64 } s m args below meth c D (eM cy ad) 12 ad A (cQi (eM cy ad) 12 ad D A z) 4 32 [(0, .ref (ad 0)), (1, .int a1), (3, .int a3)] [] x := by
  intro x a1 a3 hf H locs ls hP hS hl
  obtain ⟨hx, hb, -⟩ := id hC
  refine lv_aload_n hx hb dX7_areDone_32 rfl (lv_at hl 0 rfl) ?_
  refine lv_iload_n hx hb dX7_areDone_33 rfl (lv_at hl 2 rfl) ?_
  obtain ⟨r10, x9, e11, hf⟩ := bd_some hf
  refine gVi (As := [.int a3]) (rest := []) (k := 0) hC hP hS (kX7_isDone l D cy tX tY ad A hC.2.2.2.2.2.2.2.2.1 F x a3 e11) glX7_112 ⟨rfl, rfl⟩ hdX7_isDone ⟨Nat.le_of_ble_eq_true rfl, Nat.le_of_ble_eq_true rfl⟩ (by decide) (eM_0 cy ad _ _) rfl rfl hl.1 rfl (Nat.le_of_ble_eq_true rfl) dX7_areDone_34 ⟨Nat.zero_le _, Nat.zero_le _⟩ (fun H locs hP hS => ?_)
  refine lv_if_eq (tgt := 44) hx hb dX7_areDone_37 (by decide) (fun c12 => ?_) (fun c12 => ?_)
  · have hf := it_t c12 hf
    exact tX7_areDone_44 hC F rec4 hrec4 x9 a1 a3 hf H locs ls hP hS (lv_sub hl [0, 1, 2] rfl)
  · have hf := it_f c12 hf
    exact tX7_areDone_40 hC F rec4 hrec4 x9 a1 a3 hf H locs ls hP hS (lv_sub hl [0, 1, 2] rfl)
set_option maxHeartbeats 4000000 in
set_option maxRecDepth 100000 in
theorem tX7_areDone_4b (hC : Cf p s m args meth c cX7_areDone 4 RX7 (some .boolean) D cy tX tY ad A 12) (F : Nat) {z : Int32 × HT} (rec4 : HT → Int32 → Int32 → Int32 → Option (Int32 × HT)) (hrec4 : ∀ (x : HT) (a1 : Int32) (a2 : Int32) (a3 : Int32), rec4 x a1 a2 a3 = some z → Wd p l e { frames := 3, cells := 0, slots := 0, locals := 64 } s m args below meth c D (eM cy ad) 12 ad A (cQi (eM cy ad) 12 ad D A z) 4 4 [(0, .ref (ad 0)), (1, .int a1), (2, .int a2), (3, .int a3)] [] x) : ∀ (x : HT) (a1 : Int32) (a2 : Int32) (a3 : Int32), fX7_areDone_4b F rec4 x a1 a2 a3 = some z → Wd p l e { frames := 3, cells := 0, slots := 0, locals := 64 } s m args below meth c D (eM cy ad) 12 ad A (cQi (eM cy ad) 12 ad D A z) 4 4 [(0, .ref (ad 0)), (1, .int a1), (2, .int a2), (3, .int a3)] [] x := by
  intro x a1 a2 a3 hf H locs ls hP hS hl
  obtain ⟨hx, hb, -⟩ := id hC
  refine lv_iload_n hx hb dX7_areDone_4 rfl (lv_at hl 3 rfl) ?_
  refine lv_iconst (v := 2) hx hb dX7_areDone_5 (by decide) ?_
  refine lv_aload_n hx hb dX7_areDone_6 rfl (lv_at hl 0 rfl) ?_
  refine gfX7_7 hC hP dX7_areDone_7 ?_
  refine lv_iconst (v := 3) hx hb dX7_areDone_10 (by decide) ?_
  obtain ⟨h1, hf⟩ := ck_some hf
  refine gIal hC hP 1 (by decide) (eM_1 cy ad _ _) h1 dX7_areDone_11 ?_
  refine lv_imul hx hb dX7_areDone_12 ?_
  refine lv_icmp_ge (tgt := 52) hx hb dX7_areDone_13 (by decide) (fun c2 => ?_) (fun c2 => ?_)
  · have hf := it_t c2 hf
    refine lv_iload_n hx hb dX7_areDone_52 rfl (lv_at hl 2 rfl) ?_
    obtain ⟨h3, hf⟩ := ck_some hf
    exact gZret hC hP hS h3 hf dX7_areDone_53
  · have hf := it_f c2 hf
    refine lv_iload_n hx hb dX7_areDone_16 rfl (lv_at hl 2 rfl) ?_
    refine lv_if_eq (tgt := 44) hx hb dX7_areDone_17 (by decide) (fun c4 => ?_) (fun c4 => ?_)
    · have hf := it_t c4 hf
      exact tX7_areDone_44 hC F rec4 hrec4 x a1 a3 hf H locs ls hP hS (lv_sub hl [0, 1, 3] rfl)
    · have hf := it_f c4 hf
      refine lv_iload_n hx hb dX7_areDone_20 rfl (lv_at hl 1 rfl) ?_
      refine lv_iconst (v := -1) hx hb dX7_areDone_21 (by decide) ?_
      refine lv_icmp_eq (tgt := 32) hx hb dX7_areDone_22 (by decide) (fun c5 => ?_) (fun c5 => ?_)
      · have hf := it_t c5 hf
        exact tX7_areDone_32 hC F rec4 hrec4 x a1 a3 hf H locs ls hP hS (lv_sub hl [0, 1, 3] rfl)
      · have hf := it_f c5 hf
        refine lv_iload_n hx hb dX7_areDone_25 rfl (lv_at hl 3 rfl) ?_
        refine lv_iconst (v := 2) hx hb dX7_areDone_26 (by decide) ?_
        refine lv_idiv hx hb dX7_areDone_27 (by decide) ?_
        refine lv_iload_n hx hb dX7_areDone_28 rfl (lv_at hl 1 rfl) ?_
        refine lv_icmp_ne (tgt := 40) hx hb dX7_areDone_29 (by decide) (fun c6 => ?_) (fun c6 => ?_)
        · have hf := it_f c6 hf
          exact tX7_areDone_40 hC F rec4 hrec4 x a1 a3 hf H locs ls hP hS (lv_sub hl [0, 1, 3] rfl)
        · have hf := it_t c6 hf
          exact tX7_areDone_32 hC F rec4 hrec4 x a1 a3 hf H locs ls hP hS (lv_sub hl [0, 1, 3] rfl)
theorem tX7_areDone_4 (hC : Cf p s m args meth c cX7_areDone 4 RX7 (some .boolean) D cy tX tY ad A 12) (F : Nat) {z : Int32 × HT} : ∀ (n9 : Nat) (x : HT) (a1 : Int32) (a2 : Int32) (a3 : Int32), fX7_areDone_4 F n9 x a1 a2 a3 = some z → Wd p l e { frames := 3, cells := 0, slots := 0, locals := 64 } s m args below meth c D (eM cy ad) 12 ad A (cQi (eM cy ad) 12 ad D A z) 4 4 [(0, .ref (ad 0)), (1, .int a1), (2, .int a2), (3, .int a3)] [] x := by
  intro n9
  induction n9 with
  | zero => intro x a1 a2 a3 hf; cases hf
  | succ n9 ih => intro x a1 a2 a3 hf; exact tX7_areDone_4b hC F (fX7_areDone_4 F n9) ih x a1 a2 a3 hf
set_option maxHeartbeats 4000000 in
set_option maxRecDepth 100000 in
theorem kX7_areDone (l : Launch) (D : va_G) (cy : Nat → ClassId) (tX tY : Nat) (ad : Nat → Nat) (A : Nat → Prop) (hA : apart ad A 12) (F : Nat) (x : HT) (a1 : Int32) {z : Int32 × HT} (hf : fX7_areDone F x a1 = some z) : Met l yX7_areDone (Cond.code yX7_areDone cX7_areDone 4 (some .boolean) :: wAll) { frames := 3, cells := 0, slots := 0, locals := 64 } (cPc (eM cy ad) 12 ad D cy tX tY A [.ref (ad 0), .int a1] x) (cQi (eM cy ad) 12 ad D A z) 0 0 A := by
  refine gMet hA (by decide) (Nat.le_of_ble_eq_true rfl) (fun p e s m below meth c hC H locs ls hP hS hl => ?_)
  have hC : Cf p s m _ meth c cX7_areDone 4 RX7 (some .boolean) D cy tX tY ad A 12 := hC
  have hl : lv_has ls 4 [(0, .ref (ad 0)), (1, .int a1)] := hl
  obtain ⟨hx, hb, -⟩ := id hC
  refine lv_iconst (v := 1) hx hb dX7_areDone_0 (by decide) ?_
  refine lv_istore_n (lv' := [(2, .int (1 : Int32)), (0, .ref (ad 0)), (1, .int a1)]) hx hb dX7_areDone_1 rfl hl (by decide) rfl (fun ls hl => ?_)
  refine lv_iconst (v := 0) hx hb dX7_areDone_2 (by decide) ?_
  refine lv_istore_n (lv' := [(3, .int (0 : Int32)), (2, .int (1 : Int32)), (0, .ref (ad 0)), (1, .int a1)]) hx hb dX7_areDone_3 rfl hl (by decide) rfl (fun ls hl => ?_)
  exact tX7_areDone_4 hC F F x a1 (1 : Int32) (0 : Int32) hf H locs ls hP hS (lv_sub hl [2, 3, 1, 0] rfl)
set_option maxHeartbeats 4000000 in
set_option maxRecDepth 100000 in
theorem tX7_takesBack_2b (hC : Cf p s m args meth c cX7_takesBack 2 RX7 none D cy tX tY ad A 12) (F : Nat) {z : Unit × HT} (rec2 : HT → Int32 → Option (Unit × HT)) (hrec2 : ∀ (x : HT) (a1 : Int32), rec2 x a1 = some z → Wd p l e { frames := 0, cells := 0, slots := 0, locals := 0 } s m args below meth c D (eM cy ad) 12 ad A (cQv (eM cy ad) 12 ad D A z) 2 2 [(0, .ref (ad 0)), (1, .int a1)] [] x) : ∀ (x : HT) (a1 : Int32), fX7_takesBack_2b F rec2 x a1 = some z → Wd p l e { frames := 0, cells := 0, slots := 0, locals := 0 } s m args below meth c D (eM cy ad) 12 ad A (cQv (eM cy ad) 12 ad D A z) 2 2 [(0, .ref (ad 0)), (1, .int a1)] [] x := by
  intro x a1 hf H locs ls hP hS hl
  obtain ⟨hx, hb, -⟩ := id hC
  refine lv_iload_n hx hb dX7_takesBack_2 rfl (lv_at hl 1 rfl) ?_
  refine lv_bipush (v := 80) hx hb dX7_takesBack_3 (by decide) ?_
  refine lv_icmp_ge (tgt := 26) hx hb dX7_takesBack_5 (by decide) (fun c1 => ?_) (fun c1 => ?_)
  · have hf := it_t c1 hf
    exact gVret hC hP hS hf dX7_takesBack_26
  · have hf := it_f c1 hf
    refine lv_aload_n hx hb dX7_takesBack_8 rfl (lv_at hl 0 rfl) ?_
    refine gfX7_7 hC hP dX7_takesBack_9 ?_
    refine lv_iload_n hx hb dX7_takesBack_12 rfl (lv_at hl 1 rfl) ?_
    refine lv_aload_n hx hb dX7_takesBack_13 rfl (lv_at hl 0 rfl) ?_
    refine gfX7_13 hC hP dX7_takesBack_14 ?_
    refine lv_iload_n hx hb dX7_takesBack_17 rfl (lv_at hl 1 rfl) ?_
    obtain ⟨h2, hf⟩ := ck_some hf
    refine gIal hC hP 2 (by decide) (eM_2 cy ad _ _) h2 dX7_takesBack_18 ?_
    obtain ⟨h3, hf⟩ := ck_some hf
    refine gIas hC hP hS 1 (by decide) (fun g9 => eM_1 cy ad g9 _) h3 dX7_takesBack_19 (fun H locs hP hS => ?_)
    obtain ⟨x4, e5, hf⟩ := lt_some hf
    have hP : va_P D vwCl (wG (eM cy ad) 12 ad x4) H := by rw [e5]; exact hP
    obtain ⟨b6, e7, hf⟩ := lt_some hf
    refine lv_iinc (v := b6) (lv' := [(1, .int b6), (0, .ref (ad 0))]) hx hb dX7_takesBack_20 hl (k := 1) rfl (by rw [e7]; rfl) (by decide) rfl (fun ls hl => ?_)
    refine lv_goto (tgt := 2) hx hb dX7_takesBack_23 (by decide) ?_
    exact hrec2 x4 b6 hf H locs ls hP hS (lv_sub hl [1, 0] rfl)
theorem tX7_takesBack_2 (hC : Cf p s m args meth c cX7_takesBack 2 RX7 none D cy tX tY ad A 12) (F : Nat) {z : Unit × HT} : ∀ (n9 : Nat) (x : HT) (a1 : Int32), fX7_takesBack_2 F n9 x a1 = some z → Wd p l e { frames := 0, cells := 0, slots := 0, locals := 0 } s m args below meth c D (eM cy ad) 12 ad A (cQv (eM cy ad) 12 ad D A z) 2 2 [(0, .ref (ad 0)), (1, .int a1)] [] x := by
  intro n9
  induction n9 with
  | zero => intro x a1 hf; cases hf
  | succ n9 ih => intro x a1 hf; exact tX7_takesBack_2b hC F (fX7_takesBack_2 F n9) ih x a1 hf
set_option maxHeartbeats 4000000 in
set_option maxRecDepth 100000 in
theorem kX7_takesBack (l : Launch) (D : va_G) (cy : Nat → ClassId) (tX tY : Nat) (ad : Nat → Nat) (A : Nat → Prop) (hA : apart ad A 12) (F : Nat) (x : HT) {z : Unit × HT} (hf : fX7_takesBack F x = some z) : Met l yX7_takesBack (Cond.code yX7_takesBack cX7_takesBack 2 none :: wAll) { frames := 0, cells := 0, slots := 0, locals := 0 } (cPc (eM cy ad) 12 ad D cy tX tY A [.ref (ad 0)] x) (cQv (eM cy ad) 12 ad D A z) 0 0 A := by
  refine gMet hA (by decide) (Nat.le_of_ble_eq_true rfl) (fun p e s m below meth c hC H locs ls hP hS hl => ?_)
  have hC : Cf p s m _ meth c cX7_takesBack 2 RX7 none D cy tX tY ad A 12 := hC
  have hl : lv_has ls 2 [(0, .ref (ad 0))] := hl
  obtain ⟨hx, hb, -⟩ := id hC
  refine lv_iconst (v := 0) hx hb dX7_takesBack_0 (by decide) ?_
  refine lv_istore_n (lv' := [(1, .int (0 : Int32)), (0, .ref (ad 0))]) hx hb dX7_takesBack_1 rfl hl (by decide) rfl (fun ls hl => ?_)
  exact tX7_takesBack_2 hC F F x (0 : Int32) hf H locs ls hP hS (lv_sub hl [1, 0] rfl)
set_option maxHeartbeats 4000000 in
set_option maxRecDepth 100000 in
theorem tX7_whenDone_35 (hC : Cf p s m args meth c cX7_whenDone 3 RX7 (some .int) D cy tX tY ad A 12) (F : Nat) {z : Int32 × HT} : ∀ (x : HT) (a2 : Int32), fX7_whenDone_35 F x a2 = some z → Wd p l e { frames := 7, cells := 0, slots := 0, locals := 159 } s m args below meth c D (eM cy ad) 12 ad A (cQi (eM cy ad) 12 ad D A z) 3 35 [(0, .ref (ad 0)), (2, .int a2)] [] x := by
  intro x a2 hf H locs ls hP hS hl
  obtain ⟨hx, hb, -⟩ := id hC
  refine lv_aload_n hx hb dX7_whenDone_35 rfl (lv_at hl 0 rfl) ?_
  obtain ⟨r18, x17, e19, hf⟩ := bd_some hf
  refine gVv (As := []) (rest := []) (k := 0) hC hP hS (kX7_takesBack l D cy tX tY ad A hC.2.2.2.2.2.2.2.2.1 F x e19) glX7_194 ⟨rfl, rfl⟩ hdX7_takesBack ⟨Nat.le_of_ble_eq_true rfl, Nat.le_of_ble_eq_true rfl⟩ (by decide) (eM_0 cy ad _ _) rfl rfl hl.1 rfl (Nat.le_of_ble_eq_true rfl) dX7_whenDone_36 ⟨Nat.zero_le _, Nat.zero_le _⟩ (fun H locs hP hS => ?_)
  refine lv_iload_n hx hb dX7_whenDone_39 rfl (lv_at hl 1 rfl) ?_
  refine lv_sipush (v := 400) hx hb dX7_whenDone_40 (by decide) ?_
  refine lv_icmp_le (tgt := 50) hx hb dX7_whenDone_43 (by decide) (fun c20 => ?_) (fun c20 => ?_)
  · have hf := it_t c20 hf
    refine lv_iload_n hx hb dX7_whenDone_50 rfl (lv_at hl 1 rfl) ?_
    exact gIret hC hP hS hf dX7_whenDone_51
  · have hf := it_f c20 hf
    refine lv_iconst (v := -1) hx hb dX7_whenDone_46 (by decide) ?_
    refine lv_goto (tgt := 51) hx hb dX7_whenDone_47 (by decide) ?_
    exact gIret hC hP hS hf dX7_whenDone_51
set_option maxHeartbeats 4000000 in
set_option maxRecDepth 100000 in
theorem tX7_whenDone_10b (hC : Cf p s m args meth c cX7_whenDone 3 RX7 (some .int) D cy tX tY ad A 12) (F : Nat) {z : Int32 × HT} (rec10 : HT → Int32 → Int32 → Option (Int32 × HT)) (hrec10 : ∀ (x : HT) (a1 : Int32) (a2 : Int32), rec10 x a1 a2 = some z → Wd p l e { frames := 7, cells := 0, slots := 0, locals := 159 } s m args below meth c D (eM cy ad) 12 ad A (cQi (eM cy ad) 12 ad D A z) 3 10 [(0, .ref (ad 0)), (1, .int a1), (2, .int a2)] [] x) : ∀ (x : HT) (a1 : Int32) (a2 : Int32), fX7_whenDone_10b F rec10 x a1 a2 = some z → Wd p l e { frames := 7, cells := 0, slots := 0, locals := 159 } s m args below meth c D (eM cy ad) 12 ad A (cQi (eM cy ad) 12 ad D A z) 3 10 [(0, .ref (ad 0)), (1, .int a1), (2, .int a2)] [] x := by
  intro x a1 a2 hf H locs ls hP hS hl
  obtain ⟨hx, hb, -⟩ := id hC
  refine lv_iload_n hx hb dX7_whenDone_10 rfl (lv_at hl 2 rfl) ?_
  refine lv_sipush (v := 400) hx hb dX7_whenDone_11 (by decide) ?_
  refine lv_icmp_gt (tgt := 35) hx hb dX7_whenDone_14 (by decide) (fun c7 => ?_) (fun c7 => ?_)
  · have hf := it_t c7 hf
    exact tX7_whenDone_35 hC F x a2 hf H locs ls hP hS (lv_sub hl [0, 2] rfl)
  · have hf := it_f c7 hf
    refine lv_aload_n hx hb dX7_whenDone_17 rfl (lv_at hl 0 rfl) ?_
    refine lv_iload_n hx hb dX7_whenDone_18 rfl (lv_at hl 1 rfl) ?_
    obtain ⟨r9, x8, e10, hf⟩ := bd_some hf
    refine gVi (As := [.int a1]) (rest := []) (k := 0) hC hP hS (kX7_areDone l D cy tX tY ad A hC.2.2.2.2.2.2.2.2.1 F x a1 e10) glX7_191 ⟨rfl, rfl⟩ hdX7_areDone ⟨Nat.le_of_ble_eq_true rfl, Nat.le_of_ble_eq_true rfl⟩ (by decide) (eM_0 cy ad _ _) rfl rfl hl.1 rfl (Nat.le_of_ble_eq_true rfl) dX7_whenDone_19 ⟨Nat.zero_le _, Nat.zero_le _⟩ (fun H locs hP hS => ?_)
    refine lv_if_ne (tgt := 35) hx hb dX7_whenDone_22 (by decide) (fun c11 => ?_) (fun c11 => ?_)
    · have hf := it_f c11 hf
      exact tX7_whenDone_35 hC F x8 a2 hf H locs ls hP hS (lv_sub hl [0, 2] rfl)
    · have hf := it_t c11 hf
      refine lv_aload_n hx hb dX7_whenDone_25 rfl (lv_at hl 0 rfl) ?_
      obtain ⟨r13, x12, e14, hf⟩ := bd_some hf
      refine gVv (As := []) (rest := []) (k := 0) hC hP hS (kX7_step l D cy tX tY ad A hC.2.2.2.2.2.2.2.2.1 F x8 e14) glX7_132 ⟨rfl, rfl⟩ hdX7_step ⟨Nat.le_of_ble_eq_true rfl, Nat.le_of_ble_eq_true rfl⟩ (by decide) (eM_0 cy ad _ _) rfl rfl hl.1 rfl (Nat.le_of_ble_eq_true rfl) dX7_whenDone_26 ⟨Nat.zero_le _, Nat.zero_le _⟩ (fun H locs hP hS => ?_)
      obtain ⟨b15, e16, hf⟩ := lt_some hf
      refine lv_iinc (v := b15) (lv' := [(2, .int b15), (0, .ref (ad 0)), (1, .int a1)]) hx hb dX7_whenDone_29 hl (k := 2) rfl (by rw [e16]; rfl) (by decide) rfl (fun ls hl => ?_)
      refine lv_goto (tgt := 10) hx hb dX7_whenDone_32 (by decide) ?_
      exact hrec10 x12 a1 b15 hf H locs ls hP hS (lv_sub hl [1, 2, 0] rfl)
theorem tX7_whenDone_10 (hC : Cf p s m args meth c cX7_whenDone 3 RX7 (some .int) D cy tX tY ad A 12) (F : Nat) {z : Int32 × HT} : ∀ (n9 : Nat) (x : HT) (a1 : Int32) (a2 : Int32), fX7_whenDone_10 F n9 x a1 a2 = some z → Wd p l e { frames := 7, cells := 0, slots := 0, locals := 159 } s m args below meth c D (eM cy ad) 12 ad A (cQi (eM cy ad) 12 ad D A z) 3 10 [(0, .ref (ad 0)), (1, .int a1), (2, .int a2)] [] x := by
  intro n9
  induction n9 with
  | zero => intro x a1 a2 hf; cases hf
  | succ n9 ih => intro x a1 a2 hf; exact tX7_whenDone_10b hC F (fX7_whenDone_10 F n9) ih x a1 a2 hf
set_option maxHeartbeats 4000000 in
set_option maxRecDepth 100000 in
theorem kX7_whenDone (l : Launch) (D : va_G) (cy : Nat → ClassId) (tX tY : Nat) (ad : Nat → Nat) (A : Nat → Prop) (hA : apart ad A 12) (F : Nat) (x : HT) (a1 : Int32) {z : Int32 × HT} (hf : fX7_whenDone F x a1 = some z) : Met l yX7_whenDone (Cond.code yX7_whenDone cX7_whenDone 3 (some .int) :: wAll) { frames := 7, cells := 0, slots := 0, locals := 159 } (cPc (eM cy ad) 12 ad D cy tX tY A [.ref (ad 0), .int a1] x) (cQi (eM cy ad) 12 ad D A z) 0 0 A := by
  refine gMet hA (by decide) (Nat.le_of_ble_eq_true rfl) (fun p e s m below meth c hC H locs ls hP hS hl => ?_)
  have hC : Cf p s m _ meth c cX7_whenDone 3 RX7 (some .int) D cy tX tY ad A 12 := hC
  have hl : lv_has ls 3 [(0, .ref (ad 0)), (1, .int a1)] := hl
  obtain ⟨hx, hb, -⟩ := id hC
  refine lv_aload_n hx hb dX7_whenDone_0 rfl (lv_at hl 0 rfl) ?_
  obtain ⟨r2, x1, e3, hf⟩ := bd_some hf
  refine gVv (As := []) (rest := []) (k := 0) hC hP hS (kX7_laysWays l D cy tX tY ad A hC.2.2.2.2.2.2.2.2.1 F x e3) glX7_129 ⟨rfl, rfl⟩ hdX7_laysWays ⟨Nat.le_of_ble_eq_true rfl, Nat.le_of_ble_eq_true rfl⟩ (by decide) (eM_0 cy ad _ _) rfl rfl hl.1 rfl (Nat.le_of_ble_eq_true rfl) dX7_whenDone_1 ⟨Nat.zero_le _, Nat.zero_le _⟩ (fun H locs hP hS => ?_)
  refine lv_aload_n hx hb dX7_whenDone_4 rfl (lv_at hl 0 rfl) ?_
  obtain ⟨r5, x4, e6, hf⟩ := bd_some hf
  refine gVv (As := []) (rest := []) (k := 0) hC hP hS (kX7_laysAside l D cy tX tY ad A hC.2.2.2.2.2.2.2.2.1 F x1 e6) glX7_139 ⟨rfl, rfl⟩ hdX7_laysAside ⟨Nat.le_of_ble_eq_true rfl, Nat.le_of_ble_eq_true rfl⟩ (by decide) (eM_0 cy ad _ _) rfl rfl hl.1 rfl (Nat.le_of_ble_eq_true rfl) dX7_whenDone_5 ⟨Nat.zero_le _, Nat.zero_le _⟩ (fun H locs hP hS => ?_)
  refine lv_iconst (v := 0) hx hb dX7_whenDone_8 (by decide) ?_
  refine lv_istore_n (lv' := [(2, .int (0 : Int32)), (0, .ref (ad 0)), (1, .int a1)]) hx hb dX7_whenDone_9 rfl hl (by decide) rfl (fun ls hl => ?_)
  exact tX7_whenDone_10 hC F F x4 a1 (0 : Int32) hf H locs ls hP hS (lv_sub hl [1, 2, 0] rfl)
set_option maxHeartbeats 4000000 in
set_option maxRecDepth 100000 in
theorem tX7_when_13 (hC : Cf p s m args meth c cX7_when 2 RX7 (some .int) D cy tX tY ad A 12) (F : Nat) {z : Int32 × HT} : ∀ (x : HT) (a1 : Int32), fX7_when_13 F x a1 = some z → Wd p l e { frames := 8, cells := 0, slots := 0, locals := 181 } s m args below meth c D (eM cy ad) 12 ad A (cQi (eM cy ad) 12 ad D A z) 2 13 [(0, .ref (ad 0)), (1, .int a1)] [] x := by
  intro x a1 hf H locs ls hP hS hl
  obtain ⟨hx, hb, -⟩ := id hC
  refine lv_aload_n hx hb dX7_when_13 rfl (lv_at hl 0 rfl) ?_
  refine lv_iload_n hx hb dX7_when_14 rfl (lv_at hl 1 rfl) ?_
  obtain ⟨r10, x9, e11, hf⟩ := bd_some hf
  refine gVi (As := [.int a1]) (rest := []) (k := 0) hC hP hS (kX7_whenDone l D cy tX tY ad A hC.2.2.2.2.2.2.2.2.1 F x a1 e11) glX7_197 ⟨rfl, rfl⟩ hdX7_whenDone ⟨Nat.le_of_ble_eq_true rfl, Nat.le_of_ble_eq_true rfl⟩ (by decide) (eM_0 cy ad _ _) rfl rfl hl.1 rfl (Nat.le_of_ble_eq_true rfl) dX7_when_15 ⟨Nat.zero_le _, Nat.zero_le _⟩ (fun H locs hP hS => ?_)
  refine lv_goto (tgt := 27) hx hb dX7_when_18 (by decide) ?_
  exact gIret hC hP hS hf dX7_when_27
set_option maxHeartbeats 4000000 in
set_option maxRecDepth 100000 in
theorem kX7_when (l : Launch) (D : va_G) (cy : Nat → ClassId) (tX tY : Nat) (ad : Nat → Nat) (A : Nat → Prop) (hA : apart ad A 12) (F : Nat) (x : HT) (a1 : Int32) {z : Int32 × HT} (hf : fX7_when F x a1 = some z) : Met l yX7_when (Cond.code yX7_when cX7_when 2 (some .int) :: wAll) { frames := 8, cells := 0, slots := 0, locals := 181 } (cPc (eM cy ad) 12 ad D cy tX tY A [.ref (ad 0), .int a1] x) (cQi (eM cy ad) 12 ad D A z) 0 0 A := by
  refine gMet hA (by decide) (Nat.le_of_ble_eq_true rfl) (fun p e s m below meth c hC H locs ls hP hS hl => ?_)
  have hC : Cf p s m _ meth c cX7_when 2 RX7 (some .int) D cy tX tY ad A 12 := hC
  have hl : lv_has ls 2 [(0, .ref (ad 0)), (1, .int a1)] := hl
  obtain ⟨hx, hb, -⟩ := id hC
  refine lv_iload_n hx hb dX7_when_0 rfl (lv_at hl 1 rfl) ?_
  refine lv_iconst (v := -1) hx hb dX7_when_1 (by decide) ?_
  refine lv_icmp_eq (tgt := 13) hx hb dX7_when_2 (by decide) (fun c1 => ?_) (fun c1 => ?_)
  · have hf := it_t c1 hf
    exact tX7_when_13 hC F x a1 hf H locs ls hP hS (lv_sub hl [0, 1] rfl)
  · have hf := it_f c1 hf
    refine lv_aload_n hx hb dX7_when_5 rfl (lv_at hl 0 rfl) ?_
    refine lv_iload_n hx hb dX7_when_6 rfl (lv_at hl 1 rfl) ?_
    obtain ⟨r3, x2, e4, hf⟩ := bd_some hf
    refine gVi (As := [.int a1]) (rest := []) (k := 0) hC hP hS (kX7_isMessage l D cy tX tY ad A hC.2.2.2.2.2.2.2.2.1 F x a1 e4) glX7_120 ⟨rfl, rfl⟩ hdX7_isMessage ⟨Nat.le_of_ble_eq_true rfl, Nat.le_of_ble_eq_true rfl⟩ (by decide) (eM_0 cy ad _ _) rfl rfl hl.1 rfl (Nat.le_of_ble_eq_true rfl) dX7_when_7 ⟨Nat.zero_le _, Nat.zero_le _⟩ (fun H locs hP hS => ?_)
    refine lv_if_eq (tgt := 21) hx hb dX7_when_10 (by decide) (fun c5 => ?_) (fun c5 => ?_)
    · have hf := it_t c5 hf
      refine lv_aload_n hx hb dX7_when_21 rfl (lv_at hl 0 rfl) ?_
      refine lv_bipush (v := -2) hx hb dX7_when_22 (by decide) ?_
      obtain ⟨r7, x6, e8, hf⟩ := bd_some hf
      refine gVi (As := [.int (-2 : Int32)]) (rest := []) (k := 0) hC hP hS (kX7_refuses l D cy tX tY ad A hC.2.2.2.2.2.2.2.2.1 F x2 (-2 : Int32) e8) glX7_47 ⟨rfl, rfl⟩ hdX7_refuses ⟨Nat.le_of_ble_eq_true rfl, Nat.le_of_ble_eq_true rfl⟩ (by decide) (eM_0 cy ad _ _) rfl rfl hl.1 rfl (Nat.le_of_ble_eq_true rfl) dX7_when_24 ⟨Nat.zero_le _, Nat.zero_le _⟩ (fun H locs hP hS => ?_)
      exact gIret hC hP hS hf dX7_when_27
    · have hf := it_f c5 hf
      exact tX7_when_13 hC F x2 a1 hf H locs ls hP hS (lv_sub hl [0, 1] rfl)
set_option maxHeartbeats 4000000 in
set_option maxRecDepth 100000 in
theorem tX7_countTold_152 (hC : Cf p s m args meth c cX7_countTold 8 RX7 (some .int) D cy tX tY ad A 12) (F : Nat) {z : Int32 × HT} (rec125 : HT → Int32 → Int32 → Int32 → Int32 → Int32 → Int32 → Option (Int32 × HT)) (hrec125 : ∀ (x : HT) (a1 : Int32) (a2 : Int32) (a3 : Int32) (a4 : Int32) (a5 : Int32) (a6 : Int32), rec125 x a1 a2 a3 a4 a5 a6 = some z → Wd p l e { frames := 4, cells := 0, slots := 0, locals := 87 } s m args below meth c D (eM cy ad) 12 ad A (cQi (eM cy ad) 12 ad D A z) 8 125 [(0, .ref (ad 0)), (1, .int a1), (2, .int a2), (3, .int a3), (4, .int a4), (5, .int a5), (6, .int a6)] [] x) : ∀ (x : HT) (a1 : Int32) (a2 : Int32) (a3 : Int32) (a4 : Int32) (a6 : Int32) (t0 : Int32) (t1 : Int32), fX7_countTold_152 F rec125 x a1 a2 a3 a4 a6 t0 t1 = some z → Wd p l e { frames := 4, cells := 0, slots := 0, locals := 87 } s m args below meth c D (eM cy ad) 12 ad A (cQi (eM cy ad) 12 ad D A z) 8 152 [(0, .ref (ad 0)), (1, .int a1), (2, .int a2), (3, .int a3), (4, .int a4), (6, .int a6)] [.int t1, .int t0] x := by
  intro x a1 a2 a3 a4 a6 t0 t1 hf H locs ls hP hS hl
  obtain ⟨hx, hb, -⟩ := id hC
  refine lv_iadd hx hb dX7_countTold_152 ?_
  refine lv_topi (fun b46 e47 => ?_)
  have hf := lt_use e47 hf
  refine lv_istore (lv' := [(5, .int b46), (0, .ref (ad 0)), (1, .int a1), (2, .int a2), (3, .int a3), (4, .int a4), (6, .int a6)]) hx hb dX7_countTold_153 hl (by decide) rfl (fun ls hl => ?_)
  obtain ⟨b48, e49, hf⟩ := lt_some hf
  refine lv_iinc (v := b48) (lv' := [(6, .int b48), (5, .int b46), (0, .ref (ad 0)), (1, .int a1), (2, .int a2), (3, .int a3), (4, .int a4)]) hx hb dX7_countTold_155 hl (k := 6) rfl (by rw [e49]; rfl) (by decide) rfl (fun ls hl => ?_)
  refine lv_goto (tgt := 125) hx hb dX7_countTold_158 (by decide) ?_
  exact hrec125 x a1 a2 a3 a4 b46 b48 hf H locs ls hP hS (lv_sub hl [2, 3, 4, 5, 6, 1, 0] rfl)
set_option maxHeartbeats 4000000 in
set_option maxRecDepth 100000 in
theorem tX7_countTold_125b (hC : Cf p s m args meth c cX7_countTold 8 RX7 (some .int) D cy tX tY ad A 12) (F : Nat) {z : Int32 × HT} (rec125 : HT → Int32 → Int32 → Int32 → Int32 → Int32 → Int32 → Option (Int32 × HT)) (hrec125 : ∀ (x : HT) (a1 : Int32) (a2 : Int32) (a3 : Int32) (a4 : Int32) (a5 : Int32) (a6 : Int32), rec125 x a1 a2 a3 a4 a5 a6 = some z → Wd p l e { frames := 4, cells := 0, slots := 0, locals := 87 } s m args below meth c D (eM cy ad) 12 ad A (cQi (eM cy ad) 12 ad D A z) 8 125 [(0, .ref (ad 0)), (1, .int a1), (2, .int a2), (3, .int a3), (4, .int a4), (5, .int a5), (6, .int a6)] [] x) : ∀ (x : HT) (a1 : Int32) (a2 : Int32) (a3 : Int32) (a4 : Int32) (a5 : Int32) (a6 : Int32), fX7_countTold_125b F rec125 x a1 a2 a3 a4 a5 a6 = some z → Wd p l e { frames := 4, cells := 0, slots := 0, locals := 87 } s m args below meth c D (eM cy ad) 12 ad A (cQi (eM cy ad) 12 ad D A z) 8 125 [(0, .ref (ad 0)), (1, .int a1), (2, .int a2), (3, .int a3), (4, .int a4), (5, .int a5), (6, .int a6)] [] x := by
  intro x a1 a2 a3 a4 a5 a6 hf H locs ls hP hS hl
  obtain ⟨hx, hb, -⟩ := id hC
  refine lv_iload hx hb dX7_countTold_125 (lv_at hl 6 rfl) ?_
  refine lv_aload_n hx hb dX7_countTold_127 rfl (lv_at hl 0 rfl) ?_
  refine gfX7_7 hC hP dX7_countTold_128 ?_
  refine lv_iconst (v := 3) hx hb dX7_countTold_131 (by decide) ?_
  obtain ⟨h29, hf⟩ := ck_some hf
  refine gIal hC hP 1 (by decide) (eM_1 cy ad _ _) h29 dX7_countTold_132 ?_
  refine lv_icmp_ge (tgt := 161) hx hb dX7_countTold_133 (by decide) (fun c30 => ?_) (fun c30 => ?_)
  · have hf := it_t c30 hf
    refine lv_iload_n hx hb dX7_countTold_161 rfl (lv_at hl 1 rfl) ?_
    by_cases c31 : a1 = (0 : Int32)
    · have hf := it_t c31 hf
      refine lv_tableIn (tgt := 204) (off := 42) hx hb dX7_countTold_162 (by rw [c31]; decide) (by rw [c31]; decide) (by rw [c31]; decide) (by decide) ?_
      refine lv_aload_n hx hb dX7_countTold_204 rfl (lv_at hl 0 rfl) ?_
      refine gfX7_7 hC hP dX7_countTold_205 ?_
      refine lv_iconst (v := 0) hx hb dX7_countTold_208 (by decide) ?_
      obtain ⟨h32, hf⟩ := ck_some hf
      refine gIal hC hP 1 (by decide) (eM_1 cy ad _ _) h32 dX7_countTold_209 ?_
      exact gIret hC hP hS hf dX7_countTold_210
    have hf := it_f c31 hf
    by_cases c33 : a1 = (1 : Int32)
    · have hf := it_t c33 hf
      refine lv_tableIn (tgt := 211) (off := 49) hx hb dX7_countTold_162 (by rw [c33]; decide) (by rw [c33]; decide) (by rw [c33]; decide) (by decide) ?_
      refine lv_aload_n hx hb dX7_countTold_211 rfl (lv_at hl 0 rfl) ?_
      refine gfX7_7 hC hP dX7_countTold_212 ?_
      refine lv_iconst (v := 1) hx hb dX7_countTold_215 (by decide) ?_
      obtain ⟨h34, hf⟩ := ck_some hf
      refine gIal hC hP 1 (by decide) (eM_1 cy ad _ _) h34 dX7_countTold_216 ?_
      exact gIret hC hP hS hf dX7_countTold_217
    have hf := it_f c33 hf
    by_cases c35 : a1 = (2 : Int32)
    · have hf := it_t c35 hf
      refine lv_tableIn (tgt := 218) (off := 56) hx hb dX7_countTold_162 (by rw [c35]; decide) (by rw [c35]; decide) (by rw [c35]; decide) (by decide) ?_
      refine lv_aload_n hx hb dX7_countTold_218 rfl (lv_at hl 0 rfl) ?_
      refine gfX7_7 hC hP dX7_countTold_219 ?_
      refine lv_iconst (v := 3) hx hb dX7_countTold_222 (by decide) ?_
      obtain ⟨h36, hf⟩ := ck_some hf
      refine gIal hC hP 1 (by decide) (eM_1 cy ad _ _) h36 dX7_countTold_223 ?_
      exact gIret hC hP hS hf dX7_countTold_224
    have hf := it_f c35 hf
    by_cases c37 : a1 = (3 : Int32)
    · have hf := it_t c37 hf
      refine lv_tableIn (tgt := 225) (off := 63) hx hb dX7_countTold_162 (by rw [c37]; decide) (by rw [c37]; decide) (by rw [c37]; decide) (by decide) ?_
      refine lv_aload_n hx hb dX7_countTold_225 rfl (lv_at hl 0 rfl) ?_
      refine gfX7_7 hC hP dX7_countTold_226 ?_
      refine lv_iconst (v := 2) hx hb dX7_countTold_229 (by decide) ?_
      obtain ⟨h38, hf⟩ := ck_some hf
      refine gIal hC hP 1 (by decide) (eM_1 cy ad _ _) h38 dX7_countTold_230 ?_
      exact gIret hC hP hS hf dX7_countTold_231
    have hf := it_f c37 hf
    by_cases c39 : a1 = (4 : Int32)
    · have hf := it_t c39 hf
      refine lv_tableIn (tgt := 232) (off := 70) hx hb dX7_countTold_162 (by rw [c39]; decide) (by rw [c39]; decide) (by rw [c39]; decide) (by decide) ?_
      refine lv_iload_n hx hb dX7_countTold_232 rfl (lv_at hl 2 rfl) ?_
      exact gIret hC hP hS hf dX7_countTold_233
    have hf := it_f c39 hf
    by_cases c40 : a1 = (5 : Int32)
    · have hf := it_t c40 hf
      refine lv_tableIn (tgt := 234) (off := 72) hx hb dX7_countTold_162 (by rw [c40]; decide) (by rw [c40]; decide) (by rw [c40]; decide) (by decide) ?_
      refine lv_iload_n hx hb dX7_countTold_234 rfl (lv_at hl 3 rfl) ?_
      exact gIret hC hP hS hf dX7_countTold_235
    have hf := it_f c40 hf
    by_cases c41 : a1 = (6 : Int32)
    · have hf := it_t c41 hf
      refine lv_tableIn (tgt := 236) (off := 74) hx hb dX7_countTold_162 (by rw [c41]; decide) (by rw [c41]; decide) (by rw [c41]; decide) (by decide) ?_
      refine lv_iload hx hb dX7_countTold_236 (lv_at hl 4 rfl) ?_
      exact gIret hC hP hS hf dX7_countTold_238
    have hf := it_f c41 hf
    refine lv_tableOut (tgt := 239) hx hb dX7_countTold_162 (by have n0 := lv_neT c31 (a := 0) (by decide); have n1 := lv_neT c33 (a := 1) (by decide); have n2 := lv_neT c35 (a := 2) (by decide); have n3 := lv_neT c37 (a := 3) (by decide); have n4 := lv_neT c39 (a := 4) (by decide); have n5 := lv_neT c40 (a := 5) (by decide); have n6 := lv_neT c41 (a := 6) (by decide); omega) (by decide) ?_
    refine lv_iload hx hb dX7_countTold_239 (lv_at hl 5 rfl) ?_
    exact gIret hC hP hS hf dX7_countTold_241
  · have hf := it_f c30 hf
    refine lv_iload hx hb dX7_countTold_136 (lv_at hl 5 rfl) ?_
    refine lv_aload_n hx hb dX7_countTold_138 rfl (lv_at hl 0 rfl) ?_
    refine lv_iload hx hb dX7_countTold_139 (lv_at hl 6 rfl) ?_
    obtain ⟨r43, x42, e44, hf⟩ := bd_some hf
    refine gVi (As := [.int a6]) (rest := [.int a5]) (k := 0) hC hP hS (kX7_areDone l D cy tX tY ad A hC.2.2.2.2.2.2.2.2.1 F x a6 e44) glX7_191 ⟨rfl, rfl⟩ hdX7_areDone ⟨Nat.le_of_ble_eq_true rfl, Nat.le_of_ble_eq_true rfl⟩ (by decide) (eM_0 cy ad _ _) rfl rfl hl.1 rfl (Nat.le_of_ble_eq_true rfl) dX7_countTold_141 ⟨Nat.zero_le _, Nat.zero_le _⟩ (fun H locs hP hS => ?_)
    refine lv_if_eq (tgt := 151) hx hb dX7_countTold_144 (by decide) (fun c45 => ?_) (fun c45 => ?_)
    · have hf := it_t c45 hf
      refine lv_iconst (v := 0) hx hb dX7_countTold_151 (by decide) ?_
      exact tX7_countTold_152 hC F rec125 hrec125 x42 a1 a2 a3 a4 a6 a5 (0 : Int32) hf H locs ls hP hS (lv_sub hl [0, 1, 2, 3, 4, 6] rfl)
    · have hf := it_f c45 hf
      refine lv_iconst (v := 1) hx hb dX7_countTold_147 (by decide) ?_
      refine lv_goto (tgt := 152) hx hb dX7_countTold_148 (by decide) ?_
      exact tX7_countTold_152 hC F rec125 hrec125 x42 a1 a2 a3 a4 a6 a5 (1 : Int32) hf H locs ls hP hS (lv_sub hl [0, 1, 2, 3, 4, 6] rfl)
theorem tX7_countTold_125 (hC : Cf p s m args meth c cX7_countTold 8 RX7 (some .int) D cy tX tY ad A 12) (F : Nat) {z : Int32 × HT} : ∀ (n9 : Nat) (x : HT) (a1 : Int32) (a2 : Int32) (a3 : Int32) (a4 : Int32) (a5 : Int32) (a6 : Int32), fX7_countTold_125 F n9 x a1 a2 a3 a4 a5 a6 = some z → Wd p l e { frames := 4, cells := 0, slots := 0, locals := 87 } s m args below meth c D (eM cy ad) 12 ad A (cQi (eM cy ad) 12 ad D A z) 8 125 [(0, .ref (ad 0)), (1, .int a1), (2, .int a2), (3, .int a3), (4, .int a4), (5, .int a5), (6, .int a6)] [] x := by
  intro n9
  induction n9 with
  | zero => intro x a1 a2 a3 a4 a5 a6 hf; cases hf
  | succ n9 ih => intro x a1 a2 a3 a4 a5 a6 hf; exact tX7_countTold_125b hC F (fX7_countTold_125 F n9) ih x a1 a2 a3 a4 a5 a6 hf
set_option maxHeartbeats 4000000 in
set_option maxRecDepth 100000 in
theorem tX7_countTold_74b (hC : Cf p s m args meth c cX7_countTold 8 RX7 (some .int) D cy tX tY ad A 12) (F : Nat) {z : Int32 × HT} (rec74 : HT → Int32 → Int32 → Int32 → Int32 → Int32 → Int32 → Option (Int32 × HT)) (hrec74 : ∀ (x : HT) (a1 : Int32) (a2 : Int32) (a3 : Int32) (a4 : Int32) (a5 : Int32) (a6 : Int32), rec74 x a1 a2 a3 a4 a5 a6 = some z → Wd p l e { frames := 4, cells := 0, slots := 0, locals := 87 } s m args below meth c D (eM cy ad) 12 ad A (cQi (eM cy ad) 12 ad D A z) 8 74 [(0, .ref (ad 0)), (1, .int a1), (2, .int a2), (3, .int a3), (4, .int a4), (5, .int a5), (6, .int a6)] [] x) : ∀ (x : HT) (a1 : Int32) (a2 : Int32) (a3 : Int32) (a4 : Int32) (a5 : Int32) (a6 : Int32), fX7_countTold_74b F rec74 x a1 a2 a3 a4 a5 a6 = some z → Wd p l e { frames := 4, cells := 0, slots := 0, locals := 87 } s m args below meth c D (eM cy ad) 12 ad A (cQi (eM cy ad) 12 ad D A z) 8 74 [(0, .ref (ad 0)), (1, .int a1), (2, .int a2), (3, .int a3), (4, .int a4), (5, .int a5), (6, .int a6)] [] x := by
  intro x a1 a2 a3 a4 a5 a6 hf H locs ls hP hS hl
  obtain ⟨hx, hb, -⟩ := id hC
  refine lv_iload hx hb dX7_countTold_74 (lv_at hl 6 rfl) ?_
  refine lv_iconst (v := 2) hx hb dX7_countTold_76 (by decide) ?_
  refine lv_aload_n hx hb dX7_countTold_77 rfl (lv_at hl 0 rfl) ?_
  refine gfX7_7 hC hP dX7_countTold_78 ?_
  refine lv_iconst (v := 3) hx hb dX7_countTold_81 (by decide) ?_
  obtain ⟨h15, hf⟩ := ck_some hf
  refine gIal hC hP 1 (by decide) (eM_1 cy ad _ _) h15 dX7_countTold_82 ?_
  refine lv_imul hx hb dX7_countTold_83 ?_
  refine lv_icmp_ge (tgt := 122) hx hb dX7_countTold_84 (by decide) (fun c16 => ?_) (fun c16 => ?_)
  · have hf := it_t c16 hf
    refine lv_iconst (v := 0) hx hb dX7_countTold_122 (by decide) ?_
    refine lv_istore (lv' := [(6, .int (0 : Int32)), (0, .ref (ad 0)), (1, .int a1), (2, .int a2), (3, .int a3), (4, .int a4), (5, .int a5)]) hx hb dX7_countTold_123 hl (by decide) rfl (fun ls hl => ?_)
    exact tX7_countTold_125 hC F F x a1 a2 a3 a4 a5 (0 : Int32) hf H locs ls hP hS (lv_sub hl [1, 2, 3, 4, 5, 6, 0] rfl)
  · have hf := it_f c16 hf
    refine lv_iload_n hx hb dX7_countTold_87 rfl (lv_at hl 3 rfl) ?_
    refine lv_aload_n hx hb dX7_countTold_88 rfl (lv_at hl 0 rfl) ?_
    refine lv_iload hx hb dX7_countTold_89 (lv_at hl 6 rfl) ?_
    obtain ⟨r18, x17, e19, hf⟩ := bd_some hf
    refine gVi (As := [.int a6]) (rest := [.int a3]) (k := 0) hC hP hS (kX7_heldMany l D cy tX tY ad A hC.2.2.2.2.2.2.2.2.1 F x a6 e19) glX7_176 ⟨rfl, rfl⟩ hdX7_heldMany ⟨Nat.le_of_ble_eq_true rfl, Nat.le_of_ble_eq_true rfl⟩ (by decide) (eM_0 cy ad _ _) rfl rfl hl.1 rfl (Nat.le_of_ble_eq_true rfl) dX7_countTold_91 ⟨Nat.zero_le _, Nat.zero_le _⟩ (fun H locs hP hS => ?_)
    refine lv_iadd hx hb dX7_countTold_94 ?_
    refine lv_topi (fun b20 e21 => ?_)
    have hf := lt_use e21 hf
    refine lv_istore_n (lv' := [(3, .int b20), (0, .ref (ad 0)), (1, .int a1), (2, .int a2), (4, .int a4), (5, .int a5), (6, .int a6)]) hx hb dX7_countTold_95 rfl hl (by decide) rfl (fun ls hl => ?_)
    refine lv_iload hx hb dX7_countTold_96 (lv_at hl 4 rfl) ?_
    refine lv_aload_n hx hb dX7_countTold_98 rfl (lv_at hl 1 rfl) ?_
    refine lv_iload hx hb dX7_countTold_99 (lv_at hl 6 rfl) ?_
    refine lv_iconst (v := 2) hx hb dX7_countTold_101 (by decide) ?_
    refine lv_idiv hx hb dX7_countTold_102 (by decide) ?_
    refine lv_bipush (v := 6) hx hb dX7_countTold_103 (by decide) ?_
    refine lv_iload hx hb dX7_countTold_105 (lv_at hl 6 rfl) ?_
    refine lv_iconst (v := 2) hx hb dX7_countTold_107 (by decide) ?_
    refine lv_irem hx hb dX7_countTold_108 (by decide) ?_
    refine lv_iadd hx hb dX7_countTold_109 ?_
    obtain ⟨r23, x22, e24, hf⟩ := bd_some hf
    refine gVi (As := [.int (a6 / (2 : Int32)), .int ((6 : Int32) + (a6 - a6 / (2 : Int32) * (2 : Int32)))]) (rest := [.int a4]) (k := 0) hC hP hS (kX7_of0 l D cy tX tY ad A hC.2.2.2.2.2.2.2.2.1 F x17 (a6 / (2 : Int32)) ((6 : Int32) + (a6 - a6 / (2 : Int32) * (2 : Int32))) e24) glX7_78 ⟨rfl, rfl⟩ hdX7_of0 ⟨Nat.le_of_ble_eq_true rfl, Nat.le_of_ble_eq_true rfl⟩ (by decide) (eM_0 cy ad _ _) rfl rfl hl.1 rfl (Nat.le_of_ble_eq_true rfl) dX7_countTold_110 ⟨Nat.zero_le _, Nat.zero_le _⟩ (fun H locs hP hS => ?_)
    refine lv_iadd hx hb dX7_countTold_113 ?_
    refine lv_topi (fun b25 e26 => ?_)
    have hf := lt_use e26 hf
    refine lv_istore (lv' := [(4, .int b25), (3, .int b20), (0, .ref (ad 0)), (1, .int a1), (2, .int a2), (5, .int a5), (6, .int a6)]) hx hb dX7_countTold_114 hl (by decide) rfl (fun ls hl => ?_)
    obtain ⟨b27, e28, hf⟩ := lt_some hf
    refine lv_iinc (v := b27) (lv' := [(6, .int b27), (4, .int b25), (3, .int b20), (0, .ref (ad 0)), (1, .int a1), (2, .int a2), (5, .int a5)]) hx hb dX7_countTold_116 hl (k := 6) rfl (by rw [e28]; rfl) (by decide) rfl (fun ls hl => ?_)
    refine lv_goto (tgt := 74) hx hb dX7_countTold_119 (by decide) ?_
    exact hrec74 x22 a1 a2 b20 b25 a5 b27 hf H locs ls hP hS (lv_sub hl [3, 4, 5, 2, 1, 6, 0] rfl)
theorem tX7_countTold_74 (hC : Cf p s m args meth c cX7_countTold 8 RX7 (some .int) D cy tX tY ad A 12) (F : Nat) {z : Int32 × HT} : ∀ (n9 : Nat) (x : HT) (a1 : Int32) (a2 : Int32) (a3 : Int32) (a4 : Int32) (a5 : Int32) (a6 : Int32), fX7_countTold_74 F n9 x a1 a2 a3 a4 a5 a6 = some z → Wd p l e { frames := 4, cells := 0, slots := 0, locals := 87 } s m args below meth c D (eM cy ad) 12 ad A (cQi (eM cy ad) 12 ad D A z) 8 74 [(0, .ref (ad 0)), (1, .int a1), (2, .int a2), (3, .int a3), (4, .int a4), (5, .int a5), (6, .int a6)] [] x := by
  intro n9
  induction n9 with
  | zero => intro x a1 a2 a3 a4 a5 a6 hf; cases hf
  | succ n9 ih => intro x a1 a2 a3 a4 a5 a6 hf; exact tX7_countTold_74b hC F (fX7_countTold_74 F n9) ih x a1 a2 a3 a4 a5 a6 hf
set_option maxHeartbeats 4000000 in
set_option maxRecDepth 100000 in
theorem tX7_countTold_57 (hC : Cf p s m args meth c cX7_countTold 8 RX7 (some .int) D cy tX tY ad A 12) (F : Nat) {z : Int32 × HT} (rec13 : HT → Int32 → Int32 → Int32 → Int32 → Int32 → Int32 → Option (Int32 × HT)) (hrec13 : ∀ (x : HT) (a1 : Int32) (a2 : Int32) (a3 : Int32) (a4 : Int32) (a5 : Int32) (a6 : Int32), rec13 x a1 a2 a3 a4 a5 a6 = some z → Wd p l e { frames := 4, cells := 0, slots := 0, locals := 87 } s m args below meth c D (eM cy ad) 12 ad A (cQi (eM cy ad) 12 ad D A z) 8 13 [(0, .ref (ad 0)), (1, .int a1), (2, .int a2), (3, .int a3), (4, .int a4), (5, .int a5), (6, .int a6)] [] x) (rec34 : HT → Int32 → Int32 → Int32 → Int32 → Int32 → Int32 → Int32 → Option (Int32 × HT)) (hrec34 : ∀ (x : HT) (a1 : Int32) (a2 : Int32) (a3 : Int32) (a4 : Int32) (a5 : Int32) (a6 : Int32) (a7 : Int32), rec34 x a1 a2 a3 a4 a5 a6 a7 = some z → Wd p l e { frames := 4, cells := 0, slots := 0, locals := 87 } s m args below meth c D (eM cy ad) 12 ad A (cQi (eM cy ad) 12 ad D A z) 8 34 [(0, .ref (ad 0)), (1, .int a1), (2, .int a2), (3, .int a3), (4, .int a4), (5, .int a5), (6, .int a6), (7, .int a7)] [] x) : ∀ (x : HT) (a1 : Int32) (a3 : Int32) (a4 : Int32) (a5 : Int32) (a6 : Int32) (a7 : Int32) (t0 : Int32) (t1 : Int32), fX7_countTold_57 F rec13 rec34 x a1 a3 a4 a5 a6 a7 t0 t1 = some z → Wd p l e { frames := 4, cells := 0, slots := 0, locals := 87 } s m args below meth c D (eM cy ad) 12 ad A (cQi (eM cy ad) 12 ad D A z) 8 57 [(0, .ref (ad 0)), (1, .int a1), (3, .int a3), (4, .int a4), (5, .int a5), (6, .int a6), (7, .int a7)] [.int t1, .int t0] x := by
  intro x a1 a3 a4 a5 a6 a7 t0 t1 hf H locs ls hP hS hl
  obtain ⟨hx, hb, -⟩ := id hC
  refine lv_iadd hx hb dX7_countTold_57 ?_
  refine lv_topi (fun b11 e12 => ?_)
  have hf := lt_use e12 hf
  refine lv_istore_n (lv' := [(2, .int b11), (0, .ref (ad 0)), (1, .int a1), (3, .int a3), (4, .int a4), (5, .int a5), (6, .int a6), (7, .int a7)]) hx hb dX7_countTold_58 rfl hl (by decide) rfl (fun ls hl => ?_)
  obtain ⟨b13, e14, hf⟩ := lt_some hf
  refine lv_iinc (v := b13) (lv' := [(7, .int b13), (2, .int b11), (0, .ref (ad 0)), (1, .int a1), (3, .int a3), (4, .int a4), (5, .int a5), (6, .int a6)]) hx hb dX7_countTold_59 hl (k := 7) rfl (by rw [e14]; rfl) (by decide) rfl (fun ls hl => ?_)
  refine lv_goto (tgt := 34) hx hb dX7_countTold_62 (by decide) ?_
  exact hrec34 x a1 b11 a3 a4 a5 a6 b13 hf H locs ls hP hS (lv_sub hl [2, 3, 1, 4, 5, 6, 7, 0] rfl)
set_option maxHeartbeats 4000000 in
set_option maxRecDepth 100000 in
theorem tX7_countTold_34b (hC : Cf p s m args meth c cX7_countTold 8 RX7 (some .int) D cy tX tY ad A 12) (F : Nat) {z : Int32 × HT} (rec13 : HT → Int32 → Int32 → Int32 → Int32 → Int32 → Int32 → Option (Int32 × HT)) (hrec13 : ∀ (x : HT) (a1 : Int32) (a2 : Int32) (a3 : Int32) (a4 : Int32) (a5 : Int32) (a6 : Int32), rec13 x a1 a2 a3 a4 a5 a6 = some z → Wd p l e { frames := 4, cells := 0, slots := 0, locals := 87 } s m args below meth c D (eM cy ad) 12 ad A (cQi (eM cy ad) 12 ad D A z) 8 13 [(0, .ref (ad 0)), (1, .int a1), (2, .int a2), (3, .int a3), (4, .int a4), (5, .int a5), (6, .int a6)] [] x) (rec34 : HT → Int32 → Int32 → Int32 → Int32 → Int32 → Int32 → Int32 → Option (Int32 × HT)) (hrec34 : ∀ (x : HT) (a1 : Int32) (a2 : Int32) (a3 : Int32) (a4 : Int32) (a5 : Int32) (a6 : Int32) (a7 : Int32), rec34 x a1 a2 a3 a4 a5 a6 a7 = some z → Wd p l e { frames := 4, cells := 0, slots := 0, locals := 87 } s m args below meth c D (eM cy ad) 12 ad A (cQi (eM cy ad) 12 ad D A z) 8 34 [(0, .ref (ad 0)), (1, .int a1), (2, .int a2), (3, .int a3), (4, .int a4), (5, .int a5), (6, .int a6), (7, .int a7)] [] x) : ∀ (x : HT) (a1 : Int32) (a2 : Int32) (a3 : Int32) (a4 : Int32) (a5 : Int32) (a6 : Int32) (a7 : Int32), fX7_countTold_34b F rec13 rec34 x a1 a2 a3 a4 a5 a6 a7 = some z → Wd p l e { frames := 4, cells := 0, slots := 0, locals := 87 } s m args below meth c D (eM cy ad) 12 ad A (cQi (eM cy ad) 12 ad D A z) 8 34 [(0, .ref (ad 0)), (1, .int a1), (2, .int a2), (3, .int a3), (4, .int a4), (5, .int a5), (6, .int a6), (7, .int a7)] [] x := by
  intro x a1 a2 a3 a4 a5 a6 a7 hf H locs ls hP hS hl
  obtain ⟨hx, hb, -⟩ := id hC
  refine lv_iload hx hb dX7_countTold_34 (lv_at hl 7 rfl) ?_
  refine lv_iconst (v := 4) hx hb dX7_countTold_36 (by decide) ?_
  refine lv_icmp_ge (tgt := 65) hx hb dX7_countTold_37 (by decide) (fun c4 => ?_) (fun c4 => ?_)
  · have hf := it_t c4 hf
    obtain ⟨b5, e6, hf⟩ := lt_some hf
    refine lv_iinc (v := b5) (lv' := [(6, .int b5), (0, .ref (ad 0)), (1, .int a1), (2, .int a2), (3, .int a3), (4, .int a4), (5, .int a5), (7, .int a7)]) hx hb dX7_countTold_65 hl (k := 6) rfl (by rw [e6]; rfl) (by decide) rfl (fun ls hl => ?_)
    refine lv_goto (tgt := 13) hx hb dX7_countTold_68 (by decide) ?_
    exact hrec13 x a1 a2 a3 a4 a5 b5 hf H locs ls hP hS (lv_sub hl [1, 2, 3, 4, 5, 6, 0] rfl)
  · have hf := it_f c4 hf
    refine lv_iload_n hx hb dX7_countTold_40 rfl (lv_at hl 2 rfl) ?_
    refine lv_aload_n hx hb dX7_countTold_41 rfl (lv_at hl 0 rfl) ?_
    refine lv_iload hx hb dX7_countTold_42 (lv_at hl 6 rfl) ?_
    refine lv_iload hx hb dX7_countTold_44 (lv_at hl 7 rfl) ?_
    obtain ⟨r8, x7, e9, hf⟩ := bd_some hf
    refine gVi (As := [.int a6, .int a7]) (rest := [.int a2]) (k := 0) hC hP hS (kX7_isDown l D cy tX tY ad A hC.2.2.2.2.2.2.2.2.1 F x a6 a7 e9) glX7_103 ⟨rfl, rfl⟩ hdX7_isDown ⟨Nat.le_of_ble_eq_true rfl, Nat.le_of_ble_eq_true rfl⟩ (by decide) (eM_0 cy ad _ _) rfl rfl hl.1 rfl (Nat.le_of_ble_eq_true rfl) dX7_countTold_46 ⟨Nat.zero_le _, Nat.zero_le _⟩ (fun H locs hP hS => ?_)
    refine lv_if_eq (tgt := 56) hx hb dX7_countTold_49 (by decide) (fun c10 => ?_) (fun c10 => ?_)
    · have hf := it_t c10 hf
      refine lv_iconst (v := 0) hx hb dX7_countTold_56 (by decide) ?_
      exact tX7_countTold_57 hC F rec13 hrec13 rec34 hrec34 x7 a1 a3 a4 a5 a6 a7 a2 (0 : Int32) hf H locs ls hP hS (lv_sub hl [0, 1, 3, 4, 5, 6, 7] rfl)
    · have hf := it_f c10 hf
      refine lv_iconst (v := 1) hx hb dX7_countTold_52 (by decide) ?_
      refine lv_goto (tgt := 57) hx hb dX7_countTold_53 (by decide) ?_
      exact tX7_countTold_57 hC F rec13 hrec13 rec34 hrec34 x7 a1 a3 a4 a5 a6 a7 a2 (1 : Int32) hf H locs ls hP hS (lv_sub hl [0, 1, 3, 4, 5, 6, 7] rfl)
theorem tX7_countTold_34 (hC : Cf p s m args meth c cX7_countTold 8 RX7 (some .int) D cy tX tY ad A 12) (F : Nat) {z : Int32 × HT} (rec13 : HT → Int32 → Int32 → Int32 → Int32 → Int32 → Int32 → Option (Int32 × HT)) (hrec13 : ∀ (x : HT) (a1 : Int32) (a2 : Int32) (a3 : Int32) (a4 : Int32) (a5 : Int32) (a6 : Int32), rec13 x a1 a2 a3 a4 a5 a6 = some z → Wd p l e { frames := 4, cells := 0, slots := 0, locals := 87 } s m args below meth c D (eM cy ad) 12 ad A (cQi (eM cy ad) 12 ad D A z) 8 13 [(0, .ref (ad 0)), (1, .int a1), (2, .int a2), (3, .int a3), (4, .int a4), (5, .int a5), (6, .int a6)] [] x) : ∀ (n9 : Nat) (x : HT) (a1 : Int32) (a2 : Int32) (a3 : Int32) (a4 : Int32) (a5 : Int32) (a6 : Int32) (a7 : Int32), fX7_countTold_34 F rec13 n9 x a1 a2 a3 a4 a5 a6 a7 = some z → Wd p l e { frames := 4, cells := 0, slots := 0, locals := 87 } s m args below meth c D (eM cy ad) 12 ad A (cQi (eM cy ad) 12 ad D A z) 8 34 [(0, .ref (ad 0)), (1, .int a1), (2, .int a2), (3, .int a3), (4, .int a4), (5, .int a5), (6, .int a6), (7, .int a7)] [] x := by
  intro n9
  induction n9 with
  | zero => intro x a1 a2 a3 a4 a5 a6 a7 hf; cases hf
  | succ n9 ih => intro x a1 a2 a3 a4 a5 a6 a7 hf; exact tX7_countTold_34b hC F rec13 hrec13 (fX7_countTold_34 F rec13 n9) ih x a1 a2 a3 a4 a5 a6 a7 hf
set_option maxHeartbeats 4000000 in
set_option maxRecDepth 100000 in
theorem tX7_countTold_13b (hC : Cf p s m args meth c cX7_countTold 8 RX7 (some .int) D cy tX tY ad A 12) (F : Nat) {z : Int32 × HT} (rec13 : HT → Int32 → Int32 → Int32 → Int32 → Int32 → Int32 → Option (Int32 × HT)) (hrec13 : ∀ (x : HT) (a1 : Int32) (a2 : Int32) (a3 : Int32) (a4 : Int32) (a5 : Int32) (a6 : Int32), rec13 x a1 a2 a3 a4 a5 a6 = some z → Wd p l e { frames := 4, cells := 0, slots := 0, locals := 87 } s m args below meth c D (eM cy ad) 12 ad A (cQi (eM cy ad) 12 ad D A z) 8 13 [(0, .ref (ad 0)), (1, .int a1), (2, .int a2), (3, .int a3), (4, .int a4), (5, .int a5), (6, .int a6)] [] x) : ∀ (x : HT) (a1 : Int32) (a2 : Int32) (a3 : Int32) (a4 : Int32) (a5 : Int32) (a6 : Int32), fX7_countTold_13b F rec13 x a1 a2 a3 a4 a5 a6 = some z → Wd p l e { frames := 4, cells := 0, slots := 0, locals := 87 } s m args below meth c D (eM cy ad) 12 ad A (cQi (eM cy ad) 12 ad D A z) 8 13 [(0, .ref (ad 0)), (1, .int a1), (2, .int a2), (3, .int a3), (4, .int a4), (5, .int a5), (6, .int a6)] [] x := by
  intro x a1 a2 a3 a4 a5 a6 hf H locs ls hP hS hl
  obtain ⟨hx, hb, -⟩ := id hC
  refine lv_iload hx hb dX7_countTold_13 (lv_at hl 6 rfl) ?_
  refine lv_aload_n hx hb dX7_countTold_15 rfl (lv_at hl 0 rfl) ?_
  refine gfX7_7 hC hP dX7_countTold_16 ?_
  refine lv_iconst (v := 0) hx hb dX7_countTold_19 (by decide) ?_
  obtain ⟨h1, hf⟩ := ck_some hf
  refine gIal hC hP 1 (by decide) (eM_1 cy ad _ _) h1 dX7_countTold_20 ?_
  refine lv_aload_n hx hb dX7_countTold_21 rfl (lv_at hl 0 rfl) ?_
  refine gfX7_7 hC hP dX7_countTold_22 ?_
  refine lv_iconst (v := 1) hx hb dX7_countTold_25 (by decide) ?_
  obtain ⟨h2, hf⟩ := ck_some hf
  refine gIal hC hP 1 (by decide) (eM_1 cy ad _ _) h2 dX7_countTold_26 ?_
  refine lv_imul hx hb dX7_countTold_27 ?_
  refine lv_icmp_ge (tgt := 71) hx hb dX7_countTold_28 (by decide) (fun c3 => ?_) (fun c3 => ?_)
  · have hf := it_t c3 hf
    refine lv_iconst (v := 0) hx hb dX7_countTold_71 (by decide) ?_
    refine lv_istore (lv' := [(6, .int (0 : Int32)), (0, .ref (ad 0)), (1, .int a1), (2, .int a2), (3, .int a3), (4, .int a4), (5, .int a5)]) hx hb dX7_countTold_72 hl (by decide) rfl (fun ls hl => ?_)
    exact tX7_countTold_74 hC F F x a1 a2 a3 a4 a5 (0 : Int32) hf H locs ls hP hS (lv_sub hl [1, 2, 3, 4, 5, 6, 0] rfl)
  · have hf := it_f c3 hf
    refine lv_iconst (v := 0) hx hb dX7_countTold_31 (by decide) ?_
    refine lv_istore (lv' := [(7, .int (0 : Int32)), (0, .ref (ad 0)), (1, .int a1), (2, .int a2), (3, .int a3), (4, .int a4), (5, .int a5), (6, .int a6)]) hx hb dX7_countTold_32 hl (by decide) rfl (fun ls hl => ?_)
    exact tX7_countTold_34 hC F rec13 hrec13 F x a1 a2 a3 a4 a5 a6 (0 : Int32) hf H locs ls hP hS (lv_sub hl [1, 2, 3, 4, 5, 6, 7, 0] rfl)
theorem tX7_countTold_13 (hC : Cf p s m args meth c cX7_countTold 8 RX7 (some .int) D cy tX tY ad A 12) (F : Nat) {z : Int32 × HT} : ∀ (n9 : Nat) (x : HT) (a1 : Int32) (a2 : Int32) (a3 : Int32) (a4 : Int32) (a5 : Int32) (a6 : Int32), fX7_countTold_13 F n9 x a1 a2 a3 a4 a5 a6 = some z → Wd p l e { frames := 4, cells := 0, slots := 0, locals := 87 } s m args below meth c D (eM cy ad) 12 ad A (cQi (eM cy ad) 12 ad D A z) 8 13 [(0, .ref (ad 0)), (1, .int a1), (2, .int a2), (3, .int a3), (4, .int a4), (5, .int a5), (6, .int a6)] [] x := by
  intro n9
  induction n9 with
  | zero => intro x a1 a2 a3 a4 a5 a6 hf; cases hf
  | succ n9 ih => intro x a1 a2 a3 a4 a5 a6 hf; exact tX7_countTold_13b hC F (fX7_countTold_13 F n9) ih x a1 a2 a3 a4 a5 a6 hf
set_option maxHeartbeats 4000000 in
set_option maxRecDepth 100000 in
theorem kX7_countTold (l : Launch) (D : va_G) (cy : Nat → ClassId) (tX tY : Nat) (ad : Nat → Nat) (A : Nat → Prop) (hA : apart ad A 12) (F : Nat) (x : HT) (a1 : Int32) {z : Int32 × HT} (hf : fX7_countTold F x a1 = some z) : Met l yX7_countTold (Cond.code yX7_countTold cX7_countTold 8 (some .int) :: wAll) { frames := 4, cells := 0, slots := 0, locals := 87 } (cPc (eM cy ad) 12 ad D cy tX tY A [.ref (ad 0), .int a1] x) (cQi (eM cy ad) 12 ad D A z) 0 0 A := by
  refine gMet hA (by decide) (Nat.le_of_ble_eq_true rfl) (fun p e s m below meth c hC H locs ls hP hS hl => ?_)
  have hC : Cf p s m _ meth c cX7_countTold 8 RX7 (some .int) D cy tX tY ad A 12 := hC
  have hl : lv_has ls 8 [(0, .ref (ad 0)), (1, .int a1)] := hl
  obtain ⟨hx, hb, -⟩ := id hC
  refine lv_iconst (v := 0) hx hb dX7_countTold_0 (by decide) ?_
  refine lv_istore_n (lv' := [(2, .int (0 : Int32)), (0, .ref (ad 0)), (1, .int a1)]) hx hb dX7_countTold_1 rfl hl (by decide) rfl (fun ls hl => ?_)
  refine lv_iconst (v := 0) hx hb dX7_countTold_2 (by decide) ?_
  refine lv_istore_n (lv' := [(3, .int (0 : Int32)), (2, .int (0 : Int32)), (0, .ref (ad 0)), (1, .int a1)]) hx hb dX7_countTold_3 rfl hl (by decide) rfl (fun ls hl => ?_)
  refine lv_iconst (v := 0) hx hb dX7_countTold_4 (by decide) ?_
  refine lv_istore (lv' := [(4, .int (0 : Int32)), (3, .int (0 : Int32)), (2, .int (0 : Int32)), (0, .ref (ad 0)), (1, .int a1)]) hx hb dX7_countTold_5 hl (by decide) rfl (fun ls hl => ?_)
  refine lv_iconst (v := 0) hx hb dX7_countTold_7 (by decide) ?_
  refine lv_istore (lv' := [(5, .int (0 : Int32)), (4, .int (0 : Int32)), (3, .int (0 : Int32)), (2, .int (0 : Int32)), (0, .ref (ad 0)), (1, .int a1)]) hx hb dX7_countTold_8 hl (by decide) rfl (fun ls hl => ?_)
  refine lv_iconst (v := 0) hx hb dX7_countTold_10 (by decide) ?_
  refine lv_istore (lv' := [(6, .int (0 : Int32)), (5, .int (0 : Int32)), (4, .int (0 : Int32)), (3, .int (0 : Int32)), (2, .int (0 : Int32)), (0, .ref (ad 0)), (1, .int a1)]) hx hb dX7_countTold_11 hl (by decide) rfl (fun ls hl => ?_)
  exact tX7_countTold_13 hC F F x a1 (0 : Int32) (0 : Int32) (0 : Int32) (0 : Int32) (0 : Int32) hf H locs ls hP hS (lv_sub hl [5, 6, 4, 3, 2, 1, 0] rfl)
