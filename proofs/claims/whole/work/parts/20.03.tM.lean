variable {p : Program} {l : Launch} {e : Env} {s : State} {m : MethodId} {args : Array Value} {below : List Frame} {meth : Method} {c : Code} {D : va_G} {cy : Nat → ClassId} {tX tY : Nat} {ad : Nat → Nat} {A : Nat → Prop}
set_option maxHeartbeats 4000000 in
set_option maxRecDepth 100000 in
theorem kX7_count (l : Launch) (D : va_G) (cy : Nat → ClassId) (tX tY : Nat) (ad : Nat → Nat) (A : Nat → Prop) (hA : apart ad A 12) (F : Nat) (x : HT) (a1 : Int32) {z : Int32 × HT} (hf : fX7_count F x a1 = some z) : Met l yX7_count (Cond.code yX7_count cX7_count 2 (some .int) :: wAll) { frames := 6, cells := 0, slots := 0, locals := 144 } (cPc (eM cy ad) 12 ad D cy tX tY A [.ref (ad 0), .int a1] x) (cQi (eM cy ad) 12 ad D A z) 0 0 A := by
  refine gMet hA (by decide) (Nat.le_of_ble_eq_true rfl) (fun p e s m below meth c hC H locs ls hP hS hl => ?_)
  have hC : Cf p s m _ meth c cX7_count 2 RX7 (some .int) D cy tX tY ad A 12 := hC
  have hl : lv_has ls 2 [(0, .ref (ad 0)), (1, .int a1)] := hl
  obtain ⟨hx, hb, -⟩ := id hC
  refine lv_iload_n hx hb dX7_count_0 rfl (lv_at hl 1 rfl) ?_
  refine lv_iconst (v := 0) hx hb dX7_count_1 (by decide) ?_
  refine lv_bipush (v := 7) hx hb dX7_count_2 (by decide) ?_
  obtain ⟨r2, x1, e3, hf⟩ := bd_some hf
  refine gSi (As := [.int a1, .int (0 : Int32), .int (7 : Int32)]) (rest := []) hC hP hS (kX7_in l D cy tX tY ad A hC.2.2.2.2.2.2.2.2.1 F x a1 (0 : Int32) (7 : Int32) e3) glX7_54 ⟨rfl, rfl⟩ hdX7_in ⟨Nat.le_of_ble_eq_true rfl, Nat.le_of_ble_eq_true rfl⟩ rfl hl.1 rfl (Nat.le_of_ble_eq_true rfl) dX7_count_4 ⟨Nat.zero_le _, Nat.zero_le _⟩ (fun H locs hP hS => ?_)
  refine lv_if_ne (tgt := 17) hx hb dX7_count_7 (by decide) (fun c4 => ?_) (fun c4 => ?_)
  · have hf := it_f c4 hf
    refine lv_aload_n hx hb dX7_count_17 rfl (lv_at hl 0 rfl) ?_
    obtain ⟨r6, x5, e7, hf⟩ := bd_some hf
    refine gVv (As := []) (rest := []) (k := 0) hC hP hS (kX7_laysWays l D cy tX tY ad A hC.2.2.2.2.2.2.2.2.1 F x1 e7) glX7_129 ⟨rfl, rfl⟩ hdX7_laysWays ⟨Nat.le_of_ble_eq_true rfl, Nat.le_of_ble_eq_true rfl⟩ (by decide) (eM_0 cy ad _ _) rfl rfl hl.1 rfl (Nat.le_of_ble_eq_true rfl) dX7_count_18 ⟨Nat.zero_le _, Nat.zero_le _⟩ (fun H locs hP hS => ?_)
    refine lv_aload_n hx hb dX7_count_21 rfl (lv_at hl 0 rfl) ?_
    refine lv_iload_n hx hb dX7_count_22 rfl (lv_at hl 1 rfl) ?_
    obtain ⟨r9, x8, e10, hf⟩ := bd_some hf
    refine gVi (As := [.int a1]) (rest := []) (k := 0) hC hP hS (kX7_countTold l D cy tX tY ad A hC.2.2.2.2.2.2.2.2.1 F x5 a1 e10) glX7_200 ⟨rfl, rfl⟩ hdX7_countTold ⟨Nat.le_of_ble_eq_true rfl, Nat.le_of_ble_eq_true rfl⟩ (by decide) (eM_0 cy ad _ _) rfl rfl hl.1 rfl (Nat.le_of_ble_eq_true rfl) dX7_count_23 ⟨Nat.zero_le _, Nat.zero_le _⟩ (fun H locs hP hS => ?_)
    exact gIret hC hP hS hf dX7_count_26
  · have hf := it_t c4 hf
    refine lv_aload_n hx hb dX7_count_10 rfl (lv_at hl 0 rfl) ?_
    refine lv_bipush (v := -2) hx hb dX7_count_11 (by decide) ?_
    obtain ⟨r12, x11, e13, hf⟩ := bd_some hf
    refine gVi (As := [.int (-2 : Int32)]) (rest := []) (k := 0) hC hP hS (kX7_refuses l D cy tX tY ad A hC.2.2.2.2.2.2.2.2.1 F x1 (-2 : Int32) e13) glX7_47 ⟨rfl, rfl⟩ hdX7_refuses ⟨Nat.le_of_ble_eq_true rfl, Nat.le_of_ble_eq_true rfl⟩ (by decide) (eM_0 cy ad _ _) rfl rfl hl.1 rfl (Nat.le_of_ble_eq_true rfl) dX7_count_13 ⟨Nat.zero_le _, Nat.zero_le _⟩ (fun H locs hP hS => ?_)
    exact gIret hC hP hS hf dX7_count_16
set_option maxHeartbeats 4000000 in
set_option maxRecDepth 100000 in
theorem kX7_type (l : Launch) (D : va_G) (cy : Nat → ClassId) (tX tY : Nat) (ad : Nat → Nat) (A : Nat → Prop) (hA : apart ad A 12) (F : Nat) (x : HT) (a1 : Int32) {z : Int32 × HT} (hf : fX7_type F x a1 = some z) : Met l yX7_type (Cond.code yX7_type cX7_type 2 (some .int) :: wAll) { frames := 1, cells := 0, slots := 0, locals := 22 } (cPc (eM cy ad) 12 ad D cy tX tY A [.ref (ad 0), .int a1] x) (cQi (eM cy ad) 12 ad D A z) 0 0 A := by
  refine gMet hA (by decide) (Nat.le_of_ble_eq_true rfl) (fun p e s m below meth c hC H locs ls hP hS hl => ?_)
  have hC : Cf p s m _ meth c cX7_type 2 RX7 (some .int) D cy tX tY ad A 12 := hC
  have hl : lv_has ls 2 [(0, .ref (ad 0)), (1, .int a1)] := hl
  obtain ⟨hx, hb, -⟩ := id hC
  refine lv_iload_n hx hb dX7_type_0 rfl (lv_at hl 1 rfl) ?_
  refine lv_iconst (v := 0) hx hb dX7_type_1 (by decide) ?_
  refine lv_bipush (v := 127) hx hb dX7_type_2 (by decide) ?_
  obtain ⟨r2, x1, e3, hf⟩ := bd_some hf
  refine gSi (As := [.int a1, .int (0 : Int32), .int (127 : Int32)]) (rest := []) hC hP hS (kX7_in l D cy tX tY ad A hC.2.2.2.2.2.2.2.2.1 F x a1 (0 : Int32) (127 : Int32) e3) glX7_54 ⟨rfl, rfl⟩ hdX7_in ⟨Nat.le_of_ble_eq_true rfl, Nat.le_of_ble_eq_true rfl⟩ rfl hl.1 rfl (Nat.le_of_ble_eq_true rfl) dX7_type_4 ⟨Nat.zero_le _, Nat.zero_le _⟩ (fun H locs hP hS => ?_)
  refine lv_if_ne (tgt := 17) hx hb dX7_type_7 (by decide) (fun c4 => ?_) (fun c4 => ?_)
  · have hf := it_f c4 hf
    refine lv_aload_n hx hb dX7_type_17 rfl (lv_at hl 0 rfl) ?_
    refine gfX7_203 hC hP dX7_type_18 ?_
    refine lv_bipush (v := 120) hx hb dX7_type_21 (by decide) ?_
    refine lv_icmp_ne (tgt := 33) hx hb dX7_type_23 (by decide) (fun c5 => ?_) (fun c5 => ?_)
    · have hf := it_f c5 hf
      refine lv_aload_n hx hb dX7_type_33 rfl (lv_at hl 0 rfl) ?_
      refine gfX7_22 hC hP dX7_type_34 ?_
      refine lv_aload_n hx hb dX7_type_37 rfl (lv_at hl 0 rfl) ?_
      refine gfX7_203 hC hP dX7_type_38 ?_
      refine lv_iload_n hx hb dX7_type_41 rfl (lv_at hl 1 rfl) ?_
      obtain ⟨h6, hf⟩ := ck_some hf
      refine gIas hC hP hS 5 (by decide) (fun g9 => eM_5 cy ad g9 _) h6 dX7_type_42 (fun H locs hP hS => ?_)
      obtain ⟨x7, e8, hf⟩ := lt_some hf
      have hP : va_P D vwCl (wG (eM cy ad) 12 ad x7) H := by rw [e8]; exact hP
      refine lv_aload_n hx hb dX7_type_43 rfl (lv_at hl 0 rfl) ?_
      refine lv_dup hx hb dX7_type_44 rfl ?_
      refine gfX7_203 hC hP dX7_type_45 ?_
      refine lv_iconst (v := 1) hx hb dX7_type_48 (by decide) ?_
      refine lv_iadd hx hb dX7_type_49 ?_
      refine pfX7_203 hC hP hS dX7_type_50 (fun H locs hP hS => ?_)
      obtain ⟨x9, e10, hf⟩ := lt_some hf
      have hP : va_P D vwCl (wG (eM cy ad) 12 ad x9) H := by rw [e10]; exact hP
      refine lv_aload_n hx hb dX7_type_53 rfl (lv_at hl 0 rfl) ?_
      refine gfX7_203 hC hP dX7_type_54 ?_
      exact gIret hC hP hS hf dX7_type_57
    · have hf := it_t c5 hf
      refine lv_aload_n hx hb dX7_type_26 rfl (lv_at hl 0 rfl) ?_
      refine lv_bipush (v := -4) hx hb dX7_type_27 (by decide) ?_
      obtain ⟨r12, x11, e13, hf⟩ := bd_some hf
      refine gVi (As := [.int (-4 : Int32)]) (rest := []) (k := 0) hC hP hS (kX7_refuses l D cy tX tY ad A hC.2.2.2.2.2.2.2.2.1 F x1 (-4 : Int32) e13) glX7_47 ⟨rfl, rfl⟩ hdX7_refuses ⟨Nat.le_of_ble_eq_true rfl, Nat.le_of_ble_eq_true rfl⟩ (by decide) (eM_0 cy ad _ _) rfl rfl hl.1 rfl (Nat.le_of_ble_eq_true rfl) dX7_type_29 ⟨Nat.zero_le _, Nat.zero_le _⟩ (fun H locs hP hS => ?_)
      exact gIret hC hP hS hf dX7_type_32
  · have hf := it_t c4 hf
    refine lv_aload_n hx hb dX7_type_10 rfl (lv_at hl 0 rfl) ?_
    refine lv_bipush (v := -2) hx hb dX7_type_11 (by decide) ?_
    obtain ⟨r15, x14, e16, hf⟩ := bd_some hf
    refine gVi (As := [.int (-2 : Int32)]) (rest := []) (k := 0) hC hP hS (kX7_refuses l D cy tX tY ad A hC.2.2.2.2.2.2.2.2.1 F x1 (-2 : Int32) e16) glX7_47 ⟨rfl, rfl⟩ hdX7_refuses ⟨Nat.le_of_ble_eq_true rfl, Nat.le_of_ble_eq_true rfl⟩ (by decide) (eM_0 cy ad _ _) rfl rfl hl.1 rfl (Nat.le_of_ble_eq_true rfl) dX7_type_13 ⟨Nat.zero_le _, Nat.zero_le _⟩ (fun H locs hP hS => ?_)
    exact gIret hC hP hS hf dX7_type_16
set_option maxHeartbeats 4000000 in
set_option maxRecDepth 100000 in
theorem kX7_clear (l : Launch) (D : va_G) (cy : Nat → ClassId) (tX tY : Nat) (ad : Nat → Nat) (A : Nat → Prop) (hA : apart ad A 12) (F : Nat) (x : HT) {z : Int32 × HT} (hf : fX7_clear F x = some z) : Met l yX7_clear (Cond.code yX7_clear cX7_clear 2 (some .int) :: wAll) { frames := 0, cells := 0, slots := 0, locals := 0 } (cPc (eM cy ad) 12 ad D cy tX tY A [.ref (ad 0)] x) (cQi (eM cy ad) 12 ad D A z) 0 0 A := by
  refine gMet hA (by decide) (Nat.le_of_ble_eq_true rfl) (fun p e s m below meth c hC H locs ls hP hS hl => ?_)
  have hC : Cf p s m _ meth c cX7_clear 2 RX7 (some .int) D cy tX tY ad A 12 := hC
  have hl : lv_has ls 2 [(0, .ref (ad 0))] := hl
  obtain ⟨hx, hb, -⟩ := id hC
  refine lv_aload_n hx hb dX7_clear_0 rfl (lv_at hl 0 rfl) ?_
  refine gfX7_203 hC hP dX7_clear_1 ?_
  refine lv_topi (fun b1 e2 => ?_)
  have hf := lt_use e2 hf
  refine lv_istore_n (lv' := [(1, .int b1), (0, .ref (ad 0))]) hx hb dX7_clear_4 rfl hl (by decide) rfl (fun ls hl => ?_)
  refine lv_aload_n hx hb dX7_clear_5 rfl (lv_at hl 1 rfl) ?_
  refine lv_iconst (v := 0) hx hb dX7_clear_6 (by decide) ?_
  refine pfX7_203 hC hP hS dX7_clear_7 (fun H locs hP hS => ?_)
  obtain ⟨x3, e4, hf⟩ := lt_some hf
  have hP : va_P D vwCl (wG (eM cy ad) 12 ad x3) H := by rw [e4]; exact hP
  refine lv_iload_n hx hb dX7_clear_10 rfl (lv_at hl 0 rfl) ?_
  exact gIret hC hP hS hf dX7_clear_11
set_option maxHeartbeats 4000000 in
set_option maxRecDepth 100000 in
theorem tX7_isAt_32 (hC : Cf p s m args meth c cX7_isAt 3 RX7 (some .boolean) D cy tX tY ad A 12) (F : Nat) {z : Int32 × HT} : ∀ (x : HT), fX7_isAt_32 F x = some z → Wd p l e { frames := 1, cells := 0, slots := 0, locals := 22 } s m args below meth c D (eM cy ad) 12 ad A (cQi (eM cy ad) 12 ad D A z) 3 32 [] [] x := by
  intro x hf H locs ls hP hS hl
  obtain ⟨hx, hb, -⟩ := id hC
  refine lv_iconst (v := 0) hx hb dX7_isAt_32 (by decide) ?_
  exact gZret hC hP hS rfl hf dX7_isAt_33
set_option maxHeartbeats 4000000 in
set_option maxRecDepth 100000 in
theorem kX7_isAt (l : Launch) (D : va_G) (cy : Nat → ClassId) (tX tY : Nat) (ad : Nat → Nat) (A : Nat → Prop) (hA : apart ad A 12) (F : Nat) (x : HT) (a1 : Int32) (a2 : Int32) {z : Int32 × HT} (hf : fX7_isAt F x a1 a2 = some z) : Met l yX7_isAt (Cond.code yX7_isAt cX7_isAt 3 (some .boolean) :: wAll) { frames := 1, cells := 0, slots := 0, locals := 22 } (cPc (eM cy ad) 12 ad D cy tX tY A [.ref (ad 0), .int a1, .int a2] x) (cQi (eM cy ad) 12 ad D A z) 0 0 A := by
  refine gMet hA (by decide) (Nat.le_of_ble_eq_true rfl) (fun p e s m below meth c hC H locs ls hP hS hl => ?_)
  have hC : Cf p s m _ meth c cX7_isAt 3 RX7 (some .boolean) D cy tX tY ad A 12 := hC
  have hl : lv_has ls 3 [(0, .ref (ad 0)), (1, .int a1), (2, .int a2)] := hl
  obtain ⟨hx, hb, -⟩ := id hC
  refine lv_aload_n hx hb dX7_isAt_0 rfl (lv_at hl 0 rfl) ?_
  refine gfX7_206 hC hP dX7_isAt_1 ?_
  refine lv_aload_n hx hb dX7_isAt_4 rfl (lv_at hl 0 rfl) ?_
  refine gfX7_203 hC hP dX7_isAt_5 ?_
  refine lv_icmp_ge (tgt := 32) hx hb dX7_isAt_8 (by decide) (fun c1 => ?_) (fun c1 => ?_)
  · have hf := it_t c1 hf
    exact tX7_isAt_32 hC F x hf H locs ls hP hS (lv_sub hl [] rfl)
  · have hf := it_f c1 hf
    refine lv_aload_n hx hb dX7_isAt_11 rfl (lv_at hl 0 rfl) ?_
    refine gfX7_22 hC hP dX7_isAt_12 ?_
    refine lv_aload_n hx hb dX7_isAt_15 rfl (lv_at hl 0 rfl) ?_
    refine gfX7_206 hC hP dX7_isAt_16 ?_
    obtain ⟨h2, hf⟩ := ck_some hf
    refine gIal hC hP 5 (by decide) (eM_5 cy ad _ _) h2 dX7_isAt_19 ?_
    refine lv_iload_n hx hb dX7_isAt_20 rfl (lv_at hl 1 rfl) ?_
    refine lv_iload_n hx hb dX7_isAt_21 rfl (lv_at hl 2 rfl) ?_
    obtain ⟨r4, x3, e5, hf⟩ := bd_some hf
    refine gSi (As := [.int (x.1 5 (x.1 0 14).toNatClampNeg), .int a1, .int a2]) (rest := []) hC hP hS (kX7_in l D cy tX tY ad A hC.2.2.2.2.2.2.2.2.1 F x (x.1 5 (x.1 0 14).toNatClampNeg) a1 a2 e5) glX7_54 ⟨rfl, rfl⟩ hdX7_in ⟨Nat.le_of_ble_eq_true rfl, Nat.le_of_ble_eq_true rfl⟩ rfl hl.1 rfl (Nat.le_of_ble_eq_true rfl) dX7_isAt_22 ⟨Nat.zero_le _, Nat.zero_le _⟩ (fun H locs hP hS => ?_)
    refine lv_if_eq (tgt := 32) hx hb dX7_isAt_25 (by decide) (fun c6 => ?_) (fun c6 => ?_)
    · have hf := it_t c6 hf
      exact tX7_isAt_32 hC F x3 hf H locs ls hP hS (lv_sub hl [] rfl)
    · have hf := it_f c6 hf
      refine lv_iconst (v := 1) hx hb dX7_isAt_28 (by decide) ?_
      refine lv_goto (tgt := 33) hx hb dX7_isAt_29 (by decide) ?_
      exact gZret hC hP hS rfl hf dX7_isAt_33
set_option maxHeartbeats 4000000 in
set_option maxRecDepth 100000 in
theorem tX7_blanks_0b (hC : Cf p s m args meth c cX7_blanks 1 RX7 none D cy tX tY ad A 12) (F : Nat) {z : Unit × HT} (rec0 : HT → Option (Unit × HT)) (hrec0 : ∀ (x : HT), rec0 x = some z → Wd p l e { frames := 2, cells := 0, slots := 0, locals := 44 } s m args below meth c D (eM cy ad) 12 ad A (cQv (eM cy ad) 12 ad D A z) 1 0 [(0, .ref (ad 0))] [] x) : ∀ (x : HT), fX7_blanks_0b F rec0 x = some z → Wd p l e { frames := 2, cells := 0, slots := 0, locals := 44 } s m args below meth c D (eM cy ad) 12 ad A (cQv (eM cy ad) 12 ad D A z) 1 0 [(0, .ref (ad 0))] [] x := by
  intro x hf H locs ls hP hS hl
  obtain ⟨hx, hb, -⟩ := id hC
  refine lv_aload_n hx hb dX7_blanks_0 rfl (lv_at hl 0 rfl) ?_
  refine lv_bipush (v := 32) hx hb dX7_blanks_1 (by decide) ?_
  refine lv_bipush (v := 32) hx hb dX7_blanks_3 (by decide) ?_
  obtain ⟨r2, x1, e3, hf⟩ := bd_some hf
  refine gVi (As := [.int (32 : Int32), .int (32 : Int32)]) (rest := []) (k := 0) hC hP hS (kX7_isAt l D cy tX tY ad A hC.2.2.2.2.2.2.2.2.1 F x (32 : Int32) (32 : Int32) e3) glX7_209 ⟨rfl, rfl⟩ hdX7_isAt ⟨Nat.le_of_ble_eq_true rfl, Nat.le_of_ble_eq_true rfl⟩ (by decide) (eM_0 cy ad _ _) rfl rfl hl.1 rfl (Nat.le_of_ble_eq_true rfl) dX7_blanks_5 ⟨Nat.zero_le _, Nat.zero_le _⟩ (fun H locs hP hS => ?_)
  refine lv_if_eq (tgt := 24) hx hb dX7_blanks_8 (by decide) (fun c4 => ?_) (fun c4 => ?_)
  · have hf := it_t c4 hf
    exact gVret hC hP hS hf dX7_blanks_24
  · have hf := it_f c4 hf
    refine lv_aload_n hx hb dX7_blanks_11 rfl (lv_at hl 0 rfl) ?_
    refine lv_dup hx hb dX7_blanks_12 rfl ?_
    refine gfX7_206 hC hP dX7_blanks_13 ?_
    refine lv_iconst (v := 1) hx hb dX7_blanks_16 (by decide) ?_
    refine lv_iadd hx hb dX7_blanks_17 ?_
    refine pfX7_206 hC hP hS dX7_blanks_18 (fun H locs hP hS => ?_)
    obtain ⟨x5, e6, hf⟩ := lt_some hf
    have hP : va_P D vwCl (wG (eM cy ad) 12 ad x5) H := by rw [e6]; exact hP
    refine lv_goto (tgt := 0) hx hb dX7_blanks_21 (by decide) ?_
    exact hrec0 x5 hf H locs ls hP hS (lv_sub hl [0] rfl)
theorem tX7_blanks_0 (hC : Cf p s m args meth c cX7_blanks 1 RX7 none D cy tX tY ad A 12) (F : Nat) {z : Unit × HT} : ∀ (n9 : Nat) (x : HT), fX7_blanks_0 F n9 x = some z → Wd p l e { frames := 2, cells := 0, slots := 0, locals := 44 } s m args below meth c D (eM cy ad) 12 ad A (cQv (eM cy ad) 12 ad D A z) 1 0 [(0, .ref (ad 0))] [] x := by
  intro n9
  induction n9 with
  | zero => intro x hf; cases hf
  | succ n9 ih => intro x hf; exact tX7_blanks_0b hC F (fX7_blanks_0 F n9) ih x hf
set_option maxHeartbeats 4000000 in
set_option maxRecDepth 100000 in
theorem kX7_blanks (l : Launch) (D : va_G) (cy : Nat → ClassId) (tX tY : Nat) (ad : Nat → Nat) (A : Nat → Prop) (hA : apart ad A 12) (F : Nat) (x : HT) {z : Unit × HT} (hf : fX7_blanks F x = some z) : Met l yX7_blanks (Cond.code yX7_blanks cX7_blanks 1 none :: wAll) { frames := 2, cells := 0, slots := 0, locals := 44 } (cPc (eM cy ad) 12 ad D cy tX tY A [.ref (ad 0)] x) (cQv (eM cy ad) 12 ad D A z) 0 0 A := by
  refine gMet hA (by decide) (Nat.le_of_ble_eq_true rfl) (fun p e s m below meth c hC H locs ls hP hS hl => ?_)
  have hC : Cf p s m _ meth c cX7_blanks 1 RX7 none D cy tX tY ad A 12 := hC
  have hl : lv_has ls 1 [(0, .ref (ad 0))] := hl
  obtain ⟨hx, hb, -⟩ := id hC
  exact tX7_blanks_0 hC F F x hf H locs ls hP hS (lv_sub hl [0] rfl)
set_option maxHeartbeats 4000000 in
set_option maxRecDepth 100000 in
theorem kX7_manyOf (l : Launch) (D : va_G) (cy : Nat → ClassId) (tX tY : Nat) (ad : Nat → Nat) (A : Nat → Prop) (hA : apart ad A 12) (F : Nat) (x : HT) (a0 : Int32) {z : Int32 × HT} (hf : fX7_manyOf F x a0 = some z) : Met l yX7_manyOf (Cond.code yX7_manyOf cX7_manyOf 1 (some .int) :: wAll) { frames := 0, cells := 0, slots := 0, locals := 0 } (cPc (eM cy ad) 12 ad D cy tX tY A [.int a0] x) (cQi (eM cy ad) 12 ad D A z) 0 0 A := by
  refine gMet hA (by decide) (Nat.le_of_ble_eq_true rfl) (fun p e s m below meth c hC H locs ls hP hS hl => ?_)
  have hC : Cf p s m _ meth c cX7_manyOf 1 RX7 (some .int) D cy tX tY ad A 12 := hC
  have hl : lv_has ls 1 [(0, .int a0)] := hl
  obtain ⟨hx, hb, -⟩ := id hC
  refine lv_iload_n hx hb dX7_manyOf_0 rfl (lv_at hl 0 rfl) ?_
  by_cases c1 : a0 = (97 : Int32)
  · have hf := it_t c1 hf
    refine lv_lookup (tgt := 66) (off := 65) hx hb dX7_manyOf_1 (by decide) (by rw [c1]; decide) (by decide) ?_
    refine lv_iconst (v := 0) hx hb dX7_manyOf_66 (by decide) ?_
    exact gIret hC hP hS hf dX7_manyOf_67
  have hf := it_f c1 hf
  by_cases c2 : a0 = (103 : Int32)
  · have hf := it_t c2 hf
    refine lv_lookup (tgt := 60) (off := 59) hx hb dX7_manyOf_1 (by decide) (by rw [c2]; decide) (by decide) ?_
    refine lv_iconst (v := 3) hx hb dX7_manyOf_60 (by decide) ?_
    exact gIret hC hP hS hf dX7_manyOf_61
  have hf := it_f c2 hf
  by_cases c3 : a0 = (107 : Int32)
  · have hf := it_t c3 hf
    refine lv_lookup (tgt := 64) (off := 63) hx hb dX7_manyOf_1 (by decide) (by rw [c3]; decide) (by decide) ?_
    refine lv_iconst (v := 1) hx hb dX7_manyOf_64 (by decide) ?_
    exact gIret hC hP hS hf dX7_manyOf_65
  have hf := it_f c3 hf
  by_cases c4 : a0 = (109 : Int32)
  · have hf := it_t c4 hf
    refine lv_lookup (tgt := 60) (off := 59) hx hb dX7_manyOf_1 (by decide) (by rw [c4]; decide) (by decide) ?_
    refine lv_iconst (v := 3) hx hb dX7_manyOf_60 (by decide) ?_
    exact gIret hC hP hS hf dX7_manyOf_61
  have hf := it_f c4 hf
  by_cases c5 : a0 = (116 : Int32)
  · have hf := it_t c5 hf
    refine lv_lookup (tgt := 60) (off := 59) hx hb dX7_manyOf_1 (by decide) (by rw [c5]; decide) (by decide) ?_
    refine lv_iconst (v := 3) hx hb dX7_manyOf_60 (by decide) ?_
    exact gIret hC hP hS hf dX7_manyOf_61
  have hf := it_f c5 hf
  by_cases c6 : a0 = (119 : Int32)
  · have hf := it_t c6 hf
    refine lv_lookup (tgt := 62) (off := 61) hx hb dX7_manyOf_1 (by decide) (by rw [c6]; decide) (by decide) ?_
    refine lv_iconst (v := 2) hx hb dX7_manyOf_62 (by decide) ?_
    exact gIret hC hP hS hf dX7_manyOf_63
  have hf := it_f c6 hf
  refine lv_lookup (tgt := 68) (off := 67) hx hb dX7_manyOf_1 (by decide) ((lv_osw c1 (by decide)).trans ((lv_osw c2 (by decide)).trans ((lv_osw c3 (by decide)).trans ((lv_osw c4 (by decide)).trans ((lv_osw c5 (by decide)).trans ((lv_osw c6 (by decide)).trans rfl)))))) (by decide) ?_
  refine lv_iconst (v := -1) hx hb dX7_manyOf_68 (by decide) ?_
  exact gIret hC hP hS hf dX7_manyOf_69
set_option maxHeartbeats 4000000 in
set_option maxRecDepth 100000 in
theorem kX7_fails (l : Launch) (D : va_G) (cy : Nat → ClassId) (tX tY : Nat) (ad : Nat → Nat) (A : Nat → Prop) (hA : apart ad A 12) (F : Nat) (x : HT) {z : Int32 × HT} (hf : fX7_fails F x = some z) : Met l yX7_fails (Cond.code yX7_fails cX7_fails 1 (some .boolean) :: wAll) { frames := 0, cells := 0, slots := 0, locals := 0 } (cPc (eM cy ad) 12 ad D cy tX tY A [.ref (ad 0)] x) (cQi (eM cy ad) 12 ad D A z) 0 0 A := by
  refine gMet hA (by decide) (Nat.le_of_ble_eq_true rfl) (fun p e s m below meth c hC H locs ls hP hS hl => ?_)
  have hC : Cf p s m _ meth c cX7_fails 1 RX7 (some .boolean) D cy tX tY ad A 12 := hC
  have hl : lv_has ls 1 [(0, .ref (ad 0))] := hl
  obtain ⟨hx, hb, -⟩ := id hC
  refine lv_aload_n hx hb dX7_fails_0 rfl (lv_at hl 0 rfl) ?_
  refine lv_aload_n hx hb dX7_fails_1 rfl (lv_at hl 0 rfl) ?_
  refine gfX7_206 hC hP dX7_fails_2 ?_
  refine pfX7_212 hC hP hS dX7_fails_5 (fun H locs hP hS => ?_)
  obtain ⟨x1, e2, hf⟩ := lt_some hf
  have hP : va_P D vwCl (wG (eM cy ad) 12 ad x1) H := by rw [e2]; exact hP
  refine lv_iconst (v := 0) hx hb dX7_fails_8 (by decide) ?_
  exact gZret hC hP hS rfl hf dX7_fails_9
set_option maxHeartbeats 4000000 in
set_option maxRecDepth 100000 in
theorem tX7_takesNumber_90 (hC : Cf p s m args meth c cX7_takesNumber 4 RX7 (some .boolean) D cy tX tY ad A 12) (F : Nat) {z : Int32 × HT} : ∀ (x : HT), fX7_takesNumber_90 F x = some z → Wd p l e { frames := 3, cells := 0, slots := 0, locals := 64 } s m args below meth c D (eM cy ad) 12 ad A (cQi (eM cy ad) 12 ad D A z) 4 90 [] [] x := by
  intro x hf H locs ls hP hS hl
  obtain ⟨hx, hb, -⟩ := id hC
  refine lv_iconst (v := 1) hx hb dX7_takesNumber_90 (by decide) ?_
  refine lv_goto (tgt := 95) hx hb dX7_takesNumber_91 (by decide) ?_
  exact gZret hC hP hS rfl hf dX7_takesNumber_95
set_option maxHeartbeats 4000000 in
set_option maxRecDepth 100000 in
theorem tX7_takesNumber_11b (hC : Cf p s m args meth c cX7_takesNumber 4 RX7 (some .boolean) D cy tX tY ad A 12) (F : Nat) {z : Int32 × HT} (rec11 : HT → Int32 → Int32 → Int32 → Option (Int32 × HT)) (hrec11 : ∀ (x : HT) (a1 : Int32) (a2 : Int32) (a3 : Int32), rec11 x a1 a2 a3 = some z → Wd p l e { frames := 3, cells := 0, slots := 0, locals := 64 } s m args below meth c D (eM cy ad) 12 ad A (cQi (eM cy ad) 12 ad D A z) 4 11 [(0, .ref (ad 0)), (1, .int a1), (2, .int a2), (3, .int a3)] [] x) : ∀ (x : HT) (a1 : Int32) (a2 : Int32) (a3 : Int32), fX7_takesNumber_11b F rec11 x a1 a2 a3 = some z → Wd p l e { frames := 3, cells := 0, slots := 0, locals := 64 } s m args below meth c D (eM cy ad) 12 ad A (cQi (eM cy ad) 12 ad D A z) 4 11 [(0, .ref (ad 0)), (1, .int a1), (2, .int a2), (3, .int a3)] [] x := by
  intro x a1 a2 a3 hf H locs ls hP hS hl
  obtain ⟨hx, hb, -⟩ := id hC
  refine lv_aload_n hx hb dX7_takesNumber_11 rfl (lv_at hl 0 rfl) ?_
  refine lv_bipush (v := 48) hx hb dX7_takesNumber_12 (by decide) ?_
  refine lv_bipush (v := 57) hx hb dX7_takesNumber_14 (by decide) ?_
  obtain ⟨r7, x6, e8, hf⟩ := bd_some hf
  refine gVi (As := [.int (48 : Int32), .int (57 : Int32)]) (rest := []) (k := 0) hC hP hS (kX7_isAt l D cy tX tY ad A hC.2.2.2.2.2.2.2.2.1 F x (48 : Int32) (57 : Int32) e8) glX7_209 ⟨rfl, rfl⟩ hdX7_isAt ⟨Nat.le_of_ble_eq_true rfl, Nat.le_of_ble_eq_true rfl⟩ (by decide) (eM_0 cy ad _ _) rfl rfl hl.1 rfl (Nat.le_of_ble_eq_true rfl) dX7_takesNumber_16 ⟨Nat.zero_le _, Nat.zero_le _⟩ (fun H locs hP hS => ?_)
  refine lv_if_eq (tgt := 68) hx hb dX7_takesNumber_19 (by decide) (fun c9 => ?_) (fun c9 => ?_)
  · have hf := it_t c9 hf
    refine lv_aload_n hx hb dX7_takesNumber_68 rfl (lv_at hl 0 rfl) ?_
    refine gfX7_40 hC hP dX7_takesNumber_69 ?_
    refine lv_iload_n hx hb dX7_takesNumber_72 rfl (lv_at hl 1 rfl) ?_
    refine lv_iload_n hx hb dX7_takesNumber_73 rfl (lv_at hl 3 rfl) ?_
    obtain ⟨h10, hf⟩ := ck_some hf
    refine gIas hC hP hS 11 (by decide) (fun g9 => eM_11 cy ad g9 _) h10 dX7_takesNumber_74 (fun H locs hP hS => ?_)
    obtain ⟨x11, e12, hf⟩ := lt_some hf
    have hP : va_P D vwCl (wG (eM cy ad) 12 ad x11) H := by rw [e12]; exact hP
    refine lv_aload_n hx hb dX7_takesNumber_75 rfl (lv_at hl 0 rfl) ?_
    refine gfX7_206 hC hP dX7_takesNumber_76 ?_
    refine lv_iload_n hx hb dX7_takesNumber_79 rfl (lv_at hl 2 rfl) ?_
    refine lv_icmp_gt (tgt := 90) hx hb dX7_takesNumber_80 (by decide) (fun c13 => ?_) (fun c13 => ?_)
    · have hf := it_t c13 hf
      exact tX7_takesNumber_90 hC F x11 hf H locs ls hP hS (lv_sub hl [] rfl)
    · have hf := it_f c13 hf
      refine lv_aload_n hx hb dX7_takesNumber_83 rfl (lv_at hl 0 rfl) ?_
      obtain ⟨r15, x14, e16, hf⟩ := bd_some hf
      refine gVi (As := []) (rest := []) (k := 0) hC hP hS (kX7_fails l D cy tX tY ad A hC.2.2.2.2.2.2.2.2.1 F x11 e16) glX7_218 ⟨rfl, rfl⟩ hdX7_fails ⟨Nat.le_of_ble_eq_true rfl, Nat.le_of_ble_eq_true rfl⟩ (by decide) (eM_0 cy ad _ _) rfl rfl hl.1 rfl (Nat.le_of_ble_eq_true rfl) dX7_takesNumber_84 ⟨Nat.zero_le _, Nat.zero_le _⟩ (fun H locs hP hS => ?_)
      refine lv_if_eq (tgt := 94) hx hb dX7_takesNumber_87 (by decide) (fun c17 => ?_) (fun c17 => ?_)
      · have hf := it_t c17 hf
        refine lv_iconst (v := 0) hx hb dX7_takesNumber_94 (by decide) ?_
        exact gZret hC hP hS rfl hf dX7_takesNumber_95
      · have hf := it_f c17 hf
        exact tX7_takesNumber_90 hC F x14 hf H locs ls hP hS (lv_sub hl [] rfl)
  · have hf := it_f c9 hf
    refine lv_aload_n hx hb dX7_takesNumber_22 rfl (lv_at hl 0 rfl) ?_
    refine gfX7_206 hC hP dX7_takesNumber_23 ?_
    refine lv_iload_n hx hb dX7_takesNumber_26 rfl (lv_at hl 2 rfl) ?_
    refine lv_iconst (v := 3) hx hb dX7_takesNumber_27 (by decide) ?_
    refine lv_iadd hx hb dX7_takesNumber_28 ?_
    refine lv_icmp_ne (tgt := 37) hx hb dX7_takesNumber_29 (by decide) (fun c18 => ?_) (fun c18 => ?_)
    · have hf := it_f c18 hf
      refine lv_bipush (v := 10) hx hb dX7_takesNumber_37 (by decide) ?_
      refine lv_iload_n hx hb dX7_takesNumber_39 rfl (lv_at hl 3 rfl) ?_
      refine lv_imul hx hb dX7_takesNumber_40 ?_
      refine lv_aload_n hx hb dX7_takesNumber_41 rfl (lv_at hl 0 rfl) ?_
      refine gfX7_22 hC hP dX7_takesNumber_42 ?_
      refine lv_aload_n hx hb dX7_takesNumber_45 rfl (lv_at hl 0 rfl) ?_
      refine gfX7_206 hC hP dX7_takesNumber_46 ?_
      obtain ⟨h19, hf⟩ := ck_some hf
      refine gIal hC hP 5 (by decide) (eM_5 cy ad _ _) h19 dX7_takesNumber_49 ?_
      refine lv_iadd hx hb dX7_takesNumber_50 ?_
      refine lv_bipush (v := 48) hx hb dX7_takesNumber_51 (by decide) ?_
      refine lv_isub hx hb dX7_takesNumber_53 ?_
      refine lv_topi (fun b20 e21 => ?_)
      have hf := lt_use e21 hf
      refine lv_istore_n (lv' := [(3, .int b20), (0, .ref (ad 0)), (1, .int a1), (2, .int a2)]) hx hb dX7_takesNumber_54 rfl hl (by decide) rfl (fun ls hl => ?_)
      refine lv_aload_n hx hb dX7_takesNumber_55 rfl (lv_at hl 1 rfl) ?_
      refine lv_dup hx hb dX7_takesNumber_56 rfl ?_
      refine gfX7_206 hC hP dX7_takesNumber_57 ?_
      refine lv_iconst (v := 1) hx hb dX7_takesNumber_60 (by decide) ?_
      refine lv_iadd hx hb dX7_takesNumber_61 ?_
      refine pfX7_206 hC hP hS dX7_takesNumber_62 (fun H locs hP hS => ?_)
      obtain ⟨x22, e23, hf⟩ := lt_some hf
      have hP : va_P D vwCl (wG (eM cy ad) 12 ad x22) H := by rw [e23]; exact hP
      refine lv_goto (tgt := 11) hx hb dX7_takesNumber_65 (by decide) ?_
      exact hrec11 x22 a1 a2 b20 hf H locs ls hP hS (lv_sub hl [1, 2, 3, 0] rfl)
    · have hf := it_t c18 hf
      refine lv_aload_n hx hb dX7_takesNumber_32 rfl (lv_at hl 0 rfl) ?_
      obtain ⟨r25, x24, e26, hf⟩ := bd_some hf
      refine gVi (As := []) (rest := []) (k := 0) hC hP hS (kX7_fails l D cy tX tY ad A hC.2.2.2.2.2.2.2.2.1 F x6 e26) glX7_218 ⟨rfl, rfl⟩ hdX7_fails ⟨Nat.le_of_ble_eq_true rfl, Nat.le_of_ble_eq_true rfl⟩ (by decide) (eM_0 cy ad _ _) rfl rfl hl.1 rfl (Nat.le_of_ble_eq_true rfl) dX7_takesNumber_33 ⟨Nat.zero_le _, Nat.zero_le _⟩ (fun H locs hP hS => ?_)
      obtain ⟨h27, hf⟩ := ck_some hf
      exact gZret hC hP hS h27 hf dX7_takesNumber_36
theorem tX7_takesNumber_11 (hC : Cf p s m args meth c cX7_takesNumber 4 RX7 (some .boolean) D cy tX tY ad A 12) (F : Nat) {z : Int32 × HT} : ∀ (n9 : Nat) (x : HT) (a1 : Int32) (a2 : Int32) (a3 : Int32), fX7_takesNumber_11 F n9 x a1 a2 a3 = some z → Wd p l e { frames := 3, cells := 0, slots := 0, locals := 64 } s m args below meth c D (eM cy ad) 12 ad A (cQi (eM cy ad) 12 ad D A z) 4 11 [(0, .ref (ad 0)), (1, .int a1), (2, .int a2), (3, .int a3)] [] x := by
  intro n9
  induction n9 with
  | zero => intro x a1 a2 a3 hf; cases hf
  | succ n9 ih => intro x a1 a2 a3 hf; exact tX7_takesNumber_11b hC F (fX7_takesNumber_11 F n9) ih x a1 a2 a3 hf
set_option maxHeartbeats 4000000 in
set_option maxRecDepth 100000 in
theorem kX7_takesNumber (l : Launch) (D : va_G) (cy : Nat → ClassId) (tX tY : Nat) (ad : Nat → Nat) (A : Nat → Prop) (hA : apart ad A 12) (F : Nat) (x : HT) (a1 : Int32) {z : Int32 × HT} (hf : fX7_takesNumber F x a1 = some z) : Met l yX7_takesNumber (Cond.code yX7_takesNumber cX7_takesNumber 4 (some .boolean) :: wAll) { frames := 3, cells := 0, slots := 0, locals := 64 } (cPc (eM cy ad) 12 ad D cy tX tY A [.ref (ad 0), .int a1] x) (cQi (eM cy ad) 12 ad D A z) 0 0 A := by
  refine gMet hA (by decide) (Nat.le_of_ble_eq_true rfl) (fun p e s m below meth c hC H locs ls hP hS hl => ?_)
  have hC : Cf p s m _ meth c cX7_takesNumber 4 RX7 (some .boolean) D cy tX tY ad A 12 := hC
  have hl : lv_has ls 4 [(0, .ref (ad 0)), (1, .int a1)] := hl
  obtain ⟨hx, hb, -⟩ := id hC
  refine lv_aload_n hx hb dX7_takesNumber_0 rfl (lv_at hl 0 rfl) ?_
  obtain ⟨r2, x1, e3, hf⟩ := bd_some hf
  refine gVv (As := []) (rest := []) (k := 0) hC hP hS (kX7_blanks l D cy tX tY ad A hC.2.2.2.2.2.2.2.2.1 F x e3) glX7_215 ⟨rfl, rfl⟩ hdX7_blanks ⟨Nat.le_of_ble_eq_true rfl, Nat.le_of_ble_eq_true rfl⟩ (by decide) (eM_0 cy ad _ _) rfl rfl hl.1 rfl (Nat.le_of_ble_eq_true rfl) dX7_takesNumber_1 ⟨Nat.zero_le _, Nat.zero_le _⟩ (fun H locs hP hS => ?_)
  refine lv_aload_n hx hb dX7_takesNumber_4 rfl (lv_at hl 0 rfl) ?_
  refine gfX7_206 hC hP dX7_takesNumber_5 ?_
  refine lv_topi (fun b4 e5 => ?_)
  have hf := lt_use e5 hf
  refine lv_istore_n (lv' := [(2, .int b4), (0, .ref (ad 0)), (1, .int a1)]) hx hb dX7_takesNumber_8 rfl hl (by decide) rfl (fun ls hl => ?_)
  refine lv_iconst (v := 0) hx hb dX7_takesNumber_9 (by decide) ?_
  refine lv_istore_n (lv' := [(3, .int (0 : Int32)), (2, .int b4), (0, .ref (ad 0)), (1, .int a1)]) hx hb dX7_takesNumber_10 rfl hl (by decide) rfl (fun ls hl => ?_)
  exact tX7_takesNumber_11 hC F F x1 a1 b4 (0 : Int32) hf H locs ls hP hS (lv_sub hl [2, 3, 1, 0] rfl)
set_option maxHeartbeats 4000000 in
set_option maxRecDepth 100000 in
theorem tX7_takesOrder_53b (hC : Cf p s m args meth c cX7_takesOrder 3 RX7 (some .boolean) D cy tX tY ad A 12) (F : Nat) {z : Int32 × HT} (rec53 : HT → Int32 → Int32 → Option (Int32 × HT)) (hrec53 : ∀ (x : HT) (a1 : Int32) (a2 : Int32), rec53 x a1 a2 = some z → Wd p l e { frames := 4, cells := 0, slots := 0, locals := 87 } s m args below meth c D (eM cy ad) 12 ad A (cQi (eM cy ad) 12 ad D A z) 3 53 [(0, .ref (ad 0)), (1, .int a1), (2, .int a2)] [] x) : ∀ (x : HT) (a1 : Int32) (a2 : Int32), fX7_takesOrder_53b F rec53 x a1 a2 = some z → Wd p l e { frames := 4, cells := 0, slots := 0, locals := 87 } s m args below meth c D (eM cy ad) 12 ad A (cQi (eM cy ad) 12 ad D A z) 3 53 [(0, .ref (ad 0)), (1, .int a1), (2, .int a2)] [] x := by
  intro x a1 a2 hf H locs ls hP hS hl
  obtain ⟨hx, hb, -⟩ := id hC
  refine lv_iload_n hx hb dX7_takesOrder_53 rfl (lv_at hl 2 rfl) ?_
  refine lv_iload_n hx hb dX7_takesOrder_54 rfl (lv_at hl 1 rfl) ?_
  refine lv_icmp_ge (tgt := 81) hx hb dX7_takesOrder_55 (by decide) (fun c16 => ?_) (fun c16 => ?_)
  · have hf := it_t c16 hf
    refine lv_aload_n hx hb dX7_takesOrder_81 rfl (lv_at hl 0 rfl) ?_
    obtain ⟨r18, x17, e19, hf⟩ := bd_some hf
    refine gVv (As := []) (rest := []) (k := 0) hC hP hS (kX7_blanks l D cy tX tY ad A hC.2.2.2.2.2.2.2.2.1 F x e19) glX7_215 ⟨rfl, rfl⟩ hdX7_blanks ⟨Nat.le_of_ble_eq_true rfl, Nat.le_of_ble_eq_true rfl⟩ (by decide) (eM_0 cy ad _ _) rfl rfl hl.1 rfl (Nat.le_of_ble_eq_true rfl) dX7_takesOrder_82 ⟨Nat.zero_le _, Nat.zero_le _⟩ (fun H locs hP hS => ?_)
    refine lv_aload_n hx hb dX7_takesOrder_85 rfl (lv_at hl 0 rfl) ?_
    refine lv_bipush (v := 59) hx hb dX7_takesOrder_86 (by decide) ?_
    refine lv_bipush (v := 59) hx hb dX7_takesOrder_88 (by decide) ?_
    obtain ⟨r21, x20, e22, hf⟩ := bd_some hf
    refine gVi (As := [.int (59 : Int32), .int (59 : Int32)]) (rest := []) (k := 0) hC hP hS (kX7_isAt l D cy tX tY ad A hC.2.2.2.2.2.2.2.2.1 F x17 (59 : Int32) (59 : Int32) e22) glX7_209 ⟨rfl, rfl⟩ hdX7_isAt ⟨Nat.le_of_ble_eq_true rfl, Nat.le_of_ble_eq_true rfl⟩ (by decide) (eM_0 cy ad _ _) rfl rfl hl.1 rfl (Nat.le_of_ble_eq_true rfl) dX7_takesOrder_90 ⟨Nat.zero_le _, Nat.zero_le _⟩ (fun H locs hP hS => ?_)
    refine lv_if_ne (tgt := 101) hx hb dX7_takesOrder_93 (by decide) (fun c23 => ?_) (fun c23 => ?_)
    · have hf := it_f c23 hf
      refine lv_aload_n hx hb dX7_takesOrder_101 rfl (lv_at hl 0 rfl) ?_
      refine lv_dup hx hb dX7_takesOrder_102 rfl ?_
      refine gfX7_206 hC hP dX7_takesOrder_103 ?_
      refine lv_iconst (v := 1) hx hb dX7_takesOrder_106 (by decide) ?_
      refine lv_iadd hx hb dX7_takesOrder_107 ?_
      refine pfX7_206 hC hP hS dX7_takesOrder_108 (fun H locs hP hS => ?_)
      obtain ⟨x24, e25, hf⟩ := lt_some hf
      have hP : va_P D vwCl (wG (eM cy ad) 12 ad x24) H := by rw [e25]; exact hP
      refine lv_aload_n hx hb dX7_takesOrder_111 rfl (lv_at hl 0 rfl) ?_
      refine lv_dup hx hb dX7_takesOrder_112 rfl ?_
      refine gfX7_225 hC hP dX7_takesOrder_113 ?_
      refine lv_iconst (v := 1) hx hb dX7_takesOrder_116 (by decide) ?_
      refine lv_iadd hx hb dX7_takesOrder_117 ?_
      refine pfX7_225 hC hP hS dX7_takesOrder_118 (fun H locs hP hS => ?_)
      obtain ⟨x26, e27, hf⟩ := lt_some hf
      have hP : va_P D vwCl (wG (eM cy ad) 12 ad x26) H := by rw [e27]; exact hP
      refine lv_iconst (v := 1) hx hb dX7_takesOrder_121 (by decide) ?_
      exact gZret hC hP hS rfl hf dX7_takesOrder_122
    · have hf := it_t c23 hf
      refine lv_aload_n hx hb dX7_takesOrder_96 rfl (lv_at hl 0 rfl) ?_
      obtain ⟨r29, x28, e30, hf⟩ := bd_some hf
      refine gVi (As := []) (rest := []) (k := 0) hC hP hS (kX7_fails l D cy tX tY ad A hC.2.2.2.2.2.2.2.2.1 F x20 e30) glX7_218 ⟨rfl, rfl⟩ hdX7_fails ⟨Nat.le_of_ble_eq_true rfl, Nat.le_of_ble_eq_true rfl⟩ (by decide) (eM_0 cy ad _ _) rfl rfl hl.1 rfl (Nat.le_of_ble_eq_true rfl) dX7_takesOrder_97 ⟨Nat.zero_le _, Nat.zero_le _⟩ (fun H locs hP hS => ?_)
      obtain ⟨h31, hf⟩ := ck_some hf
      exact gZret hC hP hS h31 hf dX7_takesOrder_100
  · have hf := it_f c16 hf
    refine lv_aload_n hx hb dX7_takesOrder_58 rfl (lv_at hl 0 rfl) ?_
    refine lv_iconst (v := 3) hx hb dX7_takesOrder_59 (by decide) ?_
    refine lv_aload_n hx hb dX7_takesOrder_60 rfl (lv_at hl 0 rfl) ?_
    refine gfX7_225 hC hP dX7_takesOrder_61 ?_
    refine lv_imul hx hb dX7_takesOrder_64 ?_
    refine lv_iload_n hx hb dX7_takesOrder_65 rfl (lv_at hl 2 rfl) ?_
    refine lv_iadd hx hb dX7_takesOrder_66 ?_
    obtain ⟨r33, x32, e34, hf⟩ := bd_some hf
    refine gVi (As := [.int (((3 : Int32) * (x.1 0 13)) + a2)]) (rest := []) (k := 0) hC hP hS (kX7_takesNumber l D cy tX tY ad A hC.2.2.2.2.2.2.2.2.1 F x (((3 : Int32) * (x.1 0 13)) + a2) e34) glX7_228 ⟨rfl, rfl⟩ hdX7_takesNumber ⟨Nat.le_of_ble_eq_true rfl, Nat.le_of_ble_eq_true rfl⟩ (by decide) (eM_0 cy ad _ _) rfl rfl hl.1 rfl (Nat.le_of_ble_eq_true rfl) dX7_takesOrder_67 ⟨Nat.zero_le _, Nat.zero_le _⟩ (fun H locs hP hS => ?_)
    refine lv_if_ne (tgt := 75) hx hb dX7_takesOrder_70 (by decide) (fun c35 => ?_) (fun c35 => ?_)
    · have hf := it_f c35 hf
      obtain ⟨b36, e37, hf⟩ := lt_some hf
      refine lv_iinc (v := b36) (lv' := [(2, .int b36), (0, .ref (ad 0)), (1, .int a1)]) hx hb dX7_takesOrder_75 hl (k := 2) rfl (by rw [e37]; rfl) (by decide) rfl (fun ls hl => ?_)
      refine lv_goto (tgt := 53) hx hb dX7_takesOrder_78 (by decide) ?_
      exact hrec53 x32 a1 b36 hf H locs ls hP hS (lv_sub hl [1, 2, 0] rfl)
    · have hf := it_t c35 hf
      refine lv_iconst (v := 0) hx hb dX7_takesOrder_73 (by decide) ?_
      exact gZret hC hP hS rfl hf dX7_takesOrder_74
theorem tX7_takesOrder_53 (hC : Cf p s m args meth c cX7_takesOrder 3 RX7 (some .boolean) D cy tX tY ad A 12) (F : Nat) {z : Int32 × HT} : ∀ (n9 : Nat) (x : HT) (a1 : Int32) (a2 : Int32), fX7_takesOrder_53 F n9 x a1 a2 = some z → Wd p l e { frames := 4, cells := 0, slots := 0, locals := 87 } s m args below meth c D (eM cy ad) 12 ad A (cQi (eM cy ad) 12 ad D A z) 3 53 [(0, .ref (ad 0)), (1, .int a1), (2, .int a2)] [] x := by
  intro n9
  induction n9 with
  | zero => intro x a1 a2 hf; cases hf
  | succ n9 ih => intro x a1 a2 hf; exact tX7_takesOrder_53b hC F (fX7_takesOrder_53 F n9) ih x a1 a2 hf
set_option maxHeartbeats 4000000 in
set_option maxRecDepth 100000 in
theorem kX7_takesOrder (l : Launch) (D : va_G) (cy : Nat → ClassId) (tX tY : Nat) (ad : Nat → Nat) (A : Nat → Prop) (hA : apart ad A 12) (F : Nat) (x : HT) {z : Int32 × HT} (hf : fX7_takesOrder F x = some z) : Met l yX7_takesOrder (Cond.code yX7_takesOrder cX7_takesOrder 3 (some .boolean) :: wAll) { frames := 4, cells := 0, slots := 0, locals := 87 } (cPc (eM cy ad) 12 ad D cy tX tY A [.ref (ad 0)] x) (cQi (eM cy ad) 12 ad D A z) 0 0 A := by
  refine gMet hA (by decide) (Nat.le_of_ble_eq_true rfl) (fun p e s m below meth c hC H locs ls hP hS hl => ?_)
  have hC : Cf p s m _ meth c cX7_takesOrder 3 RX7 (some .boolean) D cy tX tY ad A 12 := hC
  have hl : lv_has ls 3 [(0, .ref (ad 0))] := hl
  obtain ⟨hx, hb, -⟩ := id hC
  refine lv_aload_n hx hb dX7_takesOrder_0 rfl (lv_at hl 0 rfl) ?_
  refine gfX7_22 hC hP dX7_takesOrder_1 ?_
  refine lv_aload_n hx hb dX7_takesOrder_4 rfl (lv_at hl 0 rfl) ?_
  refine gfX7_206 hC hP dX7_takesOrder_5 ?_
  obtain ⟨h1, hf⟩ := ck_some hf
  refine gIal hC hP 5 (by decide) (eM_5 cy ad _ _) h1 dX7_takesOrder_8 ?_
  obtain ⟨r3, x2, e4, hf⟩ := bd_some hf
  refine gSi (As := [.int (x.1 5 (x.1 0 14).toNatClampNeg)]) (rest := []) hC hP hS (kX7_manyOf l D cy tX tY ad A hC.2.2.2.2.2.2.2.2.1 F x (x.1 5 (x.1 0 14).toNatClampNeg) e4) glX7_222 ⟨rfl, rfl⟩ hdX7_manyOf ⟨Nat.le_of_ble_eq_true rfl, Nat.le_of_ble_eq_true rfl⟩ rfl hl.1 rfl (Nat.le_of_ble_eq_true rfl) dX7_takesOrder_9 ⟨Nat.zero_le _, Nat.zero_le _⟩ (fun H locs hP hS => ?_)
  refine lv_istore_n (lv' := [(1, .int r3), (0, .ref (ad 0))]) hx hb dX7_takesOrder_12 rfl hl (by decide) rfl (fun ls hl => ?_)
  refine lv_iload_n hx hb dX7_takesOrder_13 rfl (lv_at hl 0 rfl) ?_
  refine lv_iconst (v := -1) hx hb dX7_takesOrder_14 (by decide) ?_
  refine lv_icmp_ne (tgt := 23) hx hb dX7_takesOrder_15 (by decide) (fun c5 => ?_) (fun c5 => ?_)
  · have hf := it_f c5 hf
    refine lv_aload_n hx hb dX7_takesOrder_23 rfl (lv_at hl 1 rfl) ?_
    refine gfX7_37 hC hP dX7_takesOrder_24 ?_
    refine lv_aload_n hx hb dX7_takesOrder_27 rfl (lv_at hl 1 rfl) ?_
    refine gfX7_225 hC hP dX7_takesOrder_28 ?_
    refine lv_aload_n hx hb dX7_takesOrder_31 rfl (lv_at hl 1 rfl) ?_
    refine gfX7_22 hC hP dX7_takesOrder_32 ?_
    refine lv_aload_n hx hb dX7_takesOrder_35 rfl (lv_at hl 1 rfl) ?_
    refine gfX7_206 hC hP dX7_takesOrder_36 ?_
    obtain ⟨h6, hf⟩ := ck_some hf
    refine gIal hC hP 5 (by decide) (eM_5 cy ad _ _) h6 dX7_takesOrder_39 ?_
    obtain ⟨h7, hf⟩ := ck_some hf
    refine gIas hC hP hS 10 (by decide) (fun g9 => eM_10 cy ad g9 _) h7 dX7_takesOrder_40 (fun H locs hP hS => ?_)
    obtain ⟨x8, e9, hf⟩ := lt_some hf
    have hP : va_P D vwCl (wG (eM cy ad) 12 ad x8) H := by rw [e9]; exact hP
    refine lv_aload_n hx hb dX7_takesOrder_41 rfl (lv_at hl 1 rfl) ?_
    refine lv_dup hx hb dX7_takesOrder_42 rfl ?_
    refine gfX7_206 hC hP dX7_takesOrder_43 ?_
    refine lv_iconst (v := 1) hx hb dX7_takesOrder_46 (by decide) ?_
    refine lv_iadd hx hb dX7_takesOrder_47 ?_
    refine pfX7_206 hC hP hS dX7_takesOrder_48 (fun H locs hP hS => ?_)
    obtain ⟨x10, e11, hf⟩ := lt_some hf
    have hP : va_P D vwCl (wG (eM cy ad) 12 ad x10) H := by rw [e11]; exact hP
    refine lv_iconst (v := 0) hx hb dX7_takesOrder_51 (by decide) ?_
    refine lv_istore_n (lv' := [(2, .int (0 : Int32)), (1, .int r3), (0, .ref (ad 0))]) hx hb dX7_takesOrder_52 rfl hl (by decide) rfl (fun ls hl => ?_)
    exact tX7_takesOrder_53 hC F F x10 r3 (0 : Int32) hf H locs ls hP hS (lv_sub hl [2, 1, 0] rfl)
  · have hf := it_t c5 hf
    refine lv_aload_n hx hb dX7_takesOrder_18 rfl (lv_at hl 1 rfl) ?_
    obtain ⟨r13, x12, e14, hf⟩ := bd_some hf
    refine gVi (As := []) (rest := []) (k := 0) hC hP hS (kX7_fails l D cy tX tY ad A hC.2.2.2.2.2.2.2.2.1 F x2 e14) glX7_218 ⟨rfl, rfl⟩ hdX7_fails ⟨Nat.le_of_ble_eq_true rfl, Nat.le_of_ble_eq_true rfl⟩ (by decide) (eM_0 cy ad _ _) rfl rfl hl.1 rfl (Nat.le_of_ble_eq_true rfl) dX7_takesOrder_19 ⟨Nat.zero_le _, Nat.zero_le _⟩ (fun H locs hP hS => ?_)
    obtain ⟨h15, hf⟩ := ck_some hf
    exact gZret hC hP hS h15 hf dX7_takesOrder_22
set_option maxHeartbeats 4000000 in
set_option maxRecDepth 100000 in
theorem tX7_isRead_55 (hC : Cf p s m args meth c cX7_isRead 1 RX7 (some .boolean) D cy tX tY ad A 12) (F : Nat) {z : Int32 × HT} : ∀ (x : HT), fX7_isRead_55 F x = some z → Wd p l e { frames := 5, cells := 0, slots := 0, locals := 109 } s m args below meth c D (eM cy ad) 12 ad A (cQi (eM cy ad) 12 ad D A z) 1 55 [] [] x := by
  intro x hf H locs ls hP hS hl
  obtain ⟨hx, hb, -⟩ := id hC
  refine lv_iconst (v := 1) hx hb dX7_isRead_55 (by decide) ?_
  refine lv_goto (tgt := 60) hx hb dX7_isRead_56 (by decide) ?_
  exact gZret hC hP hS rfl hf dX7_isRead_60
set_option maxHeartbeats 4000000 in
set_option maxRecDepth 100000 in
theorem tX7_isRead_14b (hC : Cf p s m args meth c cX7_isRead 1 RX7 (some .boolean) D cy tX tY ad A 12) (F : Nat) {z : Int32 × HT} (rec14 : HT → Option (Int32 × HT)) (hrec14 : ∀ (x : HT), rec14 x = some z → Wd p l e { frames := 5, cells := 0, slots := 0, locals := 109 } s m args below meth c D (eM cy ad) 12 ad A (cQi (eM cy ad) 12 ad D A z) 1 14 [(0, .ref (ad 0))] [] x) : ∀ (x : HT), fX7_isRead_14b F rec14 x = some z → Wd p l e { frames := 5, cells := 0, slots := 0, locals := 109 } s m args below meth c D (eM cy ad) 12 ad A (cQi (eM cy ad) 12 ad D A z) 1 14 [(0, .ref (ad 0))] [] x := by
  intro x hf H locs ls hP hS hl
  obtain ⟨hx, hb, -⟩ := id hC
  refine lv_aload_n hx hb dX7_isRead_14 rfl (lv_at hl 0 rfl) ?_
  refine gfX7_206 hC hP dX7_isRead_15 ?_
  refine lv_aload_n hx hb dX7_isRead_18 rfl (lv_at hl 0 rfl) ?_
  refine gfX7_203 hC hP dX7_isRead_19 ?_
  refine lv_icmp_ge (tgt := 41) hx hb dX7_isRead_22 (by decide) (fun c8 => ?_) (fun c8 => ?_)
  · have hf := it_t c8 hf
    refine lv_aload_n hx hb dX7_isRead_41 rfl (lv_at hl 0 rfl) ?_
    refine gfX7_225 hC hP dX7_isRead_42 ?_
    refine lv_if_gt (tgt := 55) hx hb dX7_isRead_45 (by decide) (fun c9 => ?_) (fun c9 => ?_)
    · have hf := it_t c9 hf
      exact tX7_isRead_55 hC F x hf H locs ls hP hS (lv_sub hl [] rfl)
    · have hf := it_f c9 hf
      refine lv_aload_n hx hb dX7_isRead_48 rfl (lv_at hl 0 rfl) ?_
      obtain ⟨r11, x10, e12, hf⟩ := bd_some hf
      refine gVi (As := []) (rest := []) (k := 0) hC hP hS (kX7_fails l D cy tX tY ad A hC.2.2.2.2.2.2.2.2.1 F x e12) glX7_218 ⟨rfl, rfl⟩ hdX7_fails ⟨Nat.le_of_ble_eq_true rfl, Nat.le_of_ble_eq_true rfl⟩ (by decide) (eM_0 cy ad _ _) rfl rfl hl.1 rfl (Nat.le_of_ble_eq_true rfl) dX7_isRead_49 ⟨Nat.zero_le _, Nat.zero_le _⟩ (fun H locs hP hS => ?_)
      refine lv_if_eq (tgt := 59) hx hb dX7_isRead_52 (by decide) (fun c13 => ?_) (fun c13 => ?_)
      · have hf := it_t c13 hf
        refine lv_iconst (v := 0) hx hb dX7_isRead_59 (by decide) ?_
        exact gZret hC hP hS rfl hf dX7_isRead_60
      · have hf := it_f c13 hf
        exact tX7_isRead_55 hC F x10 hf H locs ls hP hS (lv_sub hl [] rfl)
  · have hf := it_f c8 hf
    refine lv_aload_n hx hb dX7_isRead_25 rfl (lv_at hl 0 rfl) ?_
    obtain ⟨r15, x14, e16, hf⟩ := bd_some hf
    refine gVi (As := []) (rest := []) (k := 0) hC hP hS (kX7_takesOrder l D cy tX tY ad A hC.2.2.2.2.2.2.2.2.1 F x e16) glX7_231 ⟨rfl, rfl⟩ hdX7_takesOrder ⟨Nat.le_of_ble_eq_true rfl, Nat.le_of_ble_eq_true rfl⟩ (by decide) (eM_0 cy ad _ _) rfl rfl hl.1 rfl (Nat.le_of_ble_eq_true rfl) dX7_isRead_26 ⟨Nat.zero_le _, Nat.zero_le _⟩ (fun H locs hP hS => ?_)
    refine lv_if_ne (tgt := 34) hx hb dX7_isRead_29 (by decide) (fun c17 => ?_) (fun c17 => ?_)
    · have hf := it_f c17 hf
      refine lv_aload_n hx hb dX7_isRead_34 rfl (lv_at hl 0 rfl) ?_
      obtain ⟨r19, x18, e20, hf⟩ := bd_some hf
      refine gVv (As := []) (rest := []) (k := 0) hC hP hS (kX7_blanks l D cy tX tY ad A hC.2.2.2.2.2.2.2.2.1 F x14 e20) glX7_215 ⟨rfl, rfl⟩ hdX7_blanks ⟨Nat.le_of_ble_eq_true rfl, Nat.le_of_ble_eq_true rfl⟩ (by decide) (eM_0 cy ad _ _) rfl rfl hl.1 rfl (Nat.le_of_ble_eq_true rfl) dX7_isRead_35 ⟨Nat.zero_le _, Nat.zero_le _⟩ (fun H locs hP hS => ?_)
      refine lv_goto (tgt := 14) hx hb dX7_isRead_38 (by decide) ?_
      exact hrec14 x18 hf H locs ls hP hS (lv_sub hl [0] rfl)
    · have hf := it_t c17 hf
      refine lv_iconst (v := 0) hx hb dX7_isRead_32 (by decide) ?_
      exact gZret hC hP hS rfl hf dX7_isRead_33
theorem tX7_isRead_14 (hC : Cf p s m args meth c cX7_isRead 1 RX7 (some .boolean) D cy tX tY ad A 12) (F : Nat) {z : Int32 × HT} : ∀ (n9 : Nat) (x : HT), fX7_isRead_14 F n9 x = some z → Wd p l e { frames := 5, cells := 0, slots := 0, locals := 109 } s m args below meth c D (eM cy ad) 12 ad A (cQi (eM cy ad) 12 ad D A z) 1 14 [(0, .ref (ad 0))] [] x := by
  intro n9
  induction n9 with
  | zero => intro x hf; cases hf
  | succ n9 ih => intro x hf; exact tX7_isRead_14b hC F (fX7_isRead_14 F n9) ih x hf
set_option maxHeartbeats 4000000 in
set_option maxRecDepth 100000 in
theorem kX7_isRead (l : Launch) (D : va_G) (cy : Nat → ClassId) (tX tY : Nat) (ad : Nat → Nat) (A : Nat → Prop) (hA : apart ad A 12) (F : Nat) (x : HT) {z : Int32 × HT} (hf : fX7_isRead F x = some z) : Met l yX7_isRead (Cond.code yX7_isRead cX7_isRead 1 (some .boolean) :: wAll) { frames := 5, cells := 0, slots := 0, locals := 109 } (cPc (eM cy ad) 12 ad D cy tX tY A [.ref (ad 0)] x) (cQi (eM cy ad) 12 ad D A z) 0 0 A := by
  refine gMet hA (by decide) (Nat.le_of_ble_eq_true rfl) (fun p e s m below meth c hC H locs ls hP hS hl => ?_)
  have hC : Cf p s m _ meth c cX7_isRead 1 RX7 (some .boolean) D cy tX tY ad A 12 := hC
  have hl : lv_has ls 1 [(0, .ref (ad 0))] := hl
  obtain ⟨hx, hb, -⟩ := id hC
  refine lv_aload_n hx hb dX7_isRead_0 rfl (lv_at hl 0 rfl) ?_
  refine lv_iconst (v := 0) hx hb dX7_isRead_1 (by decide) ?_
  refine pfX7_206 hC hP hS dX7_isRead_2 (fun H locs hP hS => ?_)
  obtain ⟨x1, e2, hf⟩ := lt_some hf
  have hP : va_P D vwCl (wG (eM cy ad) 12 ad x1) H := by rw [e2]; exact hP
  refine lv_aload_n hx hb dX7_isRead_5 rfl (lv_at hl 0 rfl) ?_
  refine lv_iconst (v := 0) hx hb dX7_isRead_6 (by decide) ?_
  refine pfX7_225 hC hP hS dX7_isRead_7 (fun H locs hP hS => ?_)
  obtain ⟨x3, e4, hf⟩ := lt_some hf
  have hP : va_P D vwCl (wG (eM cy ad) 12 ad x3) H := by rw [e4]; exact hP
  refine lv_aload_n hx hb dX7_isRead_10 rfl (lv_at hl 0 rfl) ?_
  obtain ⟨r6, x5, e7, hf⟩ := bd_some hf
  refine gVv (As := []) (rest := []) (k := 0) hC hP hS (kX7_blanks l D cy tX tY ad A hC.2.2.2.2.2.2.2.2.1 F x3 e7) glX7_215 ⟨rfl, rfl⟩ hdX7_blanks ⟨Nat.le_of_ble_eq_true rfl, Nat.le_of_ble_eq_true rfl⟩ (by decide) (eM_0 cy ad _ _) rfl rfl hl.1 rfl (Nat.le_of_ble_eq_true rfl) dX7_isRead_11 ⟨Nat.zero_le _, Nat.zero_le _⟩ (fun H locs hP hS => ?_)
  exact tX7_isRead_14 hC F F x5 hf H locs ls hP hS (lv_sub hl [0] rfl)
set_option maxHeartbeats 4000000 in
set_option maxRecDepth 100000 in
theorem kX7_doneOne (l : Launch) (D : va_G) (cy : Nat → ClassId) (tX tY : Nat) (ad : Nat → Nat) (A : Nat → Prop) (hA : apart ad A 12) (F : Nat) (x : HT) (a1 : Int32) {z : Int32 × HT} (hf : fX7_doneOne F x a1 = some z) : Met l yX7_doneOne (Cond.code yX7_doneOne cX7_doneOne 5 (some .int) :: wAll) { frames := 8, cells := 0, slots := 0, locals := 181 } (cPc (eM cy ad) 12 ad D cy tX tY A [.ref (ad 0), .int a1] x) (cQi (eM cy ad) 12 ad D A z) 0 0 A := by
  refine gMet hA (by decide) (Nat.le_of_ble_eq_true rfl) (fun p e s m below meth c hC H locs ls hP hS hl => ?_)
  have hC : Cf p s m _ meth c cX7_doneOne 5 RX7 (some .int) D cy tX tY ad A 12 := hC
  have hl : lv_has ls 5 [(0, .ref (ad 0)), (1, .int a1)] := hl
  obtain ⟨hx, hb, -⟩ := id hC
  refine lv_aload_n hx hb dX7_doneOne_0 rfl (lv_at hl 0 rfl) ?_
  refine gfX7_40 hC hP dX7_doneOne_1 ?_
  refine lv_iconst (v := 3) hx hb dX7_doneOne_4 (by decide) ?_
  refine lv_iload_n hx hb dX7_doneOne_5 rfl (lv_at hl 1 rfl) ?_
  refine lv_imul hx hb dX7_doneOne_6 ?_
  obtain ⟨h1, hf⟩ := ck_some hf
  refine gIal hC hP 11 (by decide) (eM_11 cy ad _ _) h1 dX7_doneOne_7 ?_
  refine lv_topi (fun b2 e3 => ?_)
  have hf := lt_use e3 hf
  refine lv_istore_n (lv' := [(2, .int b2), (0, .ref (ad 0)), (1, .int a1)]) hx hb dX7_doneOne_8 rfl hl (by decide) rfl (fun ls hl => ?_)
  refine lv_aload_n hx hb dX7_doneOne_9 rfl (lv_at hl 1 rfl) ?_
  refine gfX7_40 hC hP dX7_doneOne_10 ?_
  refine lv_iconst (v := 3) hx hb dX7_doneOne_13 (by decide) ?_
  refine lv_iload_n hx hb dX7_doneOne_14 rfl (lv_at hl 2 rfl) ?_
  refine lv_imul hx hb dX7_doneOne_15 ?_
  refine lv_iconst (v := 1) hx hb dX7_doneOne_16 (by decide) ?_
  refine lv_iadd hx hb dX7_doneOne_17 ?_
  obtain ⟨h4, hf⟩ := ck_some hf
  refine gIal hC hP 11 (by decide) (eM_11 cy ad _ _) h4 dX7_doneOne_18 ?_
  refine lv_topi (fun b5 e6 => ?_)
  have hf := lt_use e6 hf
  refine lv_istore_n (lv' := [(3, .int b5), (2, .int b2), (0, .ref (ad 0)), (1, .int a1)]) hx hb dX7_doneOne_19 rfl hl (by decide) rfl (fun ls hl => ?_)
  refine lv_aload_n hx hb dX7_doneOne_20 rfl (lv_at hl 2 rfl) ?_
  refine gfX7_40 hC hP dX7_doneOne_21 ?_
  refine lv_iconst (v := 3) hx hb dX7_doneOne_24 (by decide) ?_
  refine lv_iload_n hx hb dX7_doneOne_25 rfl (lv_at hl 3 rfl) ?_
  refine lv_imul hx hb dX7_doneOne_26 ?_
  refine lv_iconst (v := 2) hx hb dX7_doneOne_27 (by decide) ?_
  refine lv_iadd hx hb dX7_doneOne_28 ?_
  obtain ⟨h7, hf⟩ := ck_some hf
  refine gIal hC hP 11 (by decide) (eM_11 cy ad _ _) h7 dX7_doneOne_29 ?_
  refine lv_topi (fun b8 e9 => ?_)
  have hf := lt_use e9 hf
  refine lv_istore (lv' := [(4, .int b8), (3, .int b5), (2, .int b2), (0, .ref (ad 0)), (1, .int a1)]) hx hb dX7_doneOne_30 hl (by decide) rfl (fun ls hl => ?_)
  refine lv_aload_n hx hb dX7_doneOne_32 rfl (lv_at hl 3 rfl) ?_
  refine gfX7_37 hC hP dX7_doneOne_33 ?_
  refine lv_iload_n hx hb dX7_doneOne_36 rfl (lv_at hl 4 rfl) ?_
  obtain ⟨h10, hf⟩ := ck_some hf
  refine gIal hC hP 10 (by decide) (eM_10 cy ad _ _) h10 dX7_doneOne_37 ?_
  refine lv_topi (fun b11 e12 => ?_)
  have hf := lt_use e12 hf
  by_cases c13 : b11 = (103 : Int32)
  · have hf := it_t c13 hf
    refine lv_lookup (tgt := 104) (off := 66) hx hb dX7_doneOne_38 (by decide) (by rw [c13]; decide) (by decide) ?_
    refine lv_aload_n hx hb dX7_doneOne_104 rfl (lv_at hl 3 rfl) ?_
    refine lv_iload_n hx hb dX7_doneOne_105 rfl (lv_at hl 2 rfl) ?_
    refine lv_iload_n hx hb dX7_doneOne_106 rfl (lv_at hl 1 rfl) ?_
    refine lv_iload hx hb dX7_doneOne_107 (lv_at hl 0 rfl) ?_
    obtain ⟨r15, x14, e16, hf⟩ := bd_some hf
    refine gVi (As := [.int b2, .int b5, .int b8]) (rest := []) (k := 0) hC hP hS (kX7_putGoal l D cy tX tY ad A hC.2.2.2.2.2.2.2.2.1 F x b2 b5 b8 e16) glX7_152 ⟨rfl, rfl⟩ hdX7_putGoal ⟨Nat.le_of_ble_eq_true rfl, Nat.le_of_ble_eq_true rfl⟩ (by decide) (eM_0 cy ad _ _) rfl rfl hl.1 rfl (Nat.le_of_ble_eq_true rfl) dX7_doneOne_109 ⟨Nat.zero_le _, Nat.zero_le _⟩ (fun H locs hP hS => ?_)
    exact gIret hC hP hS hf dX7_doneOne_112
  have hf := it_f c13 hf
  by_cases c17 : b11 = (107 : Int32)
  · have hf := it_t c17 hf
    refine lv_lookup (tgt := 122) (off := 84) hx hb dX7_doneOne_38 (by decide) (by rw [c17]; decide) (by decide) ?_
    refine lv_aload_n hx hb dX7_doneOne_122 rfl (lv_at hl 3 rfl) ?_
    refine lv_iload_n hx hb dX7_doneOne_123 rfl (lv_at hl 2 rfl) ?_
    obtain ⟨r19, x18, e20, hf⟩ := bd_some hf
    refine gVi (As := [.int b2]) (rest := []) (k := 0) hC hP hS (kX7_putSteps l D cy tX tY ad A hC.2.2.2.2.2.2.2.2.1 F x b2 e20) glX7_158 ⟨rfl, rfl⟩ hdX7_putSteps ⟨Nat.le_of_ble_eq_true rfl, Nat.le_of_ble_eq_true rfl⟩ (by decide) (eM_0 cy ad _ _) rfl rfl hl.1 rfl (Nat.le_of_ble_eq_true rfl) dX7_doneOne_124 ⟨Nat.zero_le _, Nat.zero_le _⟩ (fun H locs hP hS => ?_)
    exact gIret hC hP hS hf dX7_doneOne_127
  have hf := it_f c17 hf
  by_cases c21 : b11 = (109 : Int32)
  · have hf := it_t c21 hf
    refine lv_lookup (tgt := 95) (off := 57) hx hb dX7_doneOne_38 (by decide) (by rw [c21]; decide) (by decide) ?_
    refine lv_aload_n hx hb dX7_doneOne_95 rfl (lv_at hl 3 rfl) ?_
    refine lv_iload_n hx hb dX7_doneOne_96 rfl (lv_at hl 2 rfl) ?_
    refine lv_iload_n hx hb dX7_doneOne_97 rfl (lv_at hl 1 rfl) ?_
    refine lv_iload hx hb dX7_doneOne_98 (lv_at hl 0 rfl) ?_
    obtain ⟨r23, x22, e24, hf⟩ := bd_some hf
    refine gVi (As := [.int b2, .int b5, .int b8]) (rest := []) (k := 0) hC hP hS (kX7_putMessage l D cy tX tY ad A hC.2.2.2.2.2.2.2.2.1 F x b2 b5 b8 e24) glX7_148 ⟨rfl, rfl⟩ hdX7_putMessage ⟨Nat.le_of_ble_eq_true rfl, Nat.le_of_ble_eq_true rfl⟩ (by decide) (eM_0 cy ad _ _) rfl rfl hl.1 rfl (Nat.le_of_ble_eq_true rfl) dX7_doneOne_100 ⟨Nat.zero_le _, Nat.zero_le _⟩ (fun H locs hP hS => ?_)
    exact gIret hC hP hS hf dX7_doneOne_103
  have hf := it_f c21 hf
  by_cases c25 : b11 = (116 : Int32)
  · have hf := it_t c25 hf
    refine lv_lookup (tgt := 113) (off := 75) hx hb dX7_doneOne_38 (by decide) (by rw [c25]; decide) (by decide) ?_
    refine lv_aload_n hx hb dX7_doneOne_113 rfl (lv_at hl 3 rfl) ?_
    refine lv_iload_n hx hb dX7_doneOne_114 rfl (lv_at hl 2 rfl) ?_
    refine lv_iload_n hx hb dX7_doneOne_115 rfl (lv_at hl 1 rfl) ?_
    refine lv_iload hx hb dX7_doneOne_116 (lv_at hl 0 rfl) ?_
    obtain ⟨r27, x26, e28, hf⟩ := bd_some hf
    refine gVi (As := [.int b2, .int b5, .int b8]) (rest := []) (k := 0) hC hP hS (kX7_putTurn l D cy tX tY ad A hC.2.2.2.2.2.2.2.2.1 F x b2 b5 b8 e28) glX7_155 ⟨rfl, rfl⟩ hdX7_putTurn ⟨Nat.le_of_ble_eq_true rfl, Nat.le_of_ble_eq_true rfl⟩ (by decide) (eM_0 cy ad _ _) rfl rfl hl.1 rfl (Nat.le_of_ble_eq_true rfl) dX7_doneOne_118 ⟨Nat.zero_le _, Nat.zero_le _⟩ (fun H locs hP hS => ?_)
    exact gIret hC hP hS hf dX7_doneOne_121
  have hf := it_f c25 hf
  by_cases c29 : b11 = (119 : Int32)
  · have hf := it_t c29 hf
    refine lv_lookup (tgt := 88) (off := 50) hx hb dX7_doneOne_38 (by decide) (by rw [c29]; decide) (by decide) ?_
    refine lv_aload_n hx hb dX7_doneOne_88 rfl (lv_at hl 3 rfl) ?_
    refine lv_iload_n hx hb dX7_doneOne_89 rfl (lv_at hl 2 rfl) ?_
    refine lv_iload_n hx hb dX7_doneOne_90 rfl (lv_at hl 1 rfl) ?_
    obtain ⟨r31, x30, e32, hf⟩ := bd_some hf
    refine gVi (As := [.int b2, .int b5]) (rest := []) (k := 0) hC hP hS (kX7_putMesh l D cy tX tY ad A hC.2.2.2.2.2.2.2.2.1 F x b2 b5 e32) glX7_142 ⟨rfl, rfl⟩ hdX7_putMesh ⟨Nat.le_of_ble_eq_true rfl, Nat.le_of_ble_eq_true rfl⟩ (by decide) (eM_0 cy ad _ _) rfl rfl hl.1 rfl (Nat.le_of_ble_eq_true rfl) dX7_doneOne_91 ⟨Nat.zero_le _, Nat.zero_le _⟩ (fun H locs hP hS => ?_)
    exact gIret hC hP hS hf dX7_doneOne_94
  have hf := it_f c29 hf
  refine lv_lookup (tgt := 128) (off := 90) hx hb dX7_doneOne_38 (by decide) ((lv_osw c13 (by decide)).trans ((lv_osw c17 (by decide)).trans ((lv_osw c21 (by decide)).trans ((lv_osw c25 (by decide)).trans ((lv_osw c29 (by decide)).trans rfl))))) (by decide) ?_
  refine lv_aload_n hx hb dX7_doneOne_128 rfl (lv_at hl 3 rfl) ?_
  obtain ⟨r34, x33, e35, hf⟩ := bd_some hf
  refine gVi (As := []) (rest := []) (k := 0) hC hP hS (kX7_putAgain l D cy tX tY ad A hC.2.2.2.2.2.2.2.2.1 F x e35) glX7_161 ⟨rfl, rfl⟩ hdX7_putAgain ⟨Nat.le_of_ble_eq_true rfl, Nat.le_of_ble_eq_true rfl⟩ (by decide) (eM_0 cy ad _ _) rfl rfl hl.1 rfl (Nat.le_of_ble_eq_true rfl) dX7_doneOne_129 ⟨Nat.zero_le _, Nat.zero_le _⟩ (fun H locs hP hS => ?_)
  exact gIret hC hP hS hf dX7_doneOne_132
set_option maxHeartbeats 4000000 in
set_option maxRecDepth 100000 in
theorem tX7_does_21b (hC : Cf p s m args meth c cX7_does 2 RX7 (some .int) D cy tX tY ad A 12) (F : Nat) {z : Int32 × HT} (rec21 : HT → Int32 → Option (Int32 × HT)) (hrec21 : ∀ (x : HT) (a1 : Int32), rec21 x a1 = some z → Wd p l e { frames := 9, cells := 0, slots := 0, locals := 205 } s m args below meth c D (eM cy ad) 12 ad A (cQi (eM cy ad) 12 ad D A z) 2 21 [(0, .ref (ad 0)), (1, .int a1)] [] x) : ∀ (x : HT) (a1 : Int32), fX7_does_21b F rec21 x a1 = some z → Wd p l e { frames := 9, cells := 0, slots := 0, locals := 205 } s m args below meth c D (eM cy ad) 12 ad A (cQi (eM cy ad) 12 ad D A z) 2 21 [(0, .ref (ad 0)), (1, .int a1)] [] x := by
  intro x a1 hf H locs ls hP hS hl
  obtain ⟨hx, hb, -⟩ := id hC
  refine lv_iload_n hx hb dX7_does_21 rfl (lv_at hl 1 rfl) ?_
  refine lv_aload_n hx hb dX7_does_22 rfl (lv_at hl 0 rfl) ?_
  refine gfX7_225 hC hP dX7_does_23 ?_
  refine lv_icmp_ge (tgt := 55) hx hb dX7_does_26 (by decide) (fun c8 => ?_) (fun c8 => ?_)
  · have hf := it_t c8 hf
    refine lv_aload_n hx hb dX7_does_55 rfl (lv_at hl 0 rfl) ?_
    obtain ⟨r10, x9, e11, hf⟩ := bd_some hf
    refine gVv (As := []) (rest := []) (k := 0) hC hP hS (kX7_remembers l D cy tX tY ad A hC.2.2.2.2.2.2.2.2.1 F x e11) glX7_51 ⟨rfl, rfl⟩ hdX7_remembers ⟨Nat.le_of_ble_eq_true rfl, Nat.le_of_ble_eq_true rfl⟩ (by decide) (eM_0 cy ad _ _) rfl rfl hl.1 rfl (Nat.le_of_ble_eq_true rfl) dX7_does_56 ⟨Nat.zero_le _, Nat.zero_le _⟩ (fun H locs hP hS => ?_)
    refine lv_aload_n hx hb dX7_does_59 rfl (lv_at hl 0 rfl) ?_
    refine gfX7_225 hC hP dX7_does_60 ?_
    exact gIret hC hP hS hf dX7_does_63
  · have hf := it_f c8 hf
    refine lv_aload_n hx hb dX7_does_29 rfl (lv_at hl 0 rfl) ?_
    refine lv_iload_n hx hb dX7_does_30 rfl (lv_at hl 1 rfl) ?_
    obtain ⟨r13, x12, e14, hf⟩ := bd_some hf
    refine gVi (As := [.int a1]) (rest := []) (k := 0) hC hP hS (kX7_doneOne l D cy tX tY ad A hC.2.2.2.2.2.2.2.2.1 F x a1 e14) glX7_237 ⟨rfl, rfl⟩ hdX7_doneOne ⟨Nat.le_of_ble_eq_true rfl, Nat.le_of_ble_eq_true rfl⟩ (by decide) (eM_0 cy ad _ _) rfl rfl hl.1 rfl (Nat.le_of_ble_eq_true rfl) dX7_does_31 ⟨Nat.zero_le _, Nat.zero_le _⟩ (fun H locs hP hS => ?_)
    refine lv_bipush (v := -2) hx hb dX7_does_34 (by decide) ?_
    refine lv_icmp_gt (tgt := 49) hx hb dX7_does_36 (by decide) (fun c15 => ?_) (fun c15 => ?_)
    · have hf := it_t c15 hf
      obtain ⟨b16, e17, hf⟩ := lt_some hf
      refine lv_iinc (v := b16) (lv' := [(1, .int b16), (0, .ref (ad 0))]) hx hb dX7_does_49 hl (k := 1) rfl (by rw [e17]; rfl) (by decide) rfl (fun ls hl => ?_)
      refine lv_goto (tgt := 21) hx hb dX7_does_52 (by decide) ?_
      exact hrec21 x12 b16 hf H locs ls hP hS (lv_sub hl [1, 0] rfl)
    · have hf := it_f c15 hf
      refine lv_aload_n hx hb dX7_does_39 rfl (lv_at hl 0 rfl) ?_
      obtain ⟨r19, x18, e20, hf⟩ := bd_some hf
      refine gVv (As := []) (rest := []) (k := 0) hC hP hS (kX7_takesBack l D cy tX tY ad A hC.2.2.2.2.2.2.2.2.1 F x12 e20) glX7_194 ⟨rfl, rfl⟩ hdX7_takesBack ⟨Nat.le_of_ble_eq_true rfl, Nat.le_of_ble_eq_true rfl⟩ (by decide) (eM_0 cy ad _ _) rfl rfl hl.1 rfl (Nat.le_of_ble_eq_true rfl) dX7_does_40 ⟨Nat.zero_le _, Nat.zero_le _⟩ (fun H locs hP hS => ?_)
      refine lv_sipush (v := -1000) hx hb dX7_does_43 (by decide) ?_
      refine lv_iload_n hx hb dX7_does_46 rfl (lv_at hl 1 rfl) ?_
      refine lv_isub hx hb dX7_does_47 ?_
      exact gIret hC hP hS hf dX7_does_48
theorem tX7_does_21 (hC : Cf p s m args meth c cX7_does 2 RX7 (some .int) D cy tX tY ad A 12) (F : Nat) {z : Int32 × HT} : ∀ (n9 : Nat) (x : HT) (a1 : Int32), fX7_does_21 F n9 x a1 = some z → Wd p l e { frames := 9, cells := 0, slots := 0, locals := 205 } s m args below meth c D (eM cy ad) 12 ad A (cQi (eM cy ad) 12 ad D A z) 2 21 [(0, .ref (ad 0)), (1, .int a1)] [] x := by
  intro n9
  induction n9 with
  | zero => intro x a1 hf; cases hf
  | succ n9 ih => intro x a1 hf; exact tX7_does_21b hC F (fX7_does_21 F n9) ih x a1 hf
set_option maxHeartbeats 4000000 in
set_option maxRecDepth 100000 in
theorem kX7_does (l : Launch) (D : va_G) (cy : Nat → ClassId) (tX tY : Nat) (ad : Nat → Nat) (A : Nat → Prop) (hA : apart ad A 12) (F : Nat) (x : HT) {z : Int32 × HT} (hf : fX7_does F x = some z) : Met l yX7_does (Cond.code yX7_does cX7_does 2 (some .int) :: wAll) { frames := 9, cells := 0, slots := 0, locals := 205 } (cPc (eM cy ad) 12 ad D cy tX tY A [.ref (ad 0)] x) (cQi (eM cy ad) 12 ad D A z) 0 0 A := by
  refine gMet hA (by decide) (Nat.le_of_ble_eq_true rfl) (fun p e s m below meth c hC H locs ls hP hS hl => ?_)
  have hC : Cf p s m _ meth c cX7_does 2 RX7 (some .int) D cy tX tY ad A 12 := hC
  have hl : lv_has ls 2 [(0, .ref (ad 0))] := hl
  obtain ⟨hx, hb, -⟩ := id hC
  refine lv_aload_n hx hb dX7_does_0 rfl (lv_at hl 0 rfl) ?_
  obtain ⟨r2, x1, e3, hf⟩ := bd_some hf
  refine gVi (As := []) (rest := []) (k := 0) hC hP hS (kX7_isRead l D cy tX tY ad A hC.2.2.2.2.2.2.2.2.1 F x e3) glX7_234 ⟨rfl, rfl⟩ hdX7_isRead ⟨Nat.le_of_ble_eq_true rfl, Nat.le_of_ble_eq_true rfl⟩ (by decide) (eM_0 cy ad _ _) rfl rfl hl.1 rfl (Nat.le_of_ble_eq_true rfl) dX7_does_1 ⟨Nat.zero_le _, Nat.zero_le _⟩ (fun H locs hP hS => ?_)
  refine lv_if_ne (tgt := 15) hx hb dX7_does_4 (by decide) (fun c4 => ?_) (fun c4 => ?_)
  · have hf := it_f c4 hf
    refine lv_aload_n hx hb dX7_does_15 rfl (lv_at hl 0 rfl) ?_
    obtain ⟨r6, x5, e7, hf⟩ := bd_some hf
    refine gVv (As := []) (rest := []) (k := 0) hC hP hS (kX7_laysAside l D cy tX tY ad A hC.2.2.2.2.2.2.2.2.1 F x1 e7) glX7_139 ⟨rfl, rfl⟩ hdX7_laysAside ⟨Nat.le_of_ble_eq_true rfl, Nat.le_of_ble_eq_true rfl⟩ (by decide) (eM_0 cy ad _ _) rfl rfl hl.1 rfl (Nat.le_of_ble_eq_true rfl) dX7_does_16 ⟨Nat.zero_le _, Nat.zero_le _⟩ (fun H locs hP hS => ?_)
    refine lv_iconst (v := 0) hx hb dX7_does_19 (by decide) ?_
    refine lv_istore_n (lv' := [(1, .int (0 : Int32)), (0, .ref (ad 0))]) hx hb dX7_does_20 rfl hl (by decide) rfl (fun ls hl => ?_)
    exact tX7_does_21 hC F F x5 (0 : Int32) hf H locs ls hP hS (lv_sub hl [1, 0] rfl)
  · have hf := it_t c4 hf
    refine lv_bipush (v := -10) hx hb dX7_does_7 (by decide) ?_
    refine lv_aload_n hx hb dX7_does_9 rfl (lv_at hl 0 rfl) ?_
    refine gfX7_212 hC hP dX7_does_10 ?_
    refine lv_isub hx hb dX7_does_13 ?_
    exact gIret hC hP hS hf dX7_does_14
set_option maxHeartbeats 4000000 in
set_option maxRecDepth 100000 in
theorem kX7_toldAt (l : Launch) (D : va_G) (cy : Nat → ClassId) (tX tY : Nat) (ad : Nat → Nat) (A : Nat → Prop) (hA : apart ad A 12) (F : Nat) (x : HT) (a1 : Int32) {z : Int32 × HT} (hf : fX7_toldAt F x a1 = some z) : Met l yX7_toldAt (Cond.code yX7_toldAt cX7_toldAt 2 (some .int) :: wAll) { frames := 0, cells := 0, slots := 0, locals := 0 } (cPc (eM cy ad) 12 ad D cy tX tY A [.ref (ad 0), .int a1] x) (cQi (eM cy ad) 12 ad D A z) 0 0 A := by
  refine gMet hA (by decide) (Nat.le_of_ble_eq_true rfl) (fun p e s m below meth c hC H locs ls hP hS hl => ?_)
  have hC : Cf p s m _ meth c cX7_toldAt 2 RX7 (some .int) D cy tX tY ad A 12 := hC
  have hl : lv_has ls 2 [(0, .ref (ad 0)), (1, .int a1)] := hl
  obtain ⟨hx, hb, -⟩ := id hC
  refine lv_iload_n hx hb dX7_toldAt_0 rfl (lv_at hl 1 rfl) ?_
  refine lv_iconst (v := 3) hx hb dX7_toldAt_1 (by decide) ?_
  refine lv_icmp_ge (tgt := 14) hx hb dX7_toldAt_2 (by decide) (fun c1 => ?_) (fun c1 => ?_)
  · have hf := it_t c1 hf
    refine lv_iload_n hx hb dX7_toldAt_14 rfl (lv_at hl 1 rfl) ?_
    refine lv_iconst (v := 3) hx hb dX7_toldAt_15 (by decide) ?_
    refine lv_icmp_ne (tgt := 26) hx hb dX7_toldAt_16 (by decide) (fun c2 => ?_) (fun c2 => ?_)
    · have hf := it_f c2 hf
      refine lv_aload_n hx hb dX7_toldAt_26 rfl (lv_at hl 0 rfl) ?_
      refine gfX7_43 hC hP dX7_toldAt_27 ?_
      exact gIret hC hP hS hf dX7_toldAt_30
    · have hf := it_t c2 hf
      refine lv_aload_n hx hb dX7_toldAt_19 rfl (lv_at hl 0 rfl) ?_
      refine gfX7_203 hC hP dX7_toldAt_20 ?_
      refine lv_goto (tgt := 30) hx hb dX7_toldAt_23 (by decide) ?_
      exact gIret hC hP hS hf dX7_toldAt_30
  · have hf := it_f c1 hf
    refine lv_aload_n hx hb dX7_toldAt_5 rfl (lv_at hl 0 rfl) ?_
    refine gfX7_19 hC hP dX7_toldAt_6 ?_
    refine lv_iload_n hx hb dX7_toldAt_9 rfl (lv_at hl 1 rfl) ?_
    obtain ⟨h3, hf⟩ := ck_some hf
    refine gIal hC hP 4 (by decide) (eM_4 cy ad _ _) h3 dX7_toldAt_10 ?_
    refine lv_goto (tgt := 30) hx hb dX7_toldAt_11 (by decide) ?_
    exact gIret hC hP hS hf dX7_toldAt_30
set_option maxHeartbeats 4000000 in
set_option maxRecDepth 100000 in
theorem kX7_told (l : Launch) (D : va_G) (cy : Nat → ClassId) (tX tY : Nat) (ad : Nat → Nat) (A : Nat → Prop) (hA : apart ad A 12) (F : Nat) (x : HT) (a1 : Int32) {z : Int32 × HT} (hf : fX7_told F x a1 = some z) : Met l yX7_told (Cond.code yX7_told cX7_told 2 (some .int) :: wAll) { frames := 1, cells := 0, slots := 0, locals := 22 } (cPc (eM cy ad) 12 ad D cy tX tY A [.ref (ad 0), .int a1] x) (cQi (eM cy ad) 12 ad D A z) 0 0 A := by
  refine gMet hA (by decide) (Nat.le_of_ble_eq_true rfl) (fun p e s m below meth c hC H locs ls hP hS hl => ?_)
  have hC : Cf p s m _ meth c cX7_told 2 RX7 (some .int) D cy tX tY ad A 12 := hC
  have hl : lv_has ls 2 [(0, .ref (ad 0)), (1, .int a1)] := hl
  obtain ⟨hx, hb, -⟩ := id hC
  refine lv_iload_n hx hb dX7_told_0 rfl (lv_at hl 1 rfl) ?_
  refine lv_iconst (v := 0) hx hb dX7_told_1 (by decide) ?_
  refine lv_iconst (v := 4) hx hb dX7_told_2 (by decide) ?_
  obtain ⟨r2, x1, e3, hf⟩ := bd_some hf
  refine gSi (As := [.int a1, .int (0 : Int32), .int (4 : Int32)]) (rest := []) hC hP hS (kX7_in l D cy tX tY ad A hC.2.2.2.2.2.2.2.2.1 F x a1 (0 : Int32) (4 : Int32) e3) glX7_54 ⟨rfl, rfl⟩ hdX7_in ⟨Nat.le_of_ble_eq_true rfl, Nat.le_of_ble_eq_true rfl⟩ rfl hl.1 rfl (Nat.le_of_ble_eq_true rfl) dX7_told_3 ⟨Nat.zero_le _, Nat.zero_le _⟩ (fun H locs hP hS => ?_)
  refine lv_if_eq (tgt := 17) hx hb dX7_told_6 (by decide) (fun c4 => ?_) (fun c4 => ?_)
  · have hf := it_t c4 hf
    refine lv_aload_n hx hb dX7_told_17 rfl (lv_at hl 0 rfl) ?_
    refine lv_bipush (v := -2) hx hb dX7_told_18 (by decide) ?_
    obtain ⟨r6, x5, e7, hf⟩ := bd_some hf
    refine gVi (As := [.int (-2 : Int32)]) (rest := []) (k := 0) hC hP hS (kX7_refuses l D cy tX tY ad A hC.2.2.2.2.2.2.2.2.1 F x1 (-2 : Int32) e7) glX7_47 ⟨rfl, rfl⟩ hdX7_refuses ⟨Nat.le_of_ble_eq_true rfl, Nat.le_of_ble_eq_true rfl⟩ (by decide) (eM_0 cy ad _ _) rfl rfl hl.1 rfl (Nat.le_of_ble_eq_true rfl) dX7_told_20 ⟨Nat.zero_le _, Nat.zero_le _⟩ (fun H locs hP hS => ?_)
    exact gIret hC hP hS hf dX7_told_23
  · have hf := it_f c4 hf
    refine lv_aload_n hx hb dX7_told_9 rfl (lv_at hl 0 rfl) ?_
    refine lv_iload_n hx hb dX7_told_10 rfl (lv_at hl 1 rfl) ?_
    obtain ⟨r9, x8, e10, hf⟩ := bd_some hf
    refine gVi (As := [.int a1]) (rest := []) (k := 0) hC hP hS (kX7_toldAt l D cy tX tY ad A hC.2.2.2.2.2.2.2.2.1 F x1 a1 e10) glX7_240 ⟨rfl, rfl⟩ hdX7_toldAt ⟨Nat.le_of_ble_eq_true rfl, Nat.le_of_ble_eq_true rfl⟩ (by decide) (eM_0 cy ad _ _) rfl rfl hl.1 rfl (Nat.le_of_ble_eq_true rfl) dX7_told_11 ⟨Nat.zero_le _, Nat.zero_le _⟩ (fun H locs hP hS => ?_)
    refine lv_goto (tgt := 23) hx hb dX7_told_14 (by decide) ?_
    exact gIret hC hP hS hf dX7_told_23
set_option maxHeartbeats 4000000 in
set_option maxRecDepth 100000 in
theorem kX7_mix (l : Launch) (D : va_G) (cy : Nat → ClassId) (tX tY : Nat) (ad : Nat → Nat) (A : Nat → Prop) (hA : apart ad A 12) (F : Nat) (x : HT) (a1 : Int64) {z : Unit × HT} (hf : fX7_mix F x a1 = some z) : Met l yX7_mix (Cond.code yX7_mix cX7_mix 3 none :: wAll) { frames := 0, cells := 0, slots := 0, locals := 0 } (cPc (eM cy ad) 12 ad D cy tX tY A [.ref (ad 0), .long a1] x) (cQv (eM cy ad) 12 ad D A z) 0 0 A := by
  refine gMet hA (by decide) (Nat.le_of_ble_eq_true rfl) (fun p e s m below meth c hC H locs ls hP hS hl => ?_)
  have hC : Cf p s m _ meth c cX7_mix 3 RX7 none D cy tX tY ad A 12 := hC
  have hl : lv_has ls 3 [(0, .ref (ad 0)), (1, .long a1)] := hl
  obtain ⟨hx, hb, -⟩ := id hC
  refine lv_aload_n hx hb dX7_mix_0 rfl (lv_at hl 0 rfl) ?_
  refine lv_ldc2 (v := 31) hx hb hC.2.2.2.1 (hC.2.2.2.2.1 _ qw1166) dX7_mix_1 ?_
  refine lv_aload_n hx hb dX7_mix_4 rfl (lv_at hl 0 rfl) ?_
  refine gfX7_245 hC hP dX7_mix_5 ?_
  refine lv_lmul hx hb dX7_mix_8 ?_
  refine lv_lload_n hx hb dX7_mix_9 rfl (lv_at hl 1 rfl) ?_
  refine lv_ladd hx hb dX7_mix_10 ?_
  refine pfX7_245 hC hP hS dX7_mix_11 (fun H locs hP hS => ?_)
  obtain ⟨x1, e2, hf⟩ := lt_some hf
  have hP : va_P D vwCl (wG (eM cy ad) 12 ad x1) H := by rw [e2]; exact hP
  exact gVret hC hP hS hf dX7_mix_14
set_option maxHeartbeats 4000000 in
set_option maxRecDepth 100000 in
theorem tX7_mixMessage_65b (hC : Cf p s m args meth c cX7_mixMessage 4 RX7 none D cy tX tY ad A 12) (F : Nat) {z : Unit × HT} (rec29 : HT → Int32 → Int32 → Option (Unit × HT)) (hrec29 : ∀ (x : HT) (a1 : Int32) (a2 : Int32), rec29 x a1 a2 = some z → Wd p l e { frames := 6, cells := 0, slots := 0, locals := 144 } s m args below meth c D (eM cy ad) 12 ad A (cQv (eM cy ad) 12 ad D A z) 4 29 [(0, .ref (ad 0)), (1, .int a1), (2, .int a2)] [] x) (rec65 : HT → Int32 → Int32 → Int32 → Option (Unit × HT)) (hrec65 : ∀ (x : HT) (a1 : Int32) (a2 : Int32) (a3 : Int32), rec65 x a1 a2 a3 = some z → Wd p l e { frames := 6, cells := 0, slots := 0, locals := 144 } s m args below meth c D (eM cy ad) 12 ad A (cQv (eM cy ad) 12 ad D A z) 4 65 [(0, .ref (ad 0)), (1, .int a1), (2, .int a2), (3, .int a3)] [] x) : ∀ (x : HT) (a1 : Int32) (a2 : Int32) (a3 : Int32), fX7_mixMessage_65b F rec29 rec65 x a1 a2 a3 = some z → Wd p l e { frames := 6, cells := 0, slots := 0, locals := 144 } s m args below meth c D (eM cy ad) 12 ad A (cQv (eM cy ad) 12 ad D A z) 4 65 [(0, .ref (ad 0)), (1, .int a1), (2, .int a2), (3, .int a3)] [] x := by
  intro x a1 a2 a3 hf H locs ls hP hS hl
  obtain ⟨hx, hb, -⟩ := id hC
  refine lv_iload_n hx hb dX7_mixMessage_65 rfl (lv_at hl 3 rfl) ?_
  refine lv_aload_n hx hb dX7_mixMessage_66 rfl (lv_at hl 0 rfl) ?_
  refine gfX7_28 hC hP dX7_mixMessage_67 ?_
  refine lv_iload_n hx hb dX7_mixMessage_70 rfl (lv_at hl 2 rfl) ?_
  obtain ⟨h22, hf⟩ := ck_some hf
  refine gIal hC hP 7 (by decide) (eM_7 cy ad _ _) h22 dX7_mixMessage_71 ?_
  refine lv_icmp_gt (tgt := 101) hx hb dX7_mixMessage_72 (by decide) (fun c23 => ?_) (fun c23 => ?_)
  · have hf := it_t c23 hf
    obtain ⟨b24, e25, hf⟩ := lt_some hf
    refine lv_iinc (v := b24) (lv' := [(2, .int b24), (0, .ref (ad 0)), (1, .int a1), (3, .int a3)]) hx hb dX7_mixMessage_101 hl (k := 2) rfl (by rw [e25]; rfl) (by decide) rfl (fun ls hl => ?_)
    refine lv_goto (tgt := 29) hx hb dX7_mixMessage_104 (by decide) ?_
    exact hrec29 x a1 b24 hf H locs ls hP hS (lv_sub hl [1, 2, 0] rfl)
  · have hf := it_f c23 hf
    refine lv_aload_n hx hb dX7_mixMessage_75 rfl (lv_at hl 0 rfl) ?_
    refine lv_aload_n hx hb dX7_mixMessage_76 rfl (lv_at hl 0 rfl) ?_
    refine lv_aload_n hx hb dX7_mixMessage_77 rfl (lv_at hl 0 rfl) ?_
    refine gfX7_25 hC hP dX7_mixMessage_78 ?_
    refine lv_bipush (v := 37) hx hb dX7_mixMessage_81 (by decide) ?_
    refine lv_iload_n hx hb dX7_mixMessage_83 rfl (lv_at hl 2 rfl) ?_
    refine lv_imul hx hb dX7_mixMessage_84 ?_
    refine lv_iload_n hx hb dX7_mixMessage_85 rfl (lv_at hl 3 rfl) ?_
    refine lv_iadd hx hb dX7_mixMessage_86 ?_
    obtain ⟨h26, hf⟩ := ck_some hf
    refine gIal hC hP 6 (by decide) (eM_6 cy ad _ _) h26 dX7_mixMessage_87 ?_
    obtain ⟨r28, x27, e29, hf⟩ := bd_some hf
    refine gVi (As := [.int (x.1 6 (((37 : Int32) * a2) + a3).toNatClampNeg)]) (rest := [.ref (ad 0)]) (k := 0) hC hP hS (kX7_toldOf l D cy tX tY ad A hC.2.2.2.2.2.2.2.2.1 F x (x.1 6 (((37 : Int32) * a2) + a3).toNatClampNeg) e29) glX7_167 ⟨rfl, rfl⟩ hdX7_toldOf ⟨Nat.le_of_ble_eq_true rfl, Nat.le_of_ble_eq_true rfl⟩ (by decide) (eM_0 cy ad _ _) rfl rfl hl.1 rfl (Nat.le_of_ble_eq_true rfl) dX7_mixMessage_88 ⟨Nat.zero_le _, Nat.zero_le _⟩ (fun H locs hP hS => ?_)
    refine lv_i2l hx hb dX7_mixMessage_91 rfl ?_
    obtain ⟨r31, x30, e32, hf⟩ := bd_some hf
    refine gVv (As := [.long r28.toInt64]) (rest := []) (k := 0) hC hP hS (kX7_mix l D cy tX tY ad A hC.2.2.2.2.2.2.2.2.1 F x27 r28.toInt64 e32) glX7_249 ⟨rfl, rfl⟩ hdX7_mix ⟨Nat.le_of_ble_eq_true rfl, Nat.le_of_ble_eq_true rfl⟩ (by decide) (eM_0 cy ad _ _) rfl rfl hl.1 rfl (Nat.le_of_ble_eq_true rfl) dX7_mixMessage_92 ⟨Nat.zero_le _, Nat.zero_le _⟩ (fun H locs hP hS => ?_)
    obtain ⟨b33, e34, hf⟩ := lt_some hf
    refine lv_iinc (v := b33) (lv' := [(3, .int b33), (0, .ref (ad 0)), (1, .int a1), (2, .int a2)]) hx hb dX7_mixMessage_95 hl (k := 3) rfl (by rw [e34]; rfl) (by decide) rfl (fun ls hl => ?_)
    refine lv_goto (tgt := 65) hx hb dX7_mixMessage_98 (by decide) ?_
    exact hrec65 x30 a1 a2 b33 hf H locs ls hP hS (lv_sub hl [1, 2, 3, 0] rfl)
theorem tX7_mixMessage_65 (hC : Cf p s m args meth c cX7_mixMessage 4 RX7 none D cy tX tY ad A 12) (F : Nat) {z : Unit × HT} (rec29 : HT → Int32 → Int32 → Option (Unit × HT)) (hrec29 : ∀ (x : HT) (a1 : Int32) (a2 : Int32), rec29 x a1 a2 = some z → Wd p l e { frames := 6, cells := 0, slots := 0, locals := 144 } s m args below meth c D (eM cy ad) 12 ad A (cQv (eM cy ad) 12 ad D A z) 4 29 [(0, .ref (ad 0)), (1, .int a1), (2, .int a2)] [] x) : ∀ (n9 : Nat) (x : HT) (a1 : Int32) (a2 : Int32) (a3 : Int32), fX7_mixMessage_65 F rec29 n9 x a1 a2 a3 = some z → Wd p l e { frames := 6, cells := 0, slots := 0, locals := 144 } s m args below meth c D (eM cy ad) 12 ad A (cQv (eM cy ad) 12 ad D A z) 4 65 [(0, .ref (ad 0)), (1, .int a1), (2, .int a2), (3, .int a3)] [] x := by
  intro n9
  induction n9 with
  | zero => intro x a1 a2 a3 hf; cases hf
  | succ n9 ih => intro x a1 a2 a3 hf; exact tX7_mixMessage_65b hC F rec29 hrec29 (fX7_mixMessage_65 F rec29 n9) ih x a1 a2 a3 hf
set_option maxHeartbeats 4000000 in
set_option maxRecDepth 100000 in
theorem tX7_mixMessage_40b (hC : Cf p s m args meth c cX7_mixMessage 4 RX7 none D cy tX tY ad A 12) (F : Nat) {z : Unit × HT} (rec29 : HT → Int32 → Int32 → Option (Unit × HT)) (hrec29 : ∀ (x : HT) (a1 : Int32) (a2 : Int32), rec29 x a1 a2 = some z → Wd p l e { frames := 6, cells := 0, slots := 0, locals := 144 } s m args below meth c D (eM cy ad) 12 ad A (cQv (eM cy ad) 12 ad D A z) 4 29 [(0, .ref (ad 0)), (1, .int a1), (2, .int a2)] [] x) (rec40 : HT → Int32 → Int32 → Int32 → Option (Unit × HT)) (hrec40 : ∀ (x : HT) (a1 : Int32) (a2 : Int32) (a3 : Int32), rec40 x a1 a2 a3 = some z → Wd p l e { frames := 6, cells := 0, slots := 0, locals := 144 } s m args below meth c D (eM cy ad) 12 ad A (cQv (eM cy ad) 12 ad D A z) 4 40 [(0, .ref (ad 0)), (1, .int a1), (2, .int a2), (3, .int a3)] [] x) : ∀ (x : HT) (a1 : Int32) (a2 : Int32) (a3 : Int32), fX7_mixMessage_40b F rec29 rec40 x a1 a2 a3 = some z → Wd p l e { frames := 6, cells := 0, slots := 0, locals := 144 } s m args below meth c D (eM cy ad) 12 ad A (cQv (eM cy ad) 12 ad D A z) 4 40 [(0, .ref (ad 0)), (1, .int a1), (2, .int a2), (3, .int a3)] [] x := by
  intro x a1 a2 a3 hf H locs ls hP hS hl
  obtain ⟨hx, hb, -⟩ := id hC
  refine lv_iload_n hx hb dX7_mixMessage_40 rfl (lv_at hl 3 rfl) ?_
  refine lv_bipush (v := 9) hx hb dX7_mixMessage_41 (by decide) ?_
  refine lv_icmp_ge (tgt := 63) hx hb dX7_mixMessage_43 (by decide) (fun c13 => ?_) (fun c13 => ?_)
  · have hf := it_t c13 hf
    refine lv_iconst (v := 0) hx hb dX7_mixMessage_63 (by decide) ?_
    refine lv_istore_n (lv' := [(3, .int (0 : Int32)), (0, .ref (ad 0)), (1, .int a1), (2, .int a2)]) hx hb dX7_mixMessage_64 rfl hl (by decide) rfl (fun ls hl => ?_)
    exact tX7_mixMessage_65 hC F rec29 hrec29 F x a1 a2 (0 : Int32) hf H locs ls hP hS (lv_sub hl [1, 2, 3, 0] rfl)
  · have hf := it_f c13 hf
    refine lv_aload_n hx hb dX7_mixMessage_46 rfl (lv_at hl 0 rfl) ?_
    refine lv_aload_n hx hb dX7_mixMessage_47 rfl (lv_at hl 0 rfl) ?_
    refine lv_iload_n hx hb dX7_mixMessage_48 rfl (lv_at hl 2 rfl) ?_
    refine lv_iload_n hx hb dX7_mixMessage_49 rfl (lv_at hl 3 rfl) ?_
    obtain ⟨r15, x14, e16, hf⟩ := bd_some hf
    refine gVi (As := [.int a2, .int a3]) (rest := [.ref (ad 0)]) (k := 0) hC hP hS (kX7_wormTold l D cy tX tY ad A hC.2.2.2.2.2.2.2.2.1 F x a2 a3 e16) glX7_185 ⟨rfl, rfl⟩ hdX7_wormTold ⟨Nat.le_of_ble_eq_true rfl, Nat.le_of_ble_eq_true rfl⟩ (by decide) (eM_0 cy ad _ _) rfl rfl hl.1 rfl (Nat.le_of_ble_eq_true rfl) dX7_mixMessage_50 ⟨Nat.zero_le _, Nat.zero_le _⟩ (fun H locs hP hS => ?_)
    refine lv_i2l hx hb dX7_mixMessage_53 rfl ?_
    obtain ⟨r18, x17, e19, hf⟩ := bd_some hf
    refine gVv (As := [.long r15.toInt64]) (rest := []) (k := 0) hC hP hS (kX7_mix l D cy tX tY ad A hC.2.2.2.2.2.2.2.2.1 F x14 r15.toInt64 e19) glX7_249 ⟨rfl, rfl⟩ hdX7_mix ⟨Nat.le_of_ble_eq_true rfl, Nat.le_of_ble_eq_true rfl⟩ (by decide) (eM_0 cy ad _ _) rfl rfl hl.1 rfl (Nat.le_of_ble_eq_true rfl) dX7_mixMessage_54 ⟨Nat.zero_le _, Nat.zero_le _⟩ (fun H locs hP hS => ?_)
    obtain ⟨b20, e21, hf⟩ := lt_some hf
    refine lv_iinc (v := b20) (lv' := [(3, .int b20), (0, .ref (ad 0)), (1, .int a1), (2, .int a2)]) hx hb dX7_mixMessage_57 hl (k := 3) rfl (by rw [e21]; rfl) (by decide) rfl (fun ls hl => ?_)
    refine lv_goto (tgt := 40) hx hb dX7_mixMessage_60 (by decide) ?_
    exact hrec40 x17 a1 a2 b20 hf H locs ls hP hS (lv_sub hl [1, 2, 3, 0] rfl)
theorem tX7_mixMessage_40 (hC : Cf p s m args meth c cX7_mixMessage 4 RX7 none D cy tX tY ad A 12) (F : Nat) {z : Unit × HT} (rec29 : HT → Int32 → Int32 → Option (Unit × HT)) (hrec29 : ∀ (x : HT) (a1 : Int32) (a2 : Int32), rec29 x a1 a2 = some z → Wd p l e { frames := 6, cells := 0, slots := 0, locals := 144 } s m args below meth c D (eM cy ad) 12 ad A (cQv (eM cy ad) 12 ad D A z) 4 29 [(0, .ref (ad 0)), (1, .int a1), (2, .int a2)] [] x) : ∀ (n9 : Nat) (x : HT) (a1 : Int32) (a2 : Int32) (a3 : Int32), fX7_mixMessage_40 F rec29 n9 x a1 a2 a3 = some z → Wd p l e { frames := 6, cells := 0, slots := 0, locals := 144 } s m args below meth c D (eM cy ad) 12 ad A (cQv (eM cy ad) 12 ad D A z) 4 40 [(0, .ref (ad 0)), (1, .int a1), (2, .int a2), (3, .int a3)] [] x := by
  intro n9
  induction n9 with
  | zero => intro x a1 a2 a3 hf; cases hf
  | succ n9 ih => intro x a1 a2 a3 hf; exact tX7_mixMessage_40b hC F rec29 hrec29 (fX7_mixMessage_40 F rec29 n9) ih x a1 a2 a3 hf
set_option maxHeartbeats 4000000 in
set_option maxRecDepth 100000 in
theorem tX7_mixMessage_29b (hC : Cf p s m args meth c cX7_mixMessage 4 RX7 none D cy tX tY ad A 12) (F : Nat) {z : Unit × HT} (rec29 : HT → Int32 → Int32 → Option (Unit × HT)) (hrec29 : ∀ (x : HT) (a1 : Int32) (a2 : Int32), rec29 x a1 a2 = some z → Wd p l e { frames := 6, cells := 0, slots := 0, locals := 144 } s m args below meth c D (eM cy ad) 12 ad A (cQv (eM cy ad) 12 ad D A z) 4 29 [(0, .ref (ad 0)), (1, .int a1), (2, .int a2)] [] x) : ∀ (x : HT) (a1 : Int32) (a2 : Int32), fX7_mixMessage_29b F rec29 x a1 a2 = some z → Wd p l e { frames := 6, cells := 0, slots := 0, locals := 144 } s m args below meth c D (eM cy ad) 12 ad A (cQv (eM cy ad) 12 ad D A z) 4 29 [(0, .ref (ad 0)), (1, .int a1), (2, .int a2)] [] x := by
  intro x a1 a2 hf H locs ls hP hS hl
  obtain ⟨hx, hb, -⟩ := id hC
  refine lv_iload_n hx hb dX7_mixMessage_29 rfl (lv_at hl 2 rfl) ?_
  refine lv_iconst (v := 2) hx hb dX7_mixMessage_30 (by decide) ?_
  refine lv_iload_n hx hb dX7_mixMessage_31 rfl (lv_at hl 1 rfl) ?_
  refine lv_imul hx hb dX7_mixMessage_32 ?_
  refine lv_iconst (v := 2) hx hb dX7_mixMessage_33 (by decide) ?_
  refine lv_iadd hx hb dX7_mixMessage_34 ?_
  refine lv_icmp_ge (tgt := 107) hx hb dX7_mixMessage_35 (by decide) (fun c12 => ?_) (fun c12 => ?_)
  · have hf := it_t c12 hf
    exact gVret hC hP hS hf dX7_mixMessage_107
  · have hf := it_f c12 hf
    refine lv_iconst (v := 0) hx hb dX7_mixMessage_38 (by decide) ?_
    refine lv_istore_n (lv' := [(3, .int (0 : Int32)), (0, .ref (ad 0)), (1, .int a1), (2, .int a2)]) hx hb dX7_mixMessage_39 rfl hl (by decide) rfl (fun ls hl => ?_)
    exact tX7_mixMessage_40 hC F rec29 hrec29 F x a1 a2 (0 : Int32) hf H locs ls hP hS (lv_sub hl [1, 2, 3, 0] rfl)
theorem tX7_mixMessage_29 (hC : Cf p s m args meth c cX7_mixMessage 4 RX7 none D cy tX tY ad A 12) (F : Nat) {z : Unit × HT} : ∀ (n9 : Nat) (x : HT) (a1 : Int32) (a2 : Int32), fX7_mixMessage_29 F n9 x a1 a2 = some z → Wd p l e { frames := 6, cells := 0, slots := 0, locals := 144 } s m args below meth c D (eM cy ad) 12 ad A (cQv (eM cy ad) 12 ad D A z) 4 29 [(0, .ref (ad 0)), (1, .int a1), (2, .int a2)] [] x := by
  intro n9
  induction n9 with
  | zero => intro x a1 a2 hf; cases hf
  | succ n9 ih => intro x a1 a2 hf; exact tX7_mixMessage_29b hC F (fX7_mixMessage_29 F n9) ih x a1 a2 hf
set_option maxHeartbeats 4000000 in
set_option maxRecDepth 100000 in
theorem tX7_mixMessage_2b (hC : Cf p s m args meth c cX7_mixMessage 4 RX7 none D cy tX tY ad A 12) (F : Nat) {z : Unit × HT} (rec2 : HT → Int32 → Int32 → Option (Unit × HT)) (hrec2 : ∀ (x : HT) (a1 : Int32) (a2 : Int32), rec2 x a1 a2 = some z → Wd p l e { frames := 6, cells := 0, slots := 0, locals := 144 } s m args below meth c D (eM cy ad) 12 ad A (cQv (eM cy ad) 12 ad D A z) 4 2 [(0, .ref (ad 0)), (1, .int a1), (2, .int a2)] [] x) : ∀ (x : HT) (a1 : Int32) (a2 : Int32), fX7_mixMessage_2b F rec2 x a1 a2 = some z → Wd p l e { frames := 6, cells := 0, slots := 0, locals := 144 } s m args below meth c D (eM cy ad) 12 ad A (cQv (eM cy ad) 12 ad D A z) 4 2 [(0, .ref (ad 0)), (1, .int a1), (2, .int a2)] [] x := by
  intro x a1 a2 hf H locs ls hP hS hl
  obtain ⟨hx, hb, -⟩ := id hC
  refine lv_iload_n hx hb dX7_mixMessage_2 rfl (lv_at hl 2 rfl) ?_
  refine lv_bipush (v := 6) hx hb dX7_mixMessage_3 (by decide) ?_
  refine lv_icmp_ge (tgt := 25) hx hb dX7_mixMessage_5 (by decide) (fun c1 => ?_) (fun c1 => ?_)
  · have hf := it_t c1 hf
    refine lv_iconst (v := 2) hx hb dX7_mixMessage_25 (by decide) ?_
    refine lv_iload_n hx hb dX7_mixMessage_26 rfl (lv_at hl 1 rfl) ?_
    refine lv_imul hx hb dX7_mixMessage_27 ?_
    refine lv_topi (fun b2 e3 => ?_)
    have hf := lt_use e3 hf
    refine lv_istore_n (lv' := [(2, .int b2), (0, .ref (ad 0)), (1, .int a1)]) hx hb dX7_mixMessage_28 rfl hl (by decide) rfl (fun ls hl => ?_)
    exact tX7_mixMessage_29 hC F F x a1 b2 hf H locs ls hP hS (lv_sub hl [1, 2, 0] rfl)
  · have hf := it_f c1 hf
    refine lv_aload_n hx hb dX7_mixMessage_8 rfl (lv_at hl 0 rfl) ?_
    refine lv_aload_n hx hb dX7_mixMessage_9 rfl (lv_at hl 0 rfl) ?_
    refine lv_iload_n hx hb dX7_mixMessage_10 rfl (lv_at hl 1 rfl) ?_
    refine lv_iload_n hx hb dX7_mixMessage_11 rfl (lv_at hl 2 rfl) ?_
    obtain ⟨r5, x4, e6, hf⟩ := bd_some hf
    refine gVi (As := [.int a1, .int a2]) (rest := [.ref (ad 0)]) (k := 0) hC hP hS (kX7_messageTold l D cy tX tY ad A hC.2.2.2.2.2.2.2.2.1 F x a1 a2 e6) glX7_188 ⟨rfl, rfl⟩ hdX7_messageTold ⟨Nat.le_of_ble_eq_true rfl, Nat.le_of_ble_eq_true rfl⟩ (by decide) (eM_0 cy ad _ _) rfl rfl hl.1 rfl (Nat.le_of_ble_eq_true rfl) dX7_mixMessage_12 ⟨Nat.zero_le _, Nat.zero_le _⟩ (fun H locs hP hS => ?_)
    refine lv_i2l hx hb dX7_mixMessage_15 rfl ?_
    obtain ⟨r8, x7, e9, hf⟩ := bd_some hf
    refine gVv (As := [.long r5.toInt64]) (rest := []) (k := 0) hC hP hS (kX7_mix l D cy tX tY ad A hC.2.2.2.2.2.2.2.2.1 F x4 r5.toInt64 e9) glX7_249 ⟨rfl, rfl⟩ hdX7_mix ⟨Nat.le_of_ble_eq_true rfl, Nat.le_of_ble_eq_true rfl⟩ (by decide) (eM_0 cy ad _ _) rfl rfl hl.1 rfl (Nat.le_of_ble_eq_true rfl) dX7_mixMessage_16 ⟨Nat.zero_le _, Nat.zero_le _⟩ (fun H locs hP hS => ?_)
    obtain ⟨b10, e11, hf⟩ := lt_some hf
    refine lv_iinc (v := b10) (lv' := [(2, .int b10), (0, .ref (ad 0)), (1, .int a1)]) hx hb dX7_mixMessage_19 hl (k := 2) rfl (by rw [e11]; rfl) (by decide) rfl (fun ls hl => ?_)
    refine lv_goto (tgt := 2) hx hb dX7_mixMessage_22 (by decide) ?_
    exact hrec2 x7 a1 b10 hf H locs ls hP hS (lv_sub hl [1, 2, 0] rfl)
theorem tX7_mixMessage_2 (hC : Cf p s m args meth c cX7_mixMessage 4 RX7 none D cy tX tY ad A 12) (F : Nat) {z : Unit × HT} : ∀ (n9 : Nat) (x : HT) (a1 : Int32) (a2 : Int32), fX7_mixMessage_2 F n9 x a1 a2 = some z → Wd p l e { frames := 6, cells := 0, slots := 0, locals := 144 } s m args below meth c D (eM cy ad) 12 ad A (cQv (eM cy ad) 12 ad D A z) 4 2 [(0, .ref (ad 0)), (1, .int a1), (2, .int a2)] [] x := by
  intro n9
  induction n9 with
  | zero => intro x a1 a2 hf; cases hf
  | succ n9 ih => intro x a1 a2 hf; exact tX7_mixMessage_2b hC F (fX7_mixMessage_2 F n9) ih x a1 a2 hf
set_option maxHeartbeats 4000000 in
set_option maxRecDepth 100000 in
theorem kX7_mixMessage (l : Launch) (D : va_G) (cy : Nat → ClassId) (tX tY : Nat) (ad : Nat → Nat) (A : Nat → Prop) (hA : apart ad A 12) (F : Nat) (x : HT) (a1 : Int32) {z : Unit × HT} (hf : fX7_mixMessage F x a1 = some z) : Met l yX7_mixMessage (Cond.code yX7_mixMessage cX7_mixMessage 4 none :: wAll) { frames := 6, cells := 0, slots := 0, locals := 144 } (cPc (eM cy ad) 12 ad D cy tX tY A [.ref (ad 0), .int a1] x) (cQv (eM cy ad) 12 ad D A z) 0 0 A := by
  refine gMet hA (by decide) (Nat.le_of_ble_eq_true rfl) (fun p e s m below meth c hC H locs ls hP hS hl => ?_)
  have hC : Cf p s m _ meth c cX7_mixMessage 4 RX7 none D cy tX tY ad A 12 := hC
  have hl : lv_has ls 4 [(0, .ref (ad 0)), (1, .int a1)] := hl
  obtain ⟨hx, hb, -⟩ := id hC
  refine lv_iconst (v := 0) hx hb dX7_mixMessage_0 (by decide) ?_
  refine lv_istore_n (lv' := [(2, .int (0 : Int32)), (0, .ref (ad 0)), (1, .int a1)]) hx hb dX7_mixMessage_1 rfl hl (by decide) rfl (fun ls hl => ?_)
  exact tX7_mixMessage_2 hC F F x a1 (0 : Int32) hf H locs ls hP hS (lv_sub hl [1, 2, 0] rfl)
set_option maxHeartbeats 4000000 in
set_option maxRecDepth 100000 in
theorem tX7_digest_116b (hC : Cf p s m args meth c cX7_digest 3 RX7 (some .long) D cy tX tY ad A 12) (F : Nat) {z : Int64 × HT} (rec116 : HT → Int32 → Option (Int64 × HT)) (hrec116 : ∀ (x : HT) (a1 : Int32), rec116 x a1 = some z → Wd p l e { frames := 8, cells := 0, slots := 0, locals := 181 } s m args below meth c D (eM cy ad) 12 ad A (cQl (eM cy ad) 12 ad D A z) 3 116 [(0, .ref (ad 0)), (1, .int a1)] [] x) : ∀ (x : HT) (a1 : Int32), fX7_digest_116b F rec116 x a1 = some z → Wd p l e { frames := 8, cells := 0, slots := 0, locals := 181 } s m args below meth c D (eM cy ad) 12 ad A (cQl (eM cy ad) 12 ad D A z) 3 116 [(0, .ref (ad 0)), (1, .int a1)] [] x := by
  intro x a1 hf H locs ls hP hS hl
  obtain ⟨hx, hb, -⟩ := id hC
  refine lv_iload_n hx hb dX7_digest_116 rfl (lv_at hl 1 rfl) ?_
  refine lv_aload_n hx hb dX7_digest_117 rfl (lv_at hl 0 rfl) ?_
  refine gfX7_7 hC hP dX7_digest_118 ?_
  refine lv_iconst (v := 3) hx hb dX7_digest_121 (by decide) ?_
  obtain ⟨h39, hf⟩ := ck_some hf
  refine gIal hC hP 1 (by decide) (eM_1 cy ad _ _) h39 dX7_digest_122 ?_
  refine lv_icmp_ge (tgt := 137) hx hb dX7_digest_123 (by decide) (fun c40 => ?_) (fun c40 => ?_)
  · have hf := it_t c40 hf
    refine lv_aload_n hx hb dX7_digest_137 rfl (lv_at hl 0 rfl) ?_
    refine lv_aload_n hx hb dX7_digest_138 rfl (lv_at hl 0 rfl) ?_
    refine lv_iconst (v := -1) hx hb dX7_digest_139 (by decide) ?_
    obtain ⟨r42, x41, e43, hf⟩ := bd_some hf
    refine gVi (As := [.int (-1 : Int32)]) (rest := [.ref (ad 0)]) (k := 0) hC hP hS (kX7_whenDone l D cy tX tY ad A hC.2.2.2.2.2.2.2.2.1 F x (-1 : Int32) e43) glX7_197 ⟨rfl, rfl⟩ hdX7_whenDone ⟨Nat.le_of_ble_eq_true rfl, Nat.le_of_ble_eq_true rfl⟩ (by decide) (eM_0 cy ad _ _) rfl rfl hl.1 rfl (Nat.le_of_ble_eq_true rfl) dX7_digest_140 ⟨Nat.zero_le _, Nat.zero_le _⟩ (fun H locs hP hS => ?_)
    refine lv_i2l hx hb dX7_digest_143 rfl ?_
    obtain ⟨r45, x44, e46, hf⟩ := bd_some hf
    refine gVv (As := [.long r42.toInt64]) (rest := []) (k := 0) hC hP hS (kX7_mix l D cy tX tY ad A hC.2.2.2.2.2.2.2.2.1 F x41 r42.toInt64 e46) glX7_249 ⟨rfl, rfl⟩ hdX7_mix ⟨Nat.le_of_ble_eq_true rfl, Nat.le_of_ble_eq_true rfl⟩ (by decide) (eM_0 cy ad _ _) rfl rfl hl.1 rfl (Nat.le_of_ble_eq_true rfl) dX7_digest_144 ⟨Nat.zero_le _, Nat.zero_le _⟩ (fun H locs hP hS => ?_)
    refine lv_aload_n hx hb dX7_digest_147 rfl (lv_at hl 0 rfl) ?_
    refine gfX7_245 hC hP dX7_digest_148 ?_
    exact gLret hC hP hS hf dX7_digest_151
  · have hf := it_f c40 hf
    refine lv_aload_n hx hb dX7_digest_126 rfl (lv_at hl 0 rfl) ?_
    refine lv_iload_n hx hb dX7_digest_127 rfl (lv_at hl 1 rfl) ?_
    obtain ⟨r48, x47, e49, hf⟩ := bd_some hf
    refine gVv (As := [.int a1]) (rest := []) (k := 0) hC hP hS (kX7_mixMessage l D cy tX tY ad A hC.2.2.2.2.2.2.2.2.1 F x a1 e49) glX7_255 ⟨rfl, rfl⟩ hdX7_mixMessage ⟨Nat.le_of_ble_eq_true rfl, Nat.le_of_ble_eq_true rfl⟩ (by decide) (eM_0 cy ad _ _) rfl rfl hl.1 rfl (Nat.le_of_ble_eq_true rfl) dX7_digest_128 ⟨Nat.zero_le _, Nat.zero_le _⟩ (fun H locs hP hS => ?_)
    obtain ⟨b50, e51, hf⟩ := lt_some hf
    refine lv_iinc (v := b50) (lv' := [(1, .int b50), (0, .ref (ad 0))]) hx hb dX7_digest_131 hl (k := 1) rfl (by rw [e51]; rfl) (by decide) rfl (fun ls hl => ?_)
    refine lv_goto (tgt := 116) hx hb dX7_digest_134 (by decide) ?_
    exact hrec116 x47 b50 hf H locs ls hP hS (lv_sub hl [1, 0] rfl)
theorem tX7_digest_116 (hC : Cf p s m args meth c cX7_digest 3 RX7 (some .long) D cy tX tY ad A 12) (F : Nat) {z : Int64 × HT} : ∀ (n9 : Nat) (x : HT) (a1 : Int32), fX7_digest_116 F n9 x a1 = some z → Wd p l e { frames := 8, cells := 0, slots := 0, locals := 181 } s m args below meth c D (eM cy ad) 12 ad A (cQl (eM cy ad) 12 ad D A z) 3 116 [(0, .ref (ad 0)), (1, .int a1)] [] x := by
  intro n9
  induction n9 with
  | zero => intro x a1 hf; cases hf
  | succ n9 ih => intro x a1 hf; exact tX7_digest_116b hC F (fX7_digest_116 F n9) ih x a1 hf
set_option maxHeartbeats 4000000 in
set_option maxRecDepth 100000 in
theorem tX7_digest_99 (hC : Cf p s m args meth c cX7_digest 3 RX7 (some .long) D cy tX tY ad A 12) (F : Nat) {z : Int64 × HT} (rec60 : HT → Int32 → Option (Int64 × HT)) (hrec60 : ∀ (x : HT) (a1 : Int32), rec60 x a1 = some z → Wd p l e { frames := 8, cells := 0, slots := 0, locals := 181 } s m args below meth c D (eM cy ad) 12 ad A (cQl (eM cy ad) 12 ad D A z) 3 60 [(0, .ref (ad 0)), (1, .int a1)] [] x) (rec79 : HT → Int32 → Int32 → Option (Int64 × HT)) (hrec79 : ∀ (x : HT) (a1 : Int32) (a2 : Int32), rec79 x a1 a2 = some z → Wd p l e { frames := 8, cells := 0, slots := 0, locals := 181 } s m args below meth c D (eM cy ad) 12 ad A (cQl (eM cy ad) 12 ad D A z) 3 79 [(0, .ref (ad 0)), (1, .int a1), (2, .int a2)] [] x) : ∀ (x : HT) (a1 : Int32) (a2 : Int32) (t0 : Int64), fX7_digest_99 F rec60 rec79 x a1 a2 t0 = some z → Wd p l e { frames := 8, cells := 0, slots := 0, locals := 181 } s m args below meth c D (eM cy ad) 12 ad A (cQl (eM cy ad) 12 ad D A z) 3 99 [(0, .ref (ad 0)), (1, .int a1), (2, .int a2)] [.long t0, .ref (ad 0)] x := by
  intro x a1 a2 t0 hf H locs ls hP hS hl
  obtain ⟨hx, hb, -⟩ := id hC
  obtain ⟨r35, x34, e36, hf⟩ := bd_some hf
  refine gVv (As := [.long t0]) (rest := []) (k := 0) hC hP hS (kX7_mix l D cy tX tY ad A hC.2.2.2.2.2.2.2.2.1 F x t0 e36) glX7_249 ⟨rfl, rfl⟩ hdX7_mix ⟨Nat.le_of_ble_eq_true rfl, Nat.le_of_ble_eq_true rfl⟩ (by decide) (eM_0 cy ad _ _) rfl rfl hl.1 rfl (Nat.le_of_ble_eq_true rfl) dX7_digest_99 ⟨Nat.zero_le _, Nat.zero_le _⟩ (fun H locs hP hS => ?_)
  obtain ⟨b37, e38, hf⟩ := lt_some hf
  refine lv_iinc (v := b37) (lv' := [(2, .int b37), (0, .ref (ad 0)), (1, .int a1)]) hx hb dX7_digest_102 hl (k := 2) rfl (by rw [e38]; rfl) (by decide) rfl (fun ls hl => ?_)
  refine lv_goto (tgt := 79) hx hb dX7_digest_105 (by decide) ?_
  exact hrec79 x34 a1 b37 hf H locs ls hP hS (lv_sub hl [1, 2, 0] rfl)
set_option maxHeartbeats 4000000 in
set_option maxRecDepth 100000 in
theorem tX7_digest_79b (hC : Cf p s m args meth c cX7_digest 3 RX7 (some .long) D cy tX tY ad A 12) (F : Nat) {z : Int64 × HT} (rec60 : HT → Int32 → Option (Int64 × HT)) (hrec60 : ∀ (x : HT) (a1 : Int32), rec60 x a1 = some z → Wd p l e { frames := 8, cells := 0, slots := 0, locals := 181 } s m args below meth c D (eM cy ad) 12 ad A (cQl (eM cy ad) 12 ad D A z) 3 60 [(0, .ref (ad 0)), (1, .int a1)] [] x) (rec79 : HT → Int32 → Int32 → Option (Int64 × HT)) (hrec79 : ∀ (x : HT) (a1 : Int32) (a2 : Int32), rec79 x a1 a2 = some z → Wd p l e { frames := 8, cells := 0, slots := 0, locals := 181 } s m args below meth c D (eM cy ad) 12 ad A (cQl (eM cy ad) 12 ad D A z) 3 79 [(0, .ref (ad 0)), (1, .int a1), (2, .int a2)] [] x) : ∀ (x : HT) (a1 : Int32) (a2 : Int32), fX7_digest_79b F rec60 rec79 x a1 a2 = some z → Wd p l e { frames := 8, cells := 0, slots := 0, locals := 181 } s m args below meth c D (eM cy ad) 12 ad A (cQl (eM cy ad) 12 ad D A z) 3 79 [(0, .ref (ad 0)), (1, .int a1), (2, .int a2)] [] x := by
  intro x a1 a2 hf H locs ls hP hS hl
  obtain ⟨hx, hb, -⟩ := id hC
  refine lv_iload_n hx hb dX7_digest_79 rfl (lv_at hl 2 rfl) ?_
  refine lv_iconst (v := 4) hx hb dX7_digest_80 (by decide) ?_
  refine lv_icmp_ge (tgt := 108) hx hb dX7_digest_81 (by decide) (fun c27 => ?_) (fun c27 => ?_)
  · have hf := it_t c27 hf
    obtain ⟨b28, e29, hf⟩ := lt_some hf
    refine lv_iinc (v := b28) (lv' := [(1, .int b28), (0, .ref (ad 0)), (2, .int a2)]) hx hb dX7_digest_108 hl (k := 1) rfl (by rw [e29]; rfl) (by decide) rfl (fun ls hl => ?_)
    refine lv_goto (tgt := 60) hx hb dX7_digest_111 (by decide) ?_
    exact hrec60 x b28 hf H locs ls hP hS (lv_sub hl [1, 0] rfl)
  · have hf := it_f c27 hf
    refine lv_aload_n hx hb dX7_digest_84 rfl (lv_at hl 0 rfl) ?_
    refine lv_aload_n hx hb dX7_digest_85 rfl (lv_at hl 0 rfl) ?_
    refine lv_iload_n hx hb dX7_digest_86 rfl (lv_at hl 1 rfl) ?_
    refine lv_iload_n hx hb dX7_digest_87 rfl (lv_at hl 2 rfl) ?_
    obtain ⟨r31, x30, e32, hf⟩ := bd_some hf
    refine gVi (As := [.int a1, .int a2]) (rest := [.ref (ad 0)]) (k := 0) hC hP hS (kX7_isDown l D cy tX tY ad A hC.2.2.2.2.2.2.2.2.1 F x a1 a2 e32) glX7_103 ⟨rfl, rfl⟩ hdX7_isDown ⟨Nat.le_of_ble_eq_true rfl, Nat.le_of_ble_eq_true rfl⟩ (by decide) (eM_0 cy ad _ _) rfl rfl hl.1 rfl (Nat.le_of_ble_eq_true rfl) dX7_digest_88 ⟨Nat.zero_le _, Nat.zero_le _⟩ (fun H locs hP hS => ?_)
    refine lv_if_eq (tgt := 98) hx hb dX7_digest_91 (by decide) (fun c33 => ?_) (fun c33 => ?_)
    · have hf := it_t c33 hf
      refine lv_lconst (v := 0) hx hb dX7_digest_98 (by decide) ?_
      exact tX7_digest_99 hC F rec60 hrec60 rec79 hrec79 x30 a1 a2 (0 : Int64) hf H locs ls hP hS (lv_sub hl [0, 1, 2] rfl)
    · have hf := it_f c33 hf
      refine lv_lconst (v := 1) hx hb dX7_digest_94 (by decide) ?_
      refine lv_goto (tgt := 99) hx hb dX7_digest_95 (by decide) ?_
      exact tX7_digest_99 hC F rec60 hrec60 rec79 hrec79 x30 a1 a2 (1 : Int64) hf H locs ls hP hS (lv_sub hl [0, 1, 2] rfl)
theorem tX7_digest_79 (hC : Cf p s m args meth c cX7_digest 3 RX7 (some .long) D cy tX tY ad A 12) (F : Nat) {z : Int64 × HT} (rec60 : HT → Int32 → Option (Int64 × HT)) (hrec60 : ∀ (x : HT) (a1 : Int32), rec60 x a1 = some z → Wd p l e { frames := 8, cells := 0, slots := 0, locals := 181 } s m args below meth c D (eM cy ad) 12 ad A (cQl (eM cy ad) 12 ad D A z) 3 60 [(0, .ref (ad 0)), (1, .int a1)] [] x) : ∀ (n9 : Nat) (x : HT) (a1 : Int32) (a2 : Int32), fX7_digest_79 F rec60 n9 x a1 a2 = some z → Wd p l e { frames := 8, cells := 0, slots := 0, locals := 181 } s m args below meth c D (eM cy ad) 12 ad A (cQl (eM cy ad) 12 ad D A z) 3 79 [(0, .ref (ad 0)), (1, .int a1), (2, .int a2)] [] x := by
  intro n9
  induction n9 with
  | zero => intro x a1 a2 hf; cases hf
  | succ n9 ih => intro x a1 a2 hf; exact tX7_digest_79b hC F rec60 hrec60 (fX7_digest_79 F rec60 n9) ih x a1 a2 hf
set_option maxHeartbeats 4000000 in
set_option maxRecDepth 100000 in
theorem tX7_digest_60b (hC : Cf p s m args meth c cX7_digest 3 RX7 (some .long) D cy tX tY ad A 12) (F : Nat) {z : Int64 × HT} (rec60 : HT → Int32 → Option (Int64 × HT)) (hrec60 : ∀ (x : HT) (a1 : Int32), rec60 x a1 = some z → Wd p l e { frames := 8, cells := 0, slots := 0, locals := 181 } s m args below meth c D (eM cy ad) 12 ad A (cQl (eM cy ad) 12 ad D A z) 3 60 [(0, .ref (ad 0)), (1, .int a1)] [] x) : ∀ (x : HT) (a1 : Int32), fX7_digest_60b F rec60 x a1 = some z → Wd p l e { frames := 8, cells := 0, slots := 0, locals := 181 } s m args below meth c D (eM cy ad) 12 ad A (cQl (eM cy ad) 12 ad D A z) 3 60 [(0, .ref (ad 0)), (1, .int a1)] [] x := by
  intro x a1 hf H locs ls hP hS hl
  obtain ⟨hx, hb, -⟩ := id hC
  refine lv_iload_n hx hb dX7_digest_60 rfl (lv_at hl 1 rfl) ?_
  refine lv_aload_n hx hb dX7_digest_61 rfl (lv_at hl 0 rfl) ?_
  refine gfX7_7 hC hP dX7_digest_62 ?_
  refine lv_iconst (v := 0) hx hb dX7_digest_65 (by decide) ?_
  obtain ⟨h24, hf⟩ := ck_some hf
  refine gIal hC hP 1 (by decide) (eM_1 cy ad _ _) h24 dX7_digest_66 ?_
  refine lv_aload_n hx hb dX7_digest_67 rfl (lv_at hl 0 rfl) ?_
  refine gfX7_7 hC hP dX7_digest_68 ?_
  refine lv_iconst (v := 1) hx hb dX7_digest_71 (by decide) ?_
  obtain ⟨h25, hf⟩ := ck_some hf
  refine gIal hC hP 1 (by decide) (eM_1 cy ad _ _) h25 dX7_digest_72 ?_
  refine lv_imul hx hb dX7_digest_73 ?_
  refine lv_icmp_ge (tgt := 114) hx hb dX7_digest_74 (by decide) (fun c26 => ?_) (fun c26 => ?_)
  · have hf := it_t c26 hf
    refine lv_iconst (v := 0) hx hb dX7_digest_114 (by decide) ?_
    refine lv_istore_n (lv' := [(1, .int (0 : Int32)), (0, .ref (ad 0))]) hx hb dX7_digest_115 rfl hl (by decide) rfl (fun ls hl => ?_)
    exact tX7_digest_116 hC F F x (0 : Int32) hf H locs ls hP hS (lv_sub hl [1, 0] rfl)
  · have hf := it_f c26 hf
    refine lv_iconst (v := 0) hx hb dX7_digest_77 (by decide) ?_
    refine lv_istore_n (lv' := [(2, .int (0 : Int32)), (0, .ref (ad 0)), (1, .int a1)]) hx hb dX7_digest_78 rfl hl (by decide) rfl (fun ls hl => ?_)
    exact tX7_digest_79 hC F rec60 hrec60 F x a1 (0 : Int32) hf H locs ls hP hS (lv_sub hl [1, 2, 0] rfl)
theorem tX7_digest_60 (hC : Cf p s m args meth c cX7_digest 3 RX7 (some .long) D cy tX tY ad A 12) (F : Nat) {z : Int64 × HT} : ∀ (n9 : Nat) (x : HT) (a1 : Int32), fX7_digest_60 F n9 x a1 = some z → Wd p l e { frames := 8, cells := 0, slots := 0, locals := 181 } s m args below meth c D (eM cy ad) 12 ad A (cQl (eM cy ad) 12 ad D A z) 3 60 [(0, .ref (ad 0)), (1, .int a1)] [] x := by
  intro n9
  induction n9 with
  | zero => intro x a1 hf; cases hf
  | succ n9 ih => intro x a1 hf; exact tX7_digest_60b hC F (fX7_digest_60 F n9) ih x a1 hf
set_option maxHeartbeats 4000000 in
set_option maxRecDepth 100000 in
theorem tX7_digest_36b (hC : Cf p s m args meth c cX7_digest 3 RX7 (some .long) D cy tX tY ad A 12) (F : Nat) {z : Int64 × HT} (rec36 : HT → Int32 → Option (Int64 × HT)) (hrec36 : ∀ (x : HT) (a1 : Int32), rec36 x a1 = some z → Wd p l e { frames := 8, cells := 0, slots := 0, locals := 181 } s m args below meth c D (eM cy ad) 12 ad A (cQl (eM cy ad) 12 ad D A z) 3 36 [(0, .ref (ad 0)), (1, .int a1)] [] x) : ∀ (x : HT) (a1 : Int32), fX7_digest_36b F rec36 x a1 = some z → Wd p l e { frames := 8, cells := 0, slots := 0, locals := 181 } s m args below meth c D (eM cy ad) 12 ad A (cQl (eM cy ad) 12 ad D A z) 3 36 [(0, .ref (ad 0)), (1, .int a1)] [] x := by
  intro x a1 hf H locs ls hP hS hl
  obtain ⟨hx, hb, -⟩ := id hC
  refine lv_iload_n hx hb dX7_digest_36 rfl (lv_at hl 1 rfl) ?_
  refine lv_bipush (v := 8) hx hb dX7_digest_37 (by decide) ?_
  refine lv_icmp_ge (tgt := 58) hx hb dX7_digest_39 (by decide) (fun c15 => ?_) (fun c15 => ?_)
  · have hf := it_t c15 hf
    refine lv_iconst (v := 0) hx hb dX7_digest_58 (by decide) ?_
    refine lv_istore_n (lv' := [(1, .int (0 : Int32)), (0, .ref (ad 0))]) hx hb dX7_digest_59 rfl hl (by decide) rfl (fun ls hl => ?_)
    exact tX7_digest_60 hC F F x (0 : Int32) hf H locs ls hP hS (lv_sub hl [1, 0] rfl)
  · have hf := it_f c15 hf
    refine lv_aload_n hx hb dX7_digest_42 rfl (lv_at hl 0 rfl) ?_
    refine lv_aload_n hx hb dX7_digest_43 rfl (lv_at hl 0 rfl) ?_
    refine lv_iload_n hx hb dX7_digest_44 rfl (lv_at hl 1 rfl) ?_
    obtain ⟨r17, x16, e18, hf⟩ := bd_some hf
    refine gVi (As := [.int a1]) (rest := [.ref (ad 0)]) (k := 0) hC hP hS (kX7_countTold l D cy tX tY ad A hC.2.2.2.2.2.2.2.2.1 F x a1 e18) glX7_200 ⟨rfl, rfl⟩ hdX7_countTold ⟨Nat.le_of_ble_eq_true rfl, Nat.le_of_ble_eq_true rfl⟩ (by decide) (eM_0 cy ad _ _) rfl rfl hl.1 rfl (Nat.le_of_ble_eq_true rfl) dX7_digest_45 ⟨Nat.zero_le _, Nat.zero_le _⟩ (fun H locs hP hS => ?_)
    refine lv_i2l hx hb dX7_digest_48 rfl ?_
    obtain ⟨r20, x19, e21, hf⟩ := bd_some hf
    refine gVv (As := [.long r17.toInt64]) (rest := []) (k := 0) hC hP hS (kX7_mix l D cy tX tY ad A hC.2.2.2.2.2.2.2.2.1 F x16 r17.toInt64 e21) glX7_249 ⟨rfl, rfl⟩ hdX7_mix ⟨Nat.le_of_ble_eq_true rfl, Nat.le_of_ble_eq_true rfl⟩ (by decide) (eM_0 cy ad _ _) rfl rfl hl.1 rfl (Nat.le_of_ble_eq_true rfl) dX7_digest_49 ⟨Nat.zero_le _, Nat.zero_le _⟩ (fun H locs hP hS => ?_)
    obtain ⟨b22, e23, hf⟩ := lt_some hf
    refine lv_iinc (v := b22) (lv' := [(1, .int b22), (0, .ref (ad 0))]) hx hb dX7_digest_52 hl (k := 1) rfl (by rw [e23]; rfl) (by decide) rfl (fun ls hl => ?_)
    refine lv_goto (tgt := 36) hx hb dX7_digest_55 (by decide) ?_
    exact hrec36 x19 b22 hf H locs ls hP hS (lv_sub hl [1, 0] rfl)
theorem tX7_digest_36 (hC : Cf p s m args meth c cX7_digest 3 RX7 (some .long) D cy tX tY ad A 12) (F : Nat) {z : Int64 × HT} : ∀ (n9 : Nat) (x : HT) (a1 : Int32), fX7_digest_36 F n9 x a1 = some z → Wd p l e { frames := 8, cells := 0, slots := 0, locals := 181 } s m args below meth c D (eM cy ad) 12 ad A (cQl (eM cy ad) 12 ad D A z) 3 36 [(0, .ref (ad 0)), (1, .int a1)] [] x := by
  intro n9
  induction n9 with
  | zero => intro x a1 hf; cases hf
  | succ n9 ih => intro x a1 hf; exact tX7_digest_36b hC F (fX7_digest_36 F n9) ih x a1 hf
set_option maxHeartbeats 4000000 in
set_option maxRecDepth 100000 in
theorem tX7_digest_13b (hC : Cf p s m args meth c cX7_digest 3 RX7 (some .long) D cy tX tY ad A 12) (F : Nat) {z : Int64 × HT} (rec13 : HT → Int32 → Option (Int64 × HT)) (hrec13 : ∀ (x : HT) (a1 : Int32), rec13 x a1 = some z → Wd p l e { frames := 8, cells := 0, slots := 0, locals := 181 } s m args below meth c D (eM cy ad) 12 ad A (cQl (eM cy ad) 12 ad D A z) 3 13 [(0, .ref (ad 0)), (1, .int a1)] [] x) : ∀ (x : HT) (a1 : Int32), fX7_digest_13b F rec13 x a1 = some z → Wd p l e { frames := 8, cells := 0, slots := 0, locals := 181 } s m args below meth c D (eM cy ad) 12 ad A (cQl (eM cy ad) 12 ad D A z) 3 13 [(0, .ref (ad 0)), (1, .int a1)] [] x := by
  intro x a1 hf H locs ls hP hS hl
  obtain ⟨hx, hb, -⟩ := id hC
  refine lv_iload_n hx hb dX7_digest_13 rfl (lv_at hl 1 rfl) ?_
  refine lv_iconst (v := 5) hx hb dX7_digest_14 (by decide) ?_
  refine lv_icmp_ge (tgt := 34) hx hb dX7_digest_15 (by decide) (fun c6 => ?_) (fun c6 => ?_)
  · have hf := it_t c6 hf
    refine lv_iconst (v := 0) hx hb dX7_digest_34 (by decide) ?_
    refine lv_istore_n (lv' := [(1, .int (0 : Int32)), (0, .ref (ad 0))]) hx hb dX7_digest_35 rfl hl (by decide) rfl (fun ls hl => ?_)
    exact tX7_digest_36 hC F F x (0 : Int32) hf H locs ls hP hS (lv_sub hl [1, 0] rfl)
  · have hf := it_f c6 hf
    refine lv_aload_n hx hb dX7_digest_18 rfl (lv_at hl 0 rfl) ?_
    refine lv_aload_n hx hb dX7_digest_19 rfl (lv_at hl 0 rfl) ?_
    refine lv_iload_n hx hb dX7_digest_20 rfl (lv_at hl 1 rfl) ?_
    obtain ⟨r8, x7, e9, hf⟩ := bd_some hf
    refine gVi (As := [.int a1]) (rest := [.ref (ad 0)]) (k := 0) hC hP hS (kX7_toldAt l D cy tX tY ad A hC.2.2.2.2.2.2.2.2.1 F x a1 e9) glX7_240 ⟨rfl, rfl⟩ hdX7_toldAt ⟨Nat.le_of_ble_eq_true rfl, Nat.le_of_ble_eq_true rfl⟩ (by decide) (eM_0 cy ad _ _) rfl rfl hl.1 rfl (Nat.le_of_ble_eq_true rfl) dX7_digest_21 ⟨Nat.zero_le _, Nat.zero_le _⟩ (fun H locs hP hS => ?_)
    refine lv_i2l hx hb dX7_digest_24 rfl ?_
    obtain ⟨r11, x10, e12, hf⟩ := bd_some hf
    refine gVv (As := [.long r8.toInt64]) (rest := []) (k := 0) hC hP hS (kX7_mix l D cy tX tY ad A hC.2.2.2.2.2.2.2.2.1 F x7 r8.toInt64 e12) glX7_249 ⟨rfl, rfl⟩ hdX7_mix ⟨Nat.le_of_ble_eq_true rfl, Nat.le_of_ble_eq_true rfl⟩ (by decide) (eM_0 cy ad _ _) rfl rfl hl.1 rfl (Nat.le_of_ble_eq_true rfl) dX7_digest_25 ⟨Nat.zero_le _, Nat.zero_le _⟩ (fun H locs hP hS => ?_)
    obtain ⟨b13, e14, hf⟩ := lt_some hf
    refine lv_iinc (v := b13) (lv' := [(1, .int b13), (0, .ref (ad 0))]) hx hb dX7_digest_28 hl (k := 1) rfl (by rw [e14]; rfl) (by decide) rfl (fun ls hl => ?_)
    refine lv_goto (tgt := 13) hx hb dX7_digest_31 (by decide) ?_
    exact hrec13 x10 b13 hf H locs ls hP hS (lv_sub hl [1, 0] rfl)
theorem tX7_digest_13 (hC : Cf p s m args meth c cX7_digest 3 RX7 (some .long) D cy tX tY ad A 12) (F : Nat) {z : Int64 × HT} : ∀ (n9 : Nat) (x : HT) (a1 : Int32), fX7_digest_13 F n9 x a1 = some z → Wd p l e { frames := 8, cells := 0, slots := 0, locals := 181 } s m args below meth c D (eM cy ad) 12 ad A (cQl (eM cy ad) 12 ad D A z) 3 13 [(0, .ref (ad 0)), (1, .int a1)] [] x := by
  intro n9
  induction n9 with
  | zero => intro x a1 hf; cases hf
  | succ n9 ih => intro x a1 hf; exact tX7_digest_13b hC F (fX7_digest_13 F n9) ih x a1 hf
set_option maxHeartbeats 4000000 in
set_option maxRecDepth 100000 in
theorem kX7_digest (l : Launch) (D : va_G) (cy : Nat → ClassId) (tX tY : Nat) (ad : Nat → Nat) (A : Nat → Prop) (hA : apart ad A 12) (F : Nat) (x : HT) {z : Int64 × HT} (hf : fX7_digest F x = some z) : Met l yX7_digest (Cond.code yX7_digest cX7_digest 3 (some .long) :: wAll) { frames := 8, cells := 0, slots := 0, locals := 181 } (cPc (eM cy ad) 12 ad D cy tX tY A [.ref (ad 0)] x) (cQl (eM cy ad) 12 ad D A z) 0 0 A := by
  refine gMet hA (by decide) (Nat.le_of_ble_eq_true rfl) (fun p e s m below meth c hC H locs ls hP hS hl => ?_)
  have hC : Cf p s m _ meth c cX7_digest 3 RX7 (some .long) D cy tX tY ad A 12 := hC
  have hl : lv_has ls 3 [(0, .ref (ad 0))] := hl
  obtain ⟨hx, hb, -⟩ := id hC
  refine lv_aload_n hx hb dX7_digest_0 rfl (lv_at hl 0 rfl) ?_
  refine lv_ldc2 (v := 2806) hx hb hC.2.2.2.1 (hC.2.2.2.2.1 _ qw1161) dX7_digest_1 ?_
  refine pfX7_245 hC hP hS dX7_digest_4 (fun H locs hP hS => ?_)
  obtain ⟨x1, e2, hf⟩ := lt_some hf
  have hP : va_P D vwCl (wG (eM cy ad) 12 ad x1) H := by rw [e2]; exact hP
  refine lv_aload_n hx hb dX7_digest_7 rfl (lv_at hl 0 rfl) ?_
  obtain ⟨r4, x3, e5, hf⟩ := bd_some hf
  refine gVv (As := []) (rest := []) (k := 0) hC hP hS (kX7_laysWays l D cy tX tY ad A hC.2.2.2.2.2.2.2.2.1 F x1 e5) glX7_129 ⟨rfl, rfl⟩ hdX7_laysWays ⟨Nat.le_of_ble_eq_true rfl, Nat.le_of_ble_eq_true rfl⟩ (by decide) (eM_0 cy ad _ _) rfl rfl hl.1 rfl (Nat.le_of_ble_eq_true rfl) dX7_digest_8 ⟨Nat.zero_le _, Nat.zero_le _⟩ (fun H locs hP hS => ?_)
  refine lv_iconst (v := 0) hx hb dX7_digest_11 (by decide) ?_
  refine lv_istore_n (lv' := [(1, .int (0 : Int32)), (0, .ref (ad 0))]) hx hb dX7_digest_12 rfl hl (by decide) rfl (fun ls hl => ?_)
  exact tX7_digest_13 hC F F x3 (0 : Int32) hf H locs ls hP hS (lv_sub hl [1, 0] rfl)
