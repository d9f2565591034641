variable {p : Program} {l : Launch} {e : Env} {s : State} {m : MethodId} {args : Array Value} {below : List Frame} {meth : Method} {c : Code} {D : va_G} {cy : Nat → ClassId} {tX tY : Nat} {ad : Nat → Nat} {A : Nat → Prop}
set_option maxHeartbeats 4000000 in
set_option maxRecDepth 100000 in
theorem kJ6_bitCount_0f7a4 (l : Launch) (D : va_G) (cy : Nat → ClassId) (tX tY : Nat) (ad : Nat → Nat) (A : Nat → Prop) (hA : apart ad A 93) (F : Nat) (x : HT) (a0 : Int32) {z : Int32 × HT} (hf : fJ6_bitCount_0f7a4 F x a0 = some z) : Met l yJ6_bitCount_0f7a4 (Cond.code yJ6_bitCount_0f7a4 cJ6_bitCount_0f7a4 1 (some .int) :: wAll) { frames := 0, cells := 0, slots := 0, locals := 0 } (cPc (eX cy ad) 93 ad D cy tX tY A [.int a0] x) (cQi (eX cy ad) 93 ad D A z) 0 0 A := by
  refine gMet hA (by decide) (Nat.le_of_ble_eq_true rfl) (fun p e s m below meth c hC H locs ls hP hS hl => ?_)
  have hC : Cf p s m _ meth c cJ6_bitCount_0f7a4 1 RJ6 (some .int) D cy tX tY ad A 93 := hC
  have hl : lv_has ls 1 [(0, .int a0)] := hl
  obtain ⟨hx, hb, -⟩ := id hC
  refine lv_iload_n hx hb dJ6_bitCount_0f7a4_0 rfl (lv_at hl 0 rfl) ?_
  refine lv_iload_n hx hb dJ6_bitCount_0f7a4_1 rfl (lv_at hl 0 rfl) ?_
  refine lv_iconst (v := 1) hx hb dJ6_bitCount_0f7a4_2 (by decide) ?_
  refine lv_iushr hx hb dJ6_bitCount_0f7a4_3 rfl ?_
  refine lv_ldcw (v := 1431655765) hx hb hC.2.2.2.1 (hC.2.2.2.2.1 _ qw665) dJ6_bitCount_0f7a4_4 ?_
  refine lv_iand hx hb dJ6_bitCount_0f7a4_7 ?_
  refine lv_isub hx hb dJ6_bitCount_0f7a4_8 ?_
  refine lv_topi (fun b1 e2 => ?_)
  have hf := lt_use e2 hf
  refine lv_istore_n (lv' := [(0, .int b1)]) hx hb dJ6_bitCount_0f7a4_9 rfl hl (by decide) rfl (fun ls hl => ?_)
  refine lv_iload_n hx hb dJ6_bitCount_0f7a4_10 rfl (lv_at hl 0 rfl) ?_
  refine lv_ldcw (v := 858993459) hx hb hC.2.2.2.1 (hC.2.2.2.2.1 _ qw666) dJ6_bitCount_0f7a4_11 ?_
  refine lv_iand hx hb dJ6_bitCount_0f7a4_14 ?_
  refine lv_iload_n hx hb dJ6_bitCount_0f7a4_15 rfl (lv_at hl 0 rfl) ?_
  refine lv_iconst (v := 2) hx hb dJ6_bitCount_0f7a4_16 (by decide) ?_
  refine lv_iushr hx hb dJ6_bitCount_0f7a4_17 rfl ?_
  refine lv_ldcw (v := 858993459) hx hb hC.2.2.2.1 (hC.2.2.2.2.1 _ qw666) dJ6_bitCount_0f7a4_18 ?_
  refine lv_iand hx hb dJ6_bitCount_0f7a4_21 ?_
  refine lv_iadd hx hb dJ6_bitCount_0f7a4_22 ?_
  refine lv_topi (fun b3 e4 => ?_)
  have hf := lt_use e4 hf
  refine lv_istore_n (lv' := [(0, .int b3)]) hx hb dJ6_bitCount_0f7a4_23 rfl hl (by decide) rfl (fun ls hl => ?_)
  refine lv_iload_n hx hb dJ6_bitCount_0f7a4_24 rfl (lv_at hl 0 rfl) ?_
  refine lv_iload_n hx hb dJ6_bitCount_0f7a4_25 rfl (lv_at hl 0 rfl) ?_
  refine lv_iconst (v := 4) hx hb dJ6_bitCount_0f7a4_26 (by decide) ?_
  refine lv_iushr hx hb dJ6_bitCount_0f7a4_27 rfl ?_
  refine lv_iadd hx hb dJ6_bitCount_0f7a4_28 ?_
  refine lv_ldcw (v := 252645135) hx hb hC.2.2.2.1 (hC.2.2.2.2.1 _ qw667) dJ6_bitCount_0f7a4_29 ?_
  refine lv_iand hx hb dJ6_bitCount_0f7a4_32 ?_
  refine lv_topi (fun b5 e6 => ?_)
  have hf := lt_use e6 hf
  refine lv_istore_n (lv' := [(0, .int b5)]) hx hb dJ6_bitCount_0f7a4_33 rfl hl (by decide) rfl (fun ls hl => ?_)
  refine lv_iload_n hx hb dJ6_bitCount_0f7a4_34 rfl (lv_at hl 0 rfl) ?_
  refine lv_iload_n hx hb dJ6_bitCount_0f7a4_35 rfl (lv_at hl 0 rfl) ?_
  refine lv_bipush (v := 8) hx hb dJ6_bitCount_0f7a4_36 (by decide) ?_
  refine lv_iushr hx hb dJ6_bitCount_0f7a4_38 rfl ?_
  refine lv_iadd hx hb dJ6_bitCount_0f7a4_39 ?_
  refine lv_topi (fun b7 e8 => ?_)
  have hf := lt_use e8 hf
  refine lv_istore_n (lv' := [(0, .int b7)]) hx hb dJ6_bitCount_0f7a4_40 rfl hl (by decide) rfl (fun ls hl => ?_)
  refine lv_iload_n hx hb dJ6_bitCount_0f7a4_41 rfl (lv_at hl 0 rfl) ?_
  refine lv_iload_n hx hb dJ6_bitCount_0f7a4_42 rfl (lv_at hl 0 rfl) ?_
  refine lv_bipush (v := 16) hx hb dJ6_bitCount_0f7a4_43 (by decide) ?_
  refine lv_iushr hx hb dJ6_bitCount_0f7a4_45 rfl ?_
  refine lv_iadd hx hb dJ6_bitCount_0f7a4_46 ?_
  refine lv_topi (fun b9 e10 => ?_)
  have hf := lt_use e10 hf
  refine lv_istore_n (lv' := [(0, .int b9)]) hx hb dJ6_bitCount_0f7a4_47 rfl hl (by decide) rfl (fun ls hl => ?_)
  refine lv_iload_n hx hb dJ6_bitCount_0f7a4_48 rfl (lv_at hl 0 rfl) ?_
  refine lv_bipush (v := 63) hx hb dJ6_bitCount_0f7a4_49 (by decide) ?_
  refine lv_iand hx hb dJ6_bitCount_0f7a4_51 ?_
  exact gIret hC hP hS hf dJ6_bitCount_0f7a4_52
set_option maxHeartbeats 4000000 in
set_option maxRecDepth 100000 in
theorem kJ13_bitCount_95d88 (l : Launch) (D : va_G) (cy : Nat → ClassId) (tX tY : Nat) (ad : Nat → Nat) (A : Nat → Prop) (hA : apart ad A 93) (F : Nat) (x : HT) (a0 : Int64) {z : Int32 × HT} (hf : fJ13_bitCount_95d88 F x a0 = some z) : Met l yJ13_bitCount_95d88 (Cond.code yJ13_bitCount_95d88 cJ13_bitCount_95d88 2 (some .int) :: wAll) { frames := 0, cells := 0, slots := 0, locals := 0 } (cPc (eX cy ad) 93 ad D cy tX tY A [.long a0] x) (cQi (eX cy ad) 93 ad D A z) 0 0 A := by
  refine gMet hA (by decide) (Nat.le_of_ble_eq_true rfl) (fun p e s m below meth c hC H locs ls hP hS hl => ?_)
  have hC : Cf p s m _ meth c cJ13_bitCount_95d88 2 RJ13 (some .int) D cy tX tY ad A 93 := hC
  have hl : lv_has ls 2 [(0, .long a0)] := hl
  obtain ⟨hx, hb, -⟩ := id hC
  refine lv_lload_n hx hb dJ13_bitCount_95d88_0 rfl (lv_at hl 0 rfl) ?_
  refine lv_lload_n hx hb dJ13_bitCount_95d88_1 rfl (lv_at hl 0 rfl) ?_
  refine lv_iconst (v := 1) hx hb dJ13_bitCount_95d88_2 (by decide) ?_
  refine lv_lushr hx hb dJ13_bitCount_95d88_3 rfl ?_
  refine lv_ldc2 (v := 6148914691236517205) hx hb hC.2.2.2.1 (hC.2.2.2.2.1 _ qw423) dJ13_bitCount_95d88_4 ?_
  refine lv_land hx hb dJ13_bitCount_95d88_7 ?_
  refine lv_lsub hx hb dJ13_bitCount_95d88_8 ?_
  refine lv_topl (fun b1 e2 => ?_)
  have hf := lt_use e2 hf
  refine lv_lstore_n (lv' := [(0, .long b1)]) hx hb dJ13_bitCount_95d88_9 rfl hl (by decide) rfl (fun ls hl => ?_)
  refine lv_lload_n hx hb dJ13_bitCount_95d88_10 rfl (lv_at hl 0 rfl) ?_
  refine lv_ldc2 (v := 3689348814741910323) hx hb hC.2.2.2.1 (hC.2.2.2.2.1 _ qw424) dJ13_bitCount_95d88_11 ?_
  refine lv_land hx hb dJ13_bitCount_95d88_14 ?_
  refine lv_lload_n hx hb dJ13_bitCount_95d88_15 rfl (lv_at hl 0 rfl) ?_
  refine lv_iconst (v := 2) hx hb dJ13_bitCount_95d88_16 (by decide) ?_
  refine lv_lushr hx hb dJ13_bitCount_95d88_17 rfl ?_
  refine lv_ldc2 (v := 3689348814741910323) hx hb hC.2.2.2.1 (hC.2.2.2.2.1 _ qw424) dJ13_bitCount_95d88_18 ?_
  refine lv_land hx hb dJ13_bitCount_95d88_21 ?_
  refine lv_ladd hx hb dJ13_bitCount_95d88_22 ?_
  refine lv_topl (fun b3 e4 => ?_)
  have hf := lt_use e4 hf
  refine lv_lstore_n (lv' := [(0, .long b3)]) hx hb dJ13_bitCount_95d88_23 rfl hl (by decide) rfl (fun ls hl => ?_)
  refine lv_lload_n hx hb dJ13_bitCount_95d88_24 rfl (lv_at hl 0 rfl) ?_
  refine lv_lload_n hx hb dJ13_bitCount_95d88_25 rfl (lv_at hl 0 rfl) ?_
  refine lv_iconst (v := 4) hx hb dJ13_bitCount_95d88_26 (by decide) ?_
  refine lv_lushr hx hb dJ13_bitCount_95d88_27 rfl ?_
  refine lv_ladd hx hb dJ13_bitCount_95d88_28 ?_
  refine lv_ldc2 (v := 1085102592571150095) hx hb hC.2.2.2.1 (hC.2.2.2.2.1 _ qw425) dJ13_bitCount_95d88_29 ?_
  refine lv_land hx hb dJ13_bitCount_95d88_32 ?_
  refine lv_topl (fun b5 e6 => ?_)
  have hf := lt_use e6 hf
  refine lv_lstore_n (lv' := [(0, .long b5)]) hx hb dJ13_bitCount_95d88_33 rfl hl (by decide) rfl (fun ls hl => ?_)
  refine lv_lload_n hx hb dJ13_bitCount_95d88_34 rfl (lv_at hl 0 rfl) ?_
  refine lv_lload_n hx hb dJ13_bitCount_95d88_35 rfl (lv_at hl 0 rfl) ?_
  refine lv_bipush (v := 8) hx hb dJ13_bitCount_95d88_36 (by decide) ?_
  refine lv_lushr hx hb dJ13_bitCount_95d88_38 rfl ?_
  refine lv_ladd hx hb dJ13_bitCount_95d88_39 ?_
  refine lv_topl (fun b7 e8 => ?_)
  have hf := lt_use e8 hf
  refine lv_lstore_n (lv' := [(0, .long b7)]) hx hb dJ13_bitCount_95d88_40 rfl hl (by decide) rfl (fun ls hl => ?_)
  refine lv_lload_n hx hb dJ13_bitCount_95d88_41 rfl (lv_at hl 0 rfl) ?_
  refine lv_lload_n hx hb dJ13_bitCount_95d88_42 rfl (lv_at hl 0 rfl) ?_
  refine lv_bipush (v := 16) hx hb dJ13_bitCount_95d88_43 (by decide) ?_
  refine lv_lushr hx hb dJ13_bitCount_95d88_45 rfl ?_
  refine lv_ladd hx hb dJ13_bitCount_95d88_46 ?_
  refine lv_topl (fun b9 e10 => ?_)
  have hf := lt_use e10 hf
  refine lv_lstore_n (lv' := [(0, .long b9)]) hx hb dJ13_bitCount_95d88_47 rfl hl (by decide) rfl (fun ls hl => ?_)
  refine lv_lload_n hx hb dJ13_bitCount_95d88_48 rfl (lv_at hl 0 rfl) ?_
  refine lv_lload_n hx hb dJ13_bitCount_95d88_49 rfl (lv_at hl 0 rfl) ?_
  refine lv_bipush (v := 32) hx hb dJ13_bitCount_95d88_50 (by decide) ?_
  refine lv_lushr hx hb dJ13_bitCount_95d88_52 rfl ?_
  refine lv_ladd hx hb dJ13_bitCount_95d88_53 ?_
  refine lv_topl (fun b11 e12 => ?_)
  have hf := lt_use e12 hf
  refine lv_lstore_n (lv' := [(0, .long b11)]) hx hb dJ13_bitCount_95d88_54 rfl hl (by decide) rfl (fun ls hl => ?_)
  refine lv_lload_n hx hb dJ13_bitCount_95d88_55 rfl (lv_at hl 0 rfl) ?_
  refine lv_l2i hx hb dJ13_bitCount_95d88_56 rfl ?_
  refine lv_bipush (v := 127) hx hb dJ13_bitCount_95d88_57 (by decide) ?_
  refine lv_iand hx hb dJ13_bitCount_95d88_59 ?_
  exact gIret hC hP hS hf dJ13_bitCount_95d88_60
set_option maxHeartbeats 4000000 in
set_option maxRecDepth 100000 in
theorem kX2_standStill (l : Launch) (D : va_G) (cy : Nat → ClassId) (tX tY : Nat) (ad : Nat → Nat) (A : Nat → Prop) (hA : apart ad A 93) (F : Nat) {j : Nat} (hj : j < 8) (x : HT) {z : Unit × HT} (hf : fX2_standStill F j x = some z) : Met l yX2_standStill (Cond.code yX2_standStill cX2_standStill 1 none :: wAll) { frames := 1, cells := 0, slots := 0, locals := 23 } (cPc (eX cy ad) 93 ad D cy tX tY A [.ref (ad (7 * j + 1))] x) (cQv (eX cy ad) 93 ad D A z) 0 0 A := by
  refine gMet hA (by decide) (Nat.le_of_ble_eq_true rfl) (fun p e s m below meth c hC H locs ls hP hS hl => ?_)
  have hC : Cf p s m _ meth c cX2_standStill 1 RX2 none D cy tX tY ad A 93 := hC
  have hl : lv_has ls 1 [(0, .ref (ad (7 * j + 1)))] := hl
  obtain ⟨hx, hb, -⟩ := id hC
  refine lv_aload_n hx hb dX2_standStill_0 rfl (lv_at hl 0 rfl) ?_
  refine lv_iconst (v := 0) hx hb dX2_standStill_1 (by decide) ?_
  refine pfX2_50 hC hP hS hj dX2_standStill_2 (fun H locs hP hS => ?_)
  obtain ⟨x1, e2, hf⟩ := lt_some hf
  have hP : va_P D vwCl (wG (eX cy ad) 93 ad x1) H := by rw [e2]; exact hP
  refine lv_aload_n hx hb dX2_standStill_5 rfl (lv_at hl 0 rfl) ?_
  refine gfX2_25 hC hP hj dX2_standStill_6 ?_
  refine lv_iconst (v := 0) hx hb dX2_standStill_9 (by decide) ?_
  obtain ⟨r5, x3, e4, hf⟩ := bd_some hf
  refine gSv (As := [.ref (ad (7 * j + 6)), .int (0 : Int32)]) (rest := []) hC hP hS (kJ7_fill l D cy tX tY ad A hC.2.2.2.2.2.2.2.2.1 F (7 * j + 6) 10 (by omega) (by decide) (fun g9 h9 => eX_S5 hj cy ad g9 h9) x1 (0 : Int32) e4) glX2_41 ⟨rfl, rfl⟩ hdJ7_fill_53178 ⟨Nat.le_of_ble_eq_true rfl, Nat.le_of_ble_eq_true rfl⟩ rfl hl.1 rfl (Nat.le_of_ble_eq_true rfl) dX2_standStill_10 ⟨Nat.zero_le _, Nat.zero_le _⟩ (fun H locs hP hS => ?_)
  refine lv_aload_n hx hb dX2_standStill_13 rfl (lv_at hl 0 rfl) ?_
  refine gfX2_28 hC hP hj dX2_standStill_14 ?_
  refine lv_iconst (v := 0) hx hb dX2_standStill_17 (by decide) ?_
  obtain ⟨r8, x6, e7, hf⟩ := bd_some hf
  refine gSv (As := [.ref (ad (7 * j + 7)), .int (0 : Int32)]) (rest := []) hC hP hS (kJ7_fill l D cy tX tY ad A hC.2.2.2.2.2.2.2.2.1 F (7 * j + 7) 10 (by omega) (by decide) (fun g9 h9 => eX_S6 hj cy ad g9 h9) x3 (0 : Int32) e7) glX2_41 ⟨rfl, rfl⟩ hdJ7_fill_53178 ⟨Nat.le_of_ble_eq_true rfl, Nat.le_of_ble_eq_true rfl⟩ rfl hl.1 rfl (Nat.le_of_ble_eq_true rfl) dX2_standStill_18 ⟨Nat.zero_le _, Nat.zero_le _⟩ (fun H locs hP hS => ?_)
  exact gVret hC hP hS hf dX2_standStill_21
set_option maxHeartbeats 4000000 in
set_option maxRecDepth 100000 in
theorem kX2_begin (l : Launch) (D : va_G) (cy : Nat → ClassId) (tX tY : Nat) (ad : Nat → Nat) (A : Nat → Prop) (hA : apart ad A 93) (F : Nat) {j : Nat} (hj : j < 8) (x : HT) (a1 : Int32) (a2 : Int32) {z : Unit × HT} (hf : fX2_begin F j x a1 a2 = some z) : Met l yX2_begin (Cond.code yX2_begin cX2_begin 3 none :: wAll) { frames := 2, cells := 0, slots := 0, locals := 43 } (cPc (eX cy ad) 93 ad D cy tX tY A [.ref (ad (7 * j + 1)), .int a1, .int a2] x) (cQv (eX cy ad) 93 ad D A z) 0 0 A := by
  refine gMet hA (by decide) (Nat.le_of_ble_eq_true rfl) (fun p e s m below meth c hC H locs ls hP hS hl => ?_)
  have hC : Cf p s m _ meth c cX2_begin 3 RX2 none D cy tX tY ad A 93 := hC
  have hl : lv_has ls 3 [(0, .ref (ad (7 * j + 1))), (1, .int a1), (2, .int a2)] := hl
  obtain ⟨hx, hb, -⟩ := id hC
  refine lv_aload_n hx hb dX2_begin_0 rfl (lv_at hl 0 rfl) ?_
  refine lv_iload_n hx hb dX2_begin_1 rfl (lv_at hl 1 rfl) ?_
  refine pfX2_31 hC hP hS hj dX2_begin_2 (fun H locs hP hS => ?_)
  obtain ⟨x1, e2, hf⟩ := lt_some hf
  have hP : va_P D vwCl (wG (eX cy ad) 93 ad x1) H := by rw [e2]; exact hP
  refine lv_aload_n hx hb dX2_begin_5 rfl (lv_at hl 0 rfl) ?_
  refine lv_iload_n hx hb dX2_begin_6 rfl (lv_at hl 2 rfl) ?_
  refine pfX2_35 hC hP hS hj dX2_begin_7 (fun H locs hP hS => ?_)
  obtain ⟨x3, e4, hf⟩ := lt_some hf
  have hP : va_P D vwCl (wG (eX cy ad) 93 ad x3) H := by rw [e4]; exact hP
  refine lv_aload_n hx hb dX2_begin_10 rfl (lv_at hl 0 rfl) ?_
  refine lv_iconst (v := 0) hx hb dX2_begin_11 (by decide) ?_
  refine pfX2_38 hC hP hS hj dX2_begin_12 (fun H locs hP hS => ?_)
  obtain ⟨x5, e6, hf⟩ := lt_some hf
  have hP : va_P D vwCl (wG (eX cy ad) 93 ad x5) H := by rw [e6]; exact hP
  refine lv_aload_n hx hb dX2_begin_15 rfl (lv_at hl 0 rfl) ?_
  refine gfX2_9 hC hP hj dX2_begin_16 ?_
  refine lv_iconst (v := 0) hx hb dX2_begin_19 (by decide) ?_
  obtain ⟨r9, x7, e8, hf⟩ := bd_some hf
  refine gSv (As := [.ref (ad (7 * j + 2)), .int (0 : Int32)]) (rest := []) hC hP hS (kJ7_fill l D cy tX tY ad A hC.2.2.2.2.2.2.2.2.1 F (7 * j + 2) 36 (by omega) (by decide) (fun g9 h9 => eX_S1 hj cy ad g9 h9) x5 (0 : Int32) e8) glX2_41 ⟨rfl, rfl⟩ hdJ7_fill_53178 ⟨Nat.le_of_ble_eq_true rfl, Nat.le_of_ble_eq_true rfl⟩ rfl hl.1 rfl (Nat.le_of_ble_eq_true rfl) dX2_begin_20 ⟨Nat.zero_le _, Nat.zero_le _⟩ (fun H locs hP hS => ?_)
  refine lv_aload_n hx hb dX2_begin_23 rfl (lv_at hl 0 rfl) ?_
  obtain ⟨r11, x10, e12, hf⟩ := bd_some hf
  refine gVv (As := []) (rest := []) (k := (7 * j + 1)) hC hP hS (kX2_standStill l D cy tX tY ad A hC.2.2.2.2.2.2.2.2.1 F (j := j) hj x7 e12) glX2_47 ⟨rfl, rfl⟩ hdX2_standStill ⟨Nat.le_of_ble_eq_true rfl, Nat.le_of_ble_eq_true rfl⟩ (by omega) (eX_S hj cy ad _ _) rfl rfl hl.1 rfl (Nat.le_of_ble_eq_true rfl) dX2_begin_24 ⟨Nat.zero_le _, Nat.zero_le _⟩ (fun H locs hP hS => ?_)
  exact gVret hC hP hS hf dX2_begin_27
set_option maxHeartbeats 4000000 in
set_option maxRecDepth 100000 in
theorem tX0_labelAt_24 (hC : Cf p s m args meth c cX0_labelAt 3 RX0 (some .int) D cy tX tY ad A 93) (F : Nat) {z : Int32 × HT} : ∀ (x : HT) (t0 : Int32) (t1 : Int32), fX0_labelAt_24 F x t0 t1 = some z → Wd p l e { frames := 0, cells := 0, slots := 0, locals := 0 } s m args below meth c D (eX cy ad) 93 ad A (cQi (eX cy ad) 93 ad D A z) 3 24 [] [.int t1, .int t0] x := by
  intro x t0 t1 hf H locs ls hP hS hl
  obtain ⟨hx, hb, -⟩ := id hC
  refine lv_iadd hx hb dX0_labelAt_24 ?_
  exact gIret hC hP hS hf dX0_labelAt_25
set_option maxHeartbeats 4000000 in
set_option maxRecDepth 100000 in
theorem kX0_labelAt (l : Launch) (D : va_G) (cy : Nat → ClassId) (tX tY : Nat) (ad : Nat → Nat) (A : Nat → Prop) (hA : apart ad A 93) (F : Nat) (x : HT) (a1 : Int32) (a2 : Int32) {z : Int32 × HT} (hf : fX0_labelAt F x a1 a2 = some z) : Met l yX0_labelAt (Cond.code yX0_labelAt cX0_labelAt 3 (some .int) :: wAll) { frames := 0, cells := 0, slots := 0, locals := 0 } (cPc (eX cy ad) 93 ad D cy tX tY A [.ref (ad 59), .int a1, .int a2] x) (cQi (eX cy ad) 93 ad D A z) 0 0 A := by
  refine gMet hA (by decide) (Nat.le_of_ble_eq_true rfl) (fun p e s m below meth c hC H locs ls hP hS hl => ?_)
  have hC : Cf p s m _ meth c cX0_labelAt 3 RX0 (some .int) D cy tX tY ad A 93 := hC
  have hl : lv_has ls 3 [(0, .ref (ad 59)), (1, .int a1), (2, .int a2)] := hl
  obtain ⟨hx, hb, -⟩ := id hC
  refine lv_iload_n hx hb dX0_labelAt_0 rfl (lv_at hl 2 rfl) ?_
  refine lv_aload_n hx hb dX0_labelAt_1 rfl (lv_at hl 0 rfl) ?_
  refine gfX0_21 hC hP dX0_labelAt_2 ?_
  refine lv_imul hx hb dX0_labelAt_5 ?_
  refine lv_iload_n hx hb dX0_labelAt_6 rfl (lv_at hl 2 rfl) ?_
  refine lv_iconst (v := 1) hx hb dX0_labelAt_7 (by decide) ?_
  refine lv_iand hx hb dX0_labelAt_8 ?_
  refine lv_if_ne (tgt := 16) hx hb dX0_labelAt_9 (by decide) (fun c1 => ?_) (fun c1 => ?_)
  · have hf := it_f c1 hf
    refine lv_aload_n hx hb dX0_labelAt_16 rfl (lv_at hl 0 rfl) ?_
    refine gfX0_21 hC hP dX0_labelAt_17 ?_
    refine lv_iconst (v := 1) hx hb dX0_labelAt_20 (by decide) ?_
    refine lv_isub hx hb dX0_labelAt_21 ?_
    refine lv_iload_n hx hb dX0_labelAt_22 rfl (lv_at hl 1 rfl) ?_
    refine lv_isub hx hb dX0_labelAt_23 ?_
    exact tX0_labelAt_24 hC F x (a2 * (x.1 59 0)) (((x.1 59 0) - (1 : Int32)) - a1) hf H locs ls hP hS (lv_sub hl [] rfl)
  · have hf := it_t c1 hf
    refine lv_iload_n hx hb dX0_labelAt_12 rfl (lv_at hl 1 rfl) ?_
    refine lv_goto (tgt := 24) hx hb dX0_labelAt_13 (by decide) ?_
    exact tX0_labelAt_24 hC F x (a2 * (x.1 59 0)) a1 hf H locs ls hP hS (lv_sub hl [] rfl)
set_option maxHeartbeats 4000000 in
set_option maxRecDepth 100000 in
theorem tX0_has_28 (hC : Cf p s m args meth c cX0_has 3 RX0 (some .boolean) D cy tX tY ad A 93) (F : Nat) {z : Int32 × HT} : ∀ (x : HT), fX0_has_28 F x = some z → Wd p l e { frames := 0, cells := 0, slots := 0, locals := 0 } s m args below meth c D (eX cy ad) 93 ad A (cQi (eX cy ad) 93 ad D A z) 3 28 [] [] x := by
  intro x hf H locs ls hP hS hl
  obtain ⟨hx, hb, -⟩ := id hC
  refine lv_iconst (v := 0) hx hb dX0_has_28 (by decide) ?_
  exact gZret hC hP hS rfl hf dX0_has_29
set_option maxHeartbeats 4000000 in
set_option maxRecDepth 100000 in
theorem kX0_has (l : Launch) (D : va_G) (cy : Nat → ClassId) (tX tY : Nat) (ad : Nat → Nat) (A : Nat → Prop) (hA : apart ad A 93) (F : Nat) (x : HT) (a1 : Int32) (a2 : Int32) {z : Int32 × HT} (hf : fX0_has F x a1 a2 = some z) : Met l yX0_has (Cond.code yX0_has cX0_has 3 (some .boolean) :: wAll) { frames := 0, cells := 0, slots := 0, locals := 0 } (cPc (eX cy ad) 93 ad D cy tX tY A [.ref (ad 59), .int a1, .int a2] x) (cQi (eX cy ad) 93 ad D A z) 0 0 A := by
  refine gMet hA (by decide) (Nat.le_of_ble_eq_true rfl) (fun p e s m below meth c hC H locs ls hP hS hl => ?_)
  have hC : Cf p s m _ meth c cX0_has 3 RX0 (some .boolean) D cy tX tY ad A 93 := hC
  have hl : lv_has ls 3 [(0, .ref (ad 59)), (1, .int a1), (2, .int a2)] := hl
  obtain ⟨hx, hb, -⟩ := id hC
  refine lv_iload_n hx hb dX0_has_0 rfl (lv_at hl 1 rfl) ?_
  refine lv_if_lt (tgt := 28) hx hb dX0_has_1 (by decide) (fun c1 => ?_) (fun c1 => ?_)
  · have hf := it_t c1 hf
    exact tX0_has_28 hC F x hf H locs ls hP hS (lv_sub hl [] rfl)
  · have hf := it_f c1 hf
    refine lv_iload_n hx hb dX0_has_4 rfl (lv_at hl 1 rfl) ?_
    refine lv_aload_n hx hb dX0_has_5 rfl (lv_at hl 0 rfl) ?_
    refine gfX0_21 hC hP dX0_has_6 ?_
    refine lv_icmp_ge (tgt := 28) hx hb dX0_has_9 (by decide) (fun c2 => ?_) (fun c2 => ?_)
    · have hf := it_t c2 hf
      exact tX0_has_28 hC F x hf H locs ls hP hS (lv_sub hl [] rfl)
    · have hf := it_f c2 hf
      refine lv_iload_n hx hb dX0_has_12 rfl (lv_at hl 2 rfl) ?_
      refine lv_if_lt (tgt := 28) hx hb dX0_has_13 (by decide) (fun c3 => ?_) (fun c3 => ?_)
      · have hf := it_t c3 hf
        exact tX0_has_28 hC F x hf H locs ls hP hS (lv_sub hl [] rfl)
      · have hf := it_f c3 hf
        refine lv_iload_n hx hb dX0_has_16 rfl (lv_at hl 2 rfl) ?_
        refine lv_aload_n hx hb dX0_has_17 rfl (lv_at hl 0 rfl) ?_
        refine gfX0_25 hC hP dX0_has_18 ?_
        refine lv_icmp_ge (tgt := 28) hx hb dX0_has_21 (by decide) (fun c4 => ?_) (fun c4 => ?_)
        · have hf := it_t c4 hf
          exact tX0_has_28 hC F x hf H locs ls hP hS (lv_sub hl [] rfl)
        · have hf := it_f c4 hf
          refine lv_iconst (v := 1) hx hb dX0_has_24 (by decide) ?_
          refine lv_goto (tgt := 29) hx hb dX0_has_25 (by decide) ?_
          exact gZret hC hP hS rfl hf dX0_has_29
set_option maxHeartbeats 4000000 in
set_option maxRecDepth 100000 in
theorem tX0_layPlace_83 (hC : Cf p s m args meth c cX0_layPlace 7 RX0 none D cy tX tY ad A 93) (F : Nat) {z : Unit × HT} (rec24 : HT → Int32 → Int32 → Int32 → Int32 → Option (Unit × HT)) (hrec24 : ∀ (x : HT) (a1 : Int32) (a2 : Int32) (a3 : Int32) (a4 : Int32), rec24 x a1 a2 a3 a4 = some z → Wd p l e { frames := 1, cells := 0, slots := 0, locals := 22 } s m args below meth c D (eX cy ad) 93 ad A (cQv (eX cy ad) 93 ad D A z) 7 24 [(0, .ref (ad 59)), (1, .int a1), (2, .int a2), (3, .int a3), (4, .int a4)] [] x) : ∀ (x : HT) (a1 : Int32) (a2 : Int32) (a3 : Int32) (a4 : Int32) (t0 : Int32) (t1 : Int32), fX0_layPlace_83 F rec24 x a1 a2 a3 a4 t0 t1 = some z → Wd p l e { frames := 1, cells := 0, slots := 0, locals := 22 } s m args below meth c D (eX cy ad) 93 ad A (cQv (eX cy ad) 93 ad D A z) 7 83 [(0, .ref (ad 59)), (1, .int a1), (2, .int a2), (3, .int a3), (4, .int a4)] [.int t1, .int t0, .ref (ad 62)] x := by
  intro x a1 a2 a3 a4 t0 t1 hf H locs ls hP hS hl
  obtain ⟨hx, hb, -⟩ := id hC
  obtain ⟨h24, hf⟩ := ck_some hf
  refine gIas hC hP hS 62 (by decide) (fun g9 => eX_62 cy ad g9 _) h24 dX0_layPlace_83 (fun H locs hP hS => ?_)
  obtain ⟨x25, e26, hf⟩ := lt_some hf
  have hP : va_P D vwCl (wG (eX cy ad) 93 ad x25) H := by rw [e26]; exact hP
  obtain ⟨b27, e28, hf⟩ := lt_some hf
  refine lv_iinc (v := b27) (lv' := [(4, .int b27), (0, .ref (ad 59)), (1, .int a1), (2, .int a2), (3, .int a3)]) hx hb dX0_layPlace_84 hl (k := 4) rfl (by rw [e28]; rfl) (by decide) rfl (fun ls hl => ?_)
  refine lv_goto (tgt := 24) hx hb dX0_layPlace_87 (by decide) ?_
  exact hrec24 x25 a1 a2 a3 b27 hf H locs ls hP hS (lv_sub hl [1, 2, 3, 4, 0] rfl)
set_option maxHeartbeats 4000000 in
set_option maxRecDepth 100000 in
theorem tX0_layPlace_24b (hC : Cf p s m args meth c cX0_layPlace 7 RX0 none D cy tX tY ad A 93) (F : Nat) {z : Unit × HT} (rec24 : HT → Int32 → Int32 → Int32 → Int32 → Option (Unit × HT)) (hrec24 : ∀ (x : HT) (a1 : Int32) (a2 : Int32) (a3 : Int32) (a4 : Int32), rec24 x a1 a2 a3 a4 = some z → Wd p l e { frames := 1, cells := 0, slots := 0, locals := 22 } s m args below meth c D (eX cy ad) 93 ad A (cQv (eX cy ad) 93 ad D A z) 7 24 [(0, .ref (ad 59)), (1, .int a1), (2, .int a2), (3, .int a3), (4, .int a4)] [] x) : ∀ (x : HT) (a1 : Int32) (a2 : Int32) (a3 : Int32) (a4 : Int32), fX0_layPlace_24b F rec24 x a1 a2 a3 a4 = some z → Wd p l e { frames := 1, cells := 0, slots := 0, locals := 22 } s m args below meth c D (eX cy ad) 93 ad A (cQv (eX cy ad) 93 ad D A z) 7 24 [(0, .ref (ad 59)), (1, .int a1), (2, .int a2), (3, .int a3), (4, .int a4)] [] x := by
  intro x a1 a2 a3 a4 hf H locs ls hP hS hl
  obtain ⟨hx, hb, -⟩ := id hC
  refine lv_iload hx hb dX0_layPlace_24 (lv_at hl 4 rfl) ?_
  refine lv_iconst (v := 4) hx hb dX0_layPlace_26 (by decide) ?_
  refine lv_icmp_ge (tgt := 90) hx hb dX0_layPlace_27 (by decide) (fun c10 => ?_) (fun c10 => ?_)
  · have hf := it_t c10 hf
    exact gVret hC hP hS hf dX0_layPlace_90
  · have hf := it_f c10 hf
    refine lv_iload_n hx hb dX0_layPlace_30 rfl (lv_at hl 1 rfl) ?_
    refine gsX0_36 hC hS dX0_layPlace_31 ?_
    refine lv_iload hx hb dX0_layPlace_34 (lv_at hl 4 rfl) ?_
    obtain ⟨h11, hf⟩ := ck_some hf
    refine gStat (f := xBy) hC hS hC.2.2.2.2.2.2.2.1.2.1 h11 dX0_layPlace_36 ?_
    refine lv_iadd hx hb dX0_layPlace_37 ?_
    refine lv_topi (fun b12 e13 => ?_)
    have hf := lt_use e13 hf
    refine lv_istore (lv' := [(5, .int b12), (0, .ref (ad 59)), (1, .int a1), (2, .int a2), (3, .int a3), (4, .int a4)]) hx hb dX0_layPlace_38 hl (by decide) rfl (fun ls hl => ?_)
    refine lv_iload_n hx hb dX0_layPlace_40 rfl (lv_at hl 3 rfl) ?_
    refine gsX0_39 hC hS dX0_layPlace_41 ?_
    refine lv_iload hx hb dX0_layPlace_44 (lv_at hl 5 rfl) ?_
    obtain ⟨h14, hf⟩ := ck_some hf
    refine gStat (f := yBy) hC hS hC.2.2.2.2.2.2.2.1.2.2.2.1 h14 dX0_layPlace_46 ?_
    refine lv_iadd hx hb dX0_layPlace_47 ?_
    refine lv_topi (fun b15 e16 => ?_)
    have hf := lt_use e16 hf
    refine lv_istore (lv' := [(6, .int b15), (5, .int b12), (0, .ref (ad 59)), (1, .int a1), (2, .int a2), (3, .int a3), (4, .int a4)]) hx hb dX0_layPlace_48 hl (by decide) rfl (fun ls hl => ?_)
    refine lv_aload_n hx hb dX0_layPlace_50 rfl (lv_at hl 2 rfl) ?_
    refine gfX0_18 hC hP dX0_layPlace_51 ?_
    refine lv_iload_n hx hb dX0_layPlace_54 rfl (lv_at hl 5 rfl) ?_
    refine lv_iconst (v := 4) hx hb dX0_layPlace_55 (by decide) ?_
    refine lv_imul hx hb dX0_layPlace_56 ?_
    refine lv_iload hx hb dX0_layPlace_57 (lv_at hl 6 rfl) ?_
    refine lv_iadd hx hb dX0_layPlace_59 ?_
    refine lv_aload_n hx hb dX0_layPlace_60 rfl (lv_at hl 2 rfl) ?_
    refine lv_iload hx hb dX0_layPlace_61 (lv_at hl 1 rfl) ?_
    refine lv_iload hx hb dX0_layPlace_63 (lv_at hl 0 rfl) ?_
    obtain ⟨r18, x17, e19, hf⟩ := bd_some hf
    refine gVi (As := [.int b12, .int b15]) (rest := [.int ((a3 * (4 : Int32)) + a4), .ref (ad 62)]) (k := 59) hC hP hS (kX0_has l D cy tX tY ad A hC.2.2.2.2.2.2.2.2.1 F x b12 b15 e19) glX0_42 ⟨rfl, rfl⟩ hdX0_has ⟨Nat.le_of_ble_eq_true rfl, Nat.le_of_ble_eq_true rfl⟩ (by decide) (eX_59 cy ad _ _) rfl rfl hl.1 rfl (Nat.le_of_ble_eq_true rfl) dX0_layPlace_65 ⟨Nat.zero_le _, Nat.zero_le _⟩ (fun H locs hP hS => ?_)
    refine lv_if_eq (tgt := 82) hx hb dX0_layPlace_68 (by decide) (fun c20 => ?_) (fun c20 => ?_)
    · have hf := it_t c20 hf
      refine lv_iconst (v := -1) hx hb dX0_layPlace_82 (by decide) ?_
      exact tX0_layPlace_83 hC F rec24 hrec24 x17 a1 a2 a3 a4 ((a3 * (4 : Int32)) + a4) (-1 : Int32) hf H locs ls hP hS (lv_sub hl [2, 3, 4, 5, 6] rfl)
    · have hf := it_f c20 hf
      refine lv_aload_n hx hb dX0_layPlace_71 rfl (lv_at hl 2 rfl) ?_
      refine lv_iload hx hb dX0_layPlace_72 (lv_at hl 1 rfl) ?_
      refine lv_iload hx hb dX0_layPlace_74 (lv_at hl 0 rfl) ?_
      obtain ⟨r22, x21, e23, hf⟩ := bd_some hf
      refine gVi (As := [.int b12, .int b15]) (rest := [.int ((a3 * (4 : Int32)) + a4), .ref (ad 62)]) (k := 59) hC hP hS (kX0_labelAt l D cy tX tY ad A hC.2.2.2.2.2.2.2.2.1 F x17 b12 b15 e23) glX0_32 ⟨rfl, rfl⟩ hdX0_labelAt ⟨Nat.le_of_ble_eq_true rfl, Nat.le_of_ble_eq_true rfl⟩ (by decide) (eX_59 cy ad _ _) rfl rfl hl.1 rfl (Nat.le_of_ble_eq_true rfl) dX0_layPlace_76 ⟨Nat.zero_le _, Nat.zero_le _⟩ (fun H locs hP hS => ?_)
      refine lv_goto (tgt := 83) hx hb dX0_layPlace_79 (by decide) ?_
      exact tX0_layPlace_83 hC F rec24 hrec24 x21 a1 a2 a3 a4 ((a3 * (4 : Int32)) + a4) r22 hf H locs ls hP hS (lv_sub hl [2, 3, 4, 5, 6] rfl)
theorem tX0_layPlace_24 (hC : Cf p s m args meth c cX0_layPlace 7 RX0 none D cy tX tY ad A 93) (F : Nat) {z : Unit × HT} : ∀ (n9 : Nat) (x : HT) (a1 : Int32) (a2 : Int32) (a3 : Int32) (a4 : Int32), fX0_layPlace_24 F n9 x a1 a2 a3 a4 = some z → Wd p l e { frames := 1, cells := 0, slots := 0, locals := 22 } s m args below meth c D (eX cy ad) 93 ad A (cQv (eX cy ad) 93 ad D A z) 7 24 [(0, .ref (ad 59)), (1, .int a1), (2, .int a2), (3, .int a3), (4, .int a4)] [] x := by
  intro n9
  induction n9 with
  | zero => intro x a1 a2 a3 a4 hf; cases hf
  | succ n9 ih => intro x a1 a2 a3 a4 hf; exact tX0_layPlace_24b hC F (fX0_layPlace_24 F n9) ih x a1 a2 a3 a4 hf
set_option maxHeartbeats 4000000 in
set_option maxRecDepth 100000 in
theorem kX0_layPlace (l : Launch) (D : va_G) (cy : Nat → ClassId) (tX tY : Nat) (ad : Nat → Nat) (A : Nat → Prop) (hA : apart ad A 93) (F : Nat) (x : HT) (a1 : Int32) (a2 : Int32) {z : Unit × HT} (hf : fX0_layPlace F x a1 a2 = some z) : Met l yX0_layPlace (Cond.code yX0_layPlace cX0_layPlace 7 none :: wAll) { frames := 1, cells := 0, slots := 0, locals := 22 } (cPc (eX cy ad) 93 ad D cy tX tY A [.ref (ad 59), .int a1, .int a2] x) (cQv (eX cy ad) 93 ad D A z) 0 0 A := by
  refine gMet hA (by decide) (Nat.le_of_ble_eq_true rfl) (fun p e s m below meth c hC H locs ls hP hS hl => ?_)
  have hC : Cf p s m _ meth c cX0_layPlace 7 RX0 none D cy tX tY ad A 93 := hC
  have hl : lv_has ls 7 [(0, .ref (ad 59)), (1, .int a1), (2, .int a2)] := hl
  obtain ⟨hx, hb, -⟩ := id hC
  refine lv_aload_n hx hb dX0_layPlace_0 rfl (lv_at hl 0 rfl) ?_
  refine lv_iload_n hx hb dX0_layPlace_1 rfl (lv_at hl 1 rfl) ?_
  refine lv_iload_n hx hb dX0_layPlace_2 rfl (lv_at hl 2 rfl) ?_
  obtain ⟨r2, x1, e3, hf⟩ := bd_some hf
  refine gVi (As := [.int a1, .int a2]) (rest := []) (k := 59) hC hP hS (kX0_labelAt l D cy tX tY ad A hC.2.2.2.2.2.2.2.2.1 F x a1 a2 e3) glX0_32 ⟨rfl, rfl⟩ hdX0_labelAt ⟨Nat.le_of_ble_eq_true rfl, Nat.le_of_ble_eq_true rfl⟩ (by decide) (eX_59 cy ad _ _) rfl rfl hl.1 rfl (Nat.le_of_ble_eq_true rfl) dX0_layPlace_3 ⟨Nat.zero_le _, Nat.zero_le _⟩ (fun H locs hP hS => ?_)
  refine lv_istore_n (lv' := [(3, .int r2), (0, .ref (ad 59)), (1, .int a1), (2, .int a2)]) hx hb dX0_layPlace_6 rfl hl (by decide) rfl (fun ls hl => ?_)
  refine lv_aload_n hx hb dX0_layPlace_7 rfl (lv_at hl 1 rfl) ?_
  refine gfX0_9 hC hP dX0_layPlace_8 ?_
  refine lv_iload_n hx hb dX0_layPlace_11 rfl (lv_at hl 0 rfl) ?_
  refine lv_iload_n hx hb dX0_layPlace_12 rfl (lv_at hl 2 rfl) ?_
  obtain ⟨h4, hf⟩ := ck_some hf
  refine gIas hC hP hS 60 (by decide) (fun g9 => eX_60 cy ad g9 _) h4 dX0_layPlace_13 (fun H locs hP hS => ?_)
  obtain ⟨x5, e6, hf⟩ := lt_some hf
  have hP : va_P D vwCl (wG (eX cy ad) 93 ad x5) H := by rw [e6]; exact hP
  refine lv_aload_n hx hb dX0_layPlace_14 rfl (lv_at hl 1 rfl) ?_
  refine gfX0_15 hC hP dX0_layPlace_15 ?_
  refine lv_iload_n hx hb dX0_layPlace_18 rfl (lv_at hl 0 rfl) ?_
  refine lv_iload_n hx hb dX0_layPlace_19 rfl (lv_at hl 3 rfl) ?_
  obtain ⟨h7, hf⟩ := ck_some hf
  refine gIas hC hP hS 61 (by decide) (fun g9 => eX_61 cy ad g9 _) h7 dX0_layPlace_20 (fun H locs hP hS => ?_)
  obtain ⟨x8, e9, hf⟩ := lt_some hf
  have hP : va_P D vwCl (wG (eX cy ad) 93 ad x8) H := by rw [e9]; exact hP
  refine lv_iconst (v := 0) hx hb dX0_layPlace_21 (by decide) ?_
  refine lv_istore (lv' := [(4, .int (0 : Int32)), (3, .int r2), (0, .ref (ad 59)), (1, .int a1), (2, .int a2)]) hx hb dX0_layPlace_22 hl (by decide) rfl (fun ls hl => ?_)
  exact tX0_layPlace_24 hC F F x8 a1 a2 r2 (0 : Int32) hf H locs ls hP hS (lv_sub hl [2, 3, 4, 1, 0] rfl)
set_option maxHeartbeats 4000000 in
set_option maxRecDepth 100000 in
theorem tX0_lay_40b (hC : Cf p s m args meth c cX0_lay 5 RX0 none D cy tX tY ad A 93) (F : Nat) {z : Unit × HT} (rec29 : HT → Int32 → Option (Unit × HT)) (hrec29 : ∀ (x : HT) (a3 : Int32), rec29 x a3 = some z → Wd p l e { frames := 2, cells := 0, slots := 0, locals := 48 } s m args below meth c D (eX cy ad) 93 ad A (cQv (eX cy ad) 93 ad D A z) 5 29 [(0, .ref (ad 59)), (3, .int a3)] [] x) (rec40 : HT → Int32 → Int32 → Option (Unit × HT)) (hrec40 : ∀ (x : HT) (a3 : Int32) (a4 : Int32), rec40 x a3 a4 = some z → Wd p l e { frames := 2, cells := 0, slots := 0, locals := 48 } s m args below meth c D (eX cy ad) 93 ad A (cQv (eX cy ad) 93 ad D A z) 5 40 [(0, .ref (ad 59)), (3, .int a3), (4, .int a4)] [] x) : ∀ (x : HT) (a3 : Int32) (a4 : Int32), fX0_lay_40b F rec29 rec40 x a3 a4 = some z → Wd p l e { frames := 2, cells := 0, slots := 0, locals := 48 } s m args below meth c D (eX cy ad) 93 ad A (cQv (eX cy ad) 93 ad D A z) 5 40 [(0, .ref (ad 59)), (3, .int a3), (4, .int a4)] [] x := by
  intro x a3 a4 hf H locs ls hP hS hl
  obtain ⟨hx, hb, -⟩ := id hC
  refine lv_iload hx hb dX0_lay_40 (lv_at hl 2 rfl) ?_
  refine lv_aload_n hx hb dX0_lay_42 rfl (lv_at hl 0 rfl) ?_
  refine gfX0_21 hC hP dX0_lay_43 ?_
  refine lv_icmp_ge (tgt := 62) hx hb dX0_lay_46 (by decide) (fun c8 => ?_) (fun c8 => ?_)
  · have hf := it_t c8 hf
    obtain ⟨b9, e10, hf⟩ := lt_some hf
    refine lv_iinc (v := b9) (lv' := [(3, .int b9), (0, .ref (ad 59)), (4, .int a4)]) hx hb dX0_lay_62 hl (k := 1) rfl (by rw [e10]; rfl) (by decide) rfl (fun ls hl => ?_)
    refine lv_goto (tgt := 29) hx hb dX0_lay_65 (by decide) ?_
    exact hrec29 x b9 hf H locs ls hP hS (lv_sub hl [1, 0] rfl)
  · have hf := it_f c8 hf
    refine lv_aload_n hx hb dX0_lay_49 rfl (lv_at hl 0 rfl) ?_
    refine lv_iload hx hb dX0_lay_50 (lv_at hl 2 rfl) ?_
    refine lv_iload_n hx hb dX0_lay_52 rfl (lv_at hl 1 rfl) ?_
    obtain ⟨r12, x11, e13, hf⟩ := bd_some hf
    refine gVv (As := [.int a4, .int a3]) (rest := []) (k := 59) hC hP hS (kX0_layPlace l D cy tX tY ad A hC.2.2.2.2.2.2.2.2.1 F x a4 a3 e13) glX0_28 ⟨rfl, rfl⟩ hdX0_layPlace ⟨Nat.le_of_ble_eq_true rfl, Nat.le_of_ble_eq_true rfl⟩ (by decide) (eX_59 cy ad _ _) rfl rfl hl.1 rfl (Nat.le_of_ble_eq_true rfl) dX0_lay_53 ⟨Nat.zero_le _, Nat.zero_le _⟩ (fun H locs hP hS => ?_)
    obtain ⟨b14, e15, hf⟩ := lt_some hf
    refine lv_iinc (v := b14) (lv' := [(4, .int b14), (0, .ref (ad 59)), (3, .int a3)]) hx hb dX0_lay_56 hl (k := 2) rfl (by rw [e15]; rfl) (by decide) rfl (fun ls hl => ?_)
    refine lv_goto (tgt := 40) hx hb dX0_lay_59 (by decide) ?_
    exact hrec40 x11 a3 b14 hf H locs ls hP hS (lv_sub hl [1, 2, 0] rfl)
theorem tX0_lay_40 (hC : Cf p s m args meth c cX0_lay 5 RX0 none D cy tX tY ad A 93) (F : Nat) {z : Unit × HT} (rec29 : HT → Int32 → Option (Unit × HT)) (hrec29 : ∀ (x : HT) (a3 : Int32), rec29 x a3 = some z → Wd p l e { frames := 2, cells := 0, slots := 0, locals := 48 } s m args below meth c D (eX cy ad) 93 ad A (cQv (eX cy ad) 93 ad D A z) 5 29 [(0, .ref (ad 59)), (3, .int a3)] [] x) : ∀ (n9 : Nat) (x : HT) (a3 : Int32) (a4 : Int32), fX0_lay_40 F rec29 n9 x a3 a4 = some z → Wd p l e { frames := 2, cells := 0, slots := 0, locals := 48 } s m args below meth c D (eX cy ad) 93 ad A (cQv (eX cy ad) 93 ad D A z) 5 40 [(0, .ref (ad 59)), (3, .int a3), (4, .int a4)] [] x := by
  intro n9
  induction n9 with
  | zero => intro x a3 a4 hf; cases hf
  | succ n9 ih => intro x a3 a4 hf; exact tX0_lay_40b hC F rec29 hrec29 (fX0_lay_40 F rec29 n9) ih x a3 a4 hf
set_option maxHeartbeats 4000000 in
set_option maxRecDepth 100000 in
theorem tX0_lay_29b (hC : Cf p s m args meth c cX0_lay 5 RX0 none D cy tX tY ad A 93) (F : Nat) {z : Unit × HT} (rec29 : HT → Int32 → Option (Unit × HT)) (hrec29 : ∀ (x : HT) (a3 : Int32), rec29 x a3 = some z → Wd p l e { frames := 2, cells := 0, slots := 0, locals := 48 } s m args below meth c D (eX cy ad) 93 ad A (cQv (eX cy ad) 93 ad D A z) 5 29 [(0, .ref (ad 59)), (3, .int a3)] [] x) : ∀ (x : HT) (a3 : Int32), fX0_lay_29b F rec29 x a3 = some z → Wd p l e { frames := 2, cells := 0, slots := 0, locals := 48 } s m args below meth c D (eX cy ad) 93 ad A (cQv (eX cy ad) 93 ad D A z) 5 29 [(0, .ref (ad 59)), (3, .int a3)] [] x := by
  intro x a3 hf H locs ls hP hS hl
  obtain ⟨hx, hb, -⟩ := id hC
  refine lv_iload_n hx hb dX0_lay_29 rfl (lv_at hl 1 rfl) ?_
  refine lv_aload_n hx hb dX0_lay_30 rfl (lv_at hl 0 rfl) ?_
  refine gfX0_25 hC hP dX0_lay_31 ?_
  refine lv_icmp_ge (tgt := 68) hx hb dX0_lay_34 (by decide) (fun c7 => ?_) (fun c7 => ?_)
  · have hf := it_t c7 hf
    exact gVret hC hP hS hf dX0_lay_68
  · have hf := it_f c7 hf
    refine lv_iconst (v := 0) hx hb dX0_lay_37 (by decide) ?_
    refine lv_istore (lv' := [(4, .int (0 : Int32)), (0, .ref (ad 59)), (3, .int a3)]) hx hb dX0_lay_38 hl (by decide) rfl (fun ls hl => ?_)
    exact tX0_lay_40 hC F rec29 hrec29 F x a3 (0 : Int32) hf H locs ls hP hS (lv_sub hl [1, 2, 0] rfl)
theorem tX0_lay_29 (hC : Cf p s m args meth c cX0_lay 5 RX0 none D cy tX tY ad A 93) (F : Nat) {z : Unit × HT} : ∀ (n9 : Nat) (x : HT) (a3 : Int32), fX0_lay_29 F n9 x a3 = some z → Wd p l e { frames := 2, cells := 0, slots := 0, locals := 48 } s m args below meth c D (eX cy ad) 93 ad A (cQv (eX cy ad) 93 ad D A z) 5 29 [(0, .ref (ad 59)), (3, .int a3)] [] x := by
  intro n9
  induction n9 with
  | zero => intro x a3 hf; cases hf
  | succ n9 ih => intro x a3 hf; exact tX0_lay_29b hC F (fX0_lay_29 F n9) ih x a3 hf
set_option maxHeartbeats 4000000 in
set_option maxRecDepth 100000 in
theorem tX0_lay_17 (hC : Cf p s m args meth c cX0_lay 5 RX0 none D cy tX tY ad A 93) (F : Nat) {z : Unit × HT} : ∀ (x : HT) (a1 : Int32) (a2 : Int32), fX0_lay_17 F x a1 a2 = some z → Wd p l e { frames := 2, cells := 0, slots := 0, locals := 48 } s m args below meth c D (eX cy ad) 93 ad A (cQv (eX cy ad) 93 ad D A z) 5 17 [(0, .ref (ad 59)), (1, .int a1), (2, .int a2)] [] x := by
  intro x a1 a2 hf H locs ls hP hS hl
  obtain ⟨hx, hb, -⟩ := id hC
  refine lv_aload_n hx hb dX0_lay_17 rfl (lv_at hl 0 rfl) ?_
  refine lv_iload_n hx hb dX0_lay_18 rfl (lv_at hl 1 rfl) ?_
  refine pfX0_21 hC hP hS dX0_lay_19 (fun H locs hP hS => ?_)
  obtain ⟨x3, e4, hf⟩ := lt_some hf
  have hP : va_P D vwCl (wG (eX cy ad) 93 ad x3) H := by rw [e4]; exact hP
  refine lv_aload_n hx hb dX0_lay_22 rfl (lv_at hl 0 rfl) ?_
  refine lv_iload_n hx hb dX0_lay_23 rfl (lv_at hl 2 rfl) ?_
  refine pfX0_25 hC hP hS dX0_lay_24 (fun H locs hP hS => ?_)
  obtain ⟨x5, e6, hf⟩ := lt_some hf
  have hP : va_P D vwCl (wG (eX cy ad) 93 ad x5) H := by rw [e6]; exact hP
  refine lv_iconst (v := 0) hx hb dX0_lay_27 (by decide) ?_
  refine lv_istore_n (lv' := [(3, .int (0 : Int32)), (0, .ref (ad 59)), (1, .int a1), (2, .int a2)]) hx hb dX0_lay_28 rfl hl (by decide) rfl (fun ls hl => ?_)
  exact tX0_lay_29 hC F F x5 (0 : Int32) hf H locs ls hP hS (lv_sub hl [1, 0] rfl)
set_option maxHeartbeats 4000000 in
set_option maxRecDepth 100000 in
theorem kX0_lay (l : Launch) (D : va_G) (cy : Nat → ClassId) (tX tY : Nat) (ad : Nat → Nat) (A : Nat → Prop) (hA : apart ad A 93) (F : Nat) (x : HT) (a1 : Int32) (a2 : Int32) {z : Unit × HT} (hf : fX0_lay F x a1 a2 = some z) : Met l yX0_lay (Cond.code yX0_lay cX0_lay 5 none :: wAll) { frames := 2, cells := 0, slots := 0, locals := 48 } (cPc (eX cy ad) 93 ad D cy tX tY A [.ref (ad 59), .int a1, .int a2] x) (cQv (eX cy ad) 93 ad D A z) 0 0 A := by
  refine gMet hA (by decide) (Nat.le_of_ble_eq_true rfl) (fun p e s m below meth c hC H locs ls hP hS hl => ?_)
  have hC : Cf p s m _ meth c cX0_lay 5 RX0 none D cy tX tY ad A 93 := hC
  have hl : lv_has ls 5 [(0, .ref (ad 59)), (1, .int a1), (2, .int a2)] := hl
  obtain ⟨hx, hb, -⟩ := id hC
  refine lv_iload_n hx hb dX0_lay_0 rfl (lv_at hl 1 rfl) ?_
  refine lv_aload_n hx hb dX0_lay_1 rfl (lv_at hl 0 rfl) ?_
  refine gfX0_21 hC hP dX0_lay_2 ?_
  refine lv_icmp_ne (tgt := 17) hx hb dX0_lay_5 (by decide) (fun c1 => ?_) (fun c1 => ?_)
  · have hf := it_f c1 hf
    exact tX0_lay_17 hC F x a1 a2 hf H locs ls hP hS (lv_sub hl [0, 1, 2] rfl)
  · have hf := it_t c1 hf
    refine lv_iload_n hx hb dX0_lay_8 rfl (lv_at hl 2 rfl) ?_
    refine lv_aload_n hx hb dX0_lay_9 rfl (lv_at hl 0 rfl) ?_
    refine gfX0_25 hC hP dX0_lay_10 ?_
    refine lv_icmp_ne (tgt := 17) hx hb dX0_lay_13 (by decide) (fun c2 => ?_) (fun c2 => ?_)
    · have hf := it_f c2 hf
      exact tX0_lay_17 hC F x a1 a2 hf H locs ls hP hS (lv_sub hl [0, 1, 2] rfl)
    · have hf := it_t c2 hf
      exact gVret hC hP hS hf dX0_lay_16
set_option maxHeartbeats 4000000 in
set_option maxRecDepth 100000 in
theorem kX2_copyFrom (l : Launch) (D : va_G) (cy : Nat → ClassId) (tX tY : Nat) (ad : Nat → Nat) (A : Nat → Prop) (hA : apart ad A 93) (F : Nat) {j : Nat} (hj : j < 8) {j2 : Nat} (hj2 : j2 < 8) (x : HT) {z : Unit × HT} (hf : fX2_copyFrom F j j2 x = some z) : Met l yX2_copyFrom (Cond.code yX2_copyFrom cX2_copyFrom 2 none :: wAll) { frames := 1, cells := 0, slots := 0, locals := 48 } (cPc (eX cy ad) 93 ad D cy tX tY A [.ref (ad (7 * j + 1)), .ref (ad (7 * j2 + 1))] x) (cQv (eX cy ad) 93 ad D A z) 0 0 A := by
  refine gMet hA (by decide) (Nat.le_of_ble_eq_true rfl) (fun p e s m below meth c hC H locs ls hP hS hl => ?_)
  have hC : Cf p s m _ meth c cX2_copyFrom 2 RX2 none D cy tX tY ad A 93 := hC
  have hl : lv_has ls 2 [(0, .ref (ad (7 * j + 1))), (1, .ref (ad (7 * j2 + 1)))] := hl
  obtain ⟨hx, hb, -⟩ := id hC
  refine lv_aload_n hx hb dX2_copyFrom_0 rfl (lv_at hl 0 rfl) ?_
  refine lv_aload_n hx hb dX2_copyFrom_1 rfl (lv_at hl 1 rfl) ?_
  refine gfX2_31 hC hP hj2 dX2_copyFrom_2 ?_
  refine pfX2_31 hC hP hS hj dX2_copyFrom_5 (fun H locs hP hS => ?_)
  obtain ⟨x1, e2, hf⟩ := lt_some hf
  have hP : va_P D vwCl (wG (eX cy ad) 93 ad x1) H := by rw [e2]; exact hP
  refine lv_aload_n hx hb dX2_copyFrom_8 rfl (lv_at hl 0 rfl) ?_
  refine lv_aload_n hx hb dX2_copyFrom_9 rfl (lv_at hl 1 rfl) ?_
  refine gfX2_35 hC hP hj2 dX2_copyFrom_10 ?_
  refine pfX2_35 hC hP hS hj dX2_copyFrom_13 (fun H locs hP hS => ?_)
  obtain ⟨x3, e4, hf⟩ := lt_some hf
  have hP : va_P D vwCl (wG (eX cy ad) 93 ad x3) H := by rw [e4]; exact hP
  refine lv_aload_n hx hb dX2_copyFrom_16 rfl (lv_at hl 0 rfl) ?_
  refine lv_aload_n hx hb dX2_copyFrom_17 rfl (lv_at hl 1 rfl) ?_
  refine gfX2_50 hC hP hj2 dX2_copyFrom_18 ?_
  refine pfX2_50 hC hP hS hj dX2_copyFrom_21 (fun H locs hP hS => ?_)
  obtain ⟨x5, e6, hf⟩ := lt_some hf
  have hP : va_P D vwCl (wG (eX cy ad) 93 ad x5) H := by rw [e6]; exact hP
  refine lv_aload_n hx hb dX2_copyFrom_24 rfl (lv_at hl 0 rfl) ?_
  refine lv_aload_n hx hb dX2_copyFrom_25 rfl (lv_at hl 1 rfl) ?_
  refine gfX2_38 hC hP hj2 dX2_copyFrom_26 ?_
  refine pfX2_38 hC hP hS hj dX2_copyFrom_29 (fun H locs hP hS => ?_)
  obtain ⟨x7, e8, hf⟩ := lt_some hf
  have hP : va_P D vwCl (wG (eX cy ad) 93 ad x7) H := by rw [e8]; exact hP
  refine lv_aload_n hx hb dX2_copyFrom_32 rfl (lv_at hl 1 rfl) ?_
  refine gfX2_9 hC hP hj2 dX2_copyFrom_33 ?_
  refine lv_iconst (v := 0) hx hb dX2_copyFrom_36 (by decide) ?_
  refine lv_aload_n hx hb dX2_copyFrom_37 rfl (lv_at hl 0 rfl) ?_
  refine gfX2_9 hC hP hj dX2_copyFrom_38 ?_
  refine lv_iconst (v := 0) hx hb dX2_copyFrom_41 (by decide) ?_
  refine lv_bipush (v := 36) hx hb dX2_copyFrom_42 (by decide) ?_
  refine gcpX2_53 hC hP hS hl.1 (7 * j2 + 2) (7 * j + 2) (by omega) (by omega) (eX_S1 hj2 cy ad _ _) (fun g9 => eX_S1 hj cy ad g9 _) (by decide) (by decide) (by decide) (Nat.le_of_ble_eq_true rfl) (Nat.le_of_ble_eq_true rfl) dX2_copyFrom_44 (fun H locs hP hS => ?_)
  obtain ⟨x9, e10, hf⟩ := lt_some hf
  have hP : va_P D vwCl (wG (eX cy ad) 93 ad x9) H := by rw [e10]; exact hP
  refine lv_aload_n hx hb dX2_copyFrom_47 rfl (lv_at hl 1 rfl) ?_
  refine gfX2_15 hC hP hj2 dX2_copyFrom_48 ?_
  refine lv_iconst (v := 0) hx hb dX2_copyFrom_51 (by decide) ?_
  refine lv_aload_n hx hb dX2_copyFrom_52 rfl (lv_at hl 0 rfl) ?_
  refine gfX2_15 hC hP hj dX2_copyFrom_53 ?_
  refine lv_iconst (v := 0) hx hb dX2_copyFrom_56 (by decide) ?_
  refine lv_iconst (v := 5) hx hb dX2_copyFrom_57 (by decide) ?_
  refine gcpX2_53 hC hP hS hl.1 (7 * j2 + 3) (7 * j + 3) (by omega) (by omega) (eX_S2 hj2 cy ad _ _) (fun g9 => eX_S2 hj cy ad g9 _) (by decide) (by decide) (by decide) (Nat.le_of_ble_eq_true rfl) (Nat.le_of_ble_eq_true rfl) dX2_copyFrom_58 (fun H locs hP hS => ?_)
  obtain ⟨x11, e12, hf⟩ := lt_some hf
  have hP : va_P D vwCl (wG (eX cy ad) 93 ad x11) H := by rw [e12]; exact hP
  refine lv_aload_n hx hb dX2_copyFrom_61 rfl (lv_at hl 1 rfl) ?_
  refine gfX2_18 hC hP hj2 dX2_copyFrom_62 ?_
  refine lv_iconst (v := 0) hx hb dX2_copyFrom_65 (by decide) ?_
  refine lv_aload_n hx hb dX2_copyFrom_66 rfl (lv_at hl 0 rfl) ?_
  refine gfX2_18 hC hP hj dX2_copyFrom_67 ?_
  refine lv_iconst (v := 0) hx hb dX2_copyFrom_70 (by decide) ?_
  refine lv_iconst (v := 5) hx hb dX2_copyFrom_71 (by decide) ?_
  refine gcpX2_53 hC hP hS hl.1 (7 * j2 + 4) (7 * j + 4) (by omega) (by omega) (eX_S3 hj2 cy ad _ _) (fun g9 => eX_S3 hj cy ad g9 _) (by decide) (by decide) (by decide) (Nat.le_of_ble_eq_true rfl) (Nat.le_of_ble_eq_true rfl) dX2_copyFrom_72 (fun H locs hP hS => ?_)
  obtain ⟨x13, e14, hf⟩ := lt_some hf
  have hP : va_P D vwCl (wG (eX cy ad) 93 ad x13) H := by rw [e14]; exact hP
  refine lv_aload_n hx hb dX2_copyFrom_75 rfl (lv_at hl 1 rfl) ?_
  refine gfX2_21 hC hP hj2 dX2_copyFrom_76 ?_
  refine lv_iconst (v := 0) hx hb dX2_copyFrom_79 (by decide) ?_
  refine lv_aload_n hx hb dX2_copyFrom_80 rfl (lv_at hl 0 rfl) ?_
  refine gfX2_21 hC hP hj dX2_copyFrom_81 ?_
  refine lv_iconst (v := 0) hx hb dX2_copyFrom_84 (by decide) ?_
  refine lv_iconst (v := 5) hx hb dX2_copyFrom_85 (by decide) ?_
  refine gcpLX2_53 hC hP hS hl.1 (7 * j2 + 5) (7 * j + 5) (by omega) (by omega) (eX_S4 hj2 cy ad _ _) (fun g9 => eX_S4 hj cy ad _ g9) (by decide) (by decide) (by decide) (Nat.le_of_ble_eq_true rfl) (Nat.le_of_ble_eq_true rfl) dX2_copyFrom_86 (fun H locs hP hS => ?_)
  obtain ⟨x15, e16, hf⟩ := lt_some hf
  have hP : va_P D vwCl (wG (eX cy ad) 93 ad x15) H := by rw [e16]; exact hP
  refine lv_aload_n hx hb dX2_copyFrom_89 rfl (lv_at hl 1 rfl) ?_
  refine gfX2_25 hC hP hj2 dX2_copyFrom_90 ?_
  refine lv_iconst (v := 0) hx hb dX2_copyFrom_93 (by decide) ?_
  refine lv_aload_n hx hb dX2_copyFrom_94 rfl (lv_at hl 0 rfl) ?_
  refine gfX2_25 hC hP hj dX2_copyFrom_95 ?_
  refine lv_iconst (v := 0) hx hb dX2_copyFrom_98 (by decide) ?_
  refine lv_bipush (v := 10) hx hb dX2_copyFrom_99 (by decide) ?_
  refine gcpX2_53 hC hP hS hl.1 (7 * j2 + 6) (7 * j + 6) (by omega) (by omega) (eX_S5 hj2 cy ad _ _) (fun g9 => eX_S5 hj cy ad g9 _) (by decide) (by decide) (by decide) (Nat.le_of_ble_eq_true rfl) (Nat.le_of_ble_eq_true rfl) dX2_copyFrom_101 (fun H locs hP hS => ?_)
  obtain ⟨x17, e18, hf⟩ := lt_some hf
  have hP : va_P D vwCl (wG (eX cy ad) 93 ad x17) H := by rw [e18]; exact hP
  refine lv_aload_n hx hb dX2_copyFrom_104 rfl (lv_at hl 1 rfl) ?_
  refine gfX2_28 hC hP hj2 dX2_copyFrom_105 ?_
  refine lv_iconst (v := 0) hx hb dX2_copyFrom_108 (by decide) ?_
  refine lv_aload_n hx hb dX2_copyFrom_109 rfl (lv_at hl 0 rfl) ?_
  refine gfX2_28 hC hP hj dX2_copyFrom_110 ?_
  refine lv_iconst (v := 0) hx hb dX2_copyFrom_113 (by decide) ?_
  refine lv_bipush (v := 10) hx hb dX2_copyFrom_114 (by decide) ?_
  refine gcpX2_53 hC hP hS hl.1 (7 * j2 + 7) (7 * j + 7) (by omega) (by omega) (eX_S6 hj2 cy ad _ _) (fun g9 => eX_S6 hj cy ad g9 _) (by decide) (by decide) (by decide) (Nat.le_of_ble_eq_true rfl) (Nat.le_of_ble_eq_true rfl) dX2_copyFrom_116 (fun H locs hP hS => ?_)
  obtain ⟨x19, e20, hf⟩ := lt_some hf
  have hP : va_P D vwCl (wG (eX cy ad) 93 ad x19) H := by rw [e20]; exact hP
  exact gVret hC hP hS hf dX2_copyFrom_119
set_option maxHeartbeats 4000000 in
set_option maxRecDepth 100000 in
theorem kX0_places (l : Launch) (D : va_G) (cy : Nat → ClassId) (tX tY : Nat) (ad : Nat → Nat) (A : Nat → Prop) (hA : apart ad A 93) (F : Nat) (x : HT) {z : Int32 × HT} (hf : fX0_places F x = some z) : Met l yX0_places (Cond.code yX0_places cX0_places 1 (some .int) :: wAll) { frames := 0, cells := 0, slots := 0, locals := 0 } (cPc (eX cy ad) 93 ad D cy tX tY A [.ref (ad 59)] x) (cQi (eX cy ad) 93 ad D A z) 0 0 A := by
  refine gMet hA (by decide) (Nat.le_of_ble_eq_true rfl) (fun p e s m below meth c hC H locs ls hP hS hl => ?_)
  have hC : Cf p s m _ meth c cX0_places 1 RX0 (some .int) D cy tX tY ad A 93 := hC
  have hl : lv_has ls 1 [(0, .ref (ad 59))] := hl
  obtain ⟨hx, hb, -⟩ := id hC
  refine lv_aload_n hx hb dX0_places_0 rfl (lv_at hl 0 rfl) ?_
  refine gfX0_21 hC hP dX0_places_1 ?_
  refine lv_aload_n hx hb dX0_places_4 rfl (lv_at hl 0 rfl) ?_
  refine gfX0_25 hC hP dX0_places_5 ?_
  refine lv_imul hx hb dX0_places_8 ?_
  exact gIret hC hP hS hf dX0_places_9
set_option maxHeartbeats 4000000 in
set_option maxRecDepth 100000 in
theorem tX6_makeMesh_22 (hC : Cf p s m args meth c cX6_makeMesh 4 RX6 (some .int) D cy tX tY ad A 93) (F : Nat) {z : Int32 × HT} : ∀ (x : HT), fX6_makeMesh_22 F x = some z → Wd p l e { frames := 3, cells := 0, slots := 0, locals := 72 } s m args below meth c D (eX cy ad) 93 ad A (cQi (eX cy ad) 93 ad D A z) 4 22 [] [] x := by
  intro x hf H locs ls hP hS hl
  obtain ⟨hx, hb, -⟩ := id hC
  refine lv_bipush (v := -2) hx hb dX6_makeMesh_22 (by decide) ?_
  exact gIret hC hP hS hf dX6_makeMesh_24
set_option maxHeartbeats 4000000 in
set_option maxRecDepth 100000 in
theorem kX6_makeMesh (l : Launch) (D : va_G) (cy : Nat → ClassId) (tX tY : Nat) (ad : Nat → Nat) (A : Nat → Prop) (hA : apart ad A 93) (F : Nat) (x : HT) (a1 : Int32) (a2 : Int32) {z : Int32 × HT} (hf : fX6_makeMesh F x a1 a2 = some z) : Met l yX6_makeMesh (Cond.code yX6_makeMesh cX6_makeMesh 4 (some .int) :: wAll) { frames := 3, cells := 0, slots := 0, locals := 72 } (cPc (eX cy ad) 93 ad D cy tX tY A [.ref (ad 0), .int a1, .int a2] x) (cQi (eX cy ad) 93 ad D A z) 0 0 A := by
  refine gMet hA (by decide) (Nat.le_of_ble_eq_true rfl) (fun p e s m below meth c hC H locs ls hP hS hl => ?_)
  have hC : Cf p s m _ meth c cX6_makeMesh 4 RX6 (some .int) D cy tX tY ad A 93 := hC
  have hl : lv_has ls 4 [(0, .ref (ad 0)), (1, .int a1), (2, .int a2)] := hl
  obtain ⟨hx, hb, -⟩ := id hC
  refine lv_iload_n hx hb dX6_makeMesh_0 rfl (lv_at hl 1 rfl) ?_
  refine lv_iconst (v := 2) hx hb dX6_makeMesh_1 (by decide) ?_
  refine lv_icmp_lt (tgt := 22) hx hb dX6_makeMesh_2 (by decide) (fun c1 => ?_) (fun c1 => ?_)
  · have hf := it_t c1 hf
    exact tX6_makeMesh_22 hC F x hf H locs ls hP hS (lv_sub hl [] rfl)
  · have hf := it_f c1 hf
    refine lv_iload_n hx hb dX6_makeMesh_5 rfl (lv_at hl 1 rfl) ?_
    refine lv_bipush (v := 6) hx hb dX6_makeMesh_6 (by decide) ?_
    refine lv_icmp_gt (tgt := 22) hx hb dX6_makeMesh_8 (by decide) (fun c2 => ?_) (fun c2 => ?_)
    · have hf := it_t c2 hf
      exact tX6_makeMesh_22 hC F x hf H locs ls hP hS (lv_sub hl [] rfl)
    · have hf := it_f c2 hf
      refine lv_iload_n hx hb dX6_makeMesh_11 rfl (lv_at hl 2 rfl) ?_
      refine lv_iconst (v := 2) hx hb dX6_makeMesh_12 (by decide) ?_
      refine lv_icmp_lt (tgt := 22) hx hb dX6_makeMesh_13 (by decide) (fun c3 => ?_) (fun c3 => ?_)
      · have hf := it_t c3 hf
        exact tX6_makeMesh_22 hC F x hf H locs ls hP hS (lv_sub hl [] rfl)
      · have hf := it_f c3 hf
        refine lv_iload_n hx hb dX6_makeMesh_16 rfl (lv_at hl 2 rfl) ?_
        refine lv_bipush (v := 6) hx hb dX6_makeMesh_17 (by decide) ?_
        refine lv_icmp_le (tgt := 25) hx hb dX6_makeMesh_19 (by decide) (fun c4 => ?_) (fun c4 => ?_)
        · have hf := it_t c4 hf
          refine lv_aload_n hx hb dX6_makeMesh_25 rfl (lv_at hl 0 rfl) ?_
          refine gfX6_32 hC hP dX6_makeMesh_26 ?_
          obtain ⟨r6, x5, e7, hf⟩ := bd_some hf
          refine gVi (As := []) (rest := []) (k := 59) hC hP hS (kX0_places l D cy tX tY ad A hC.2.2.2.2.2.2.2.2.1 F x e7) glX6_197 ⟨rfl, rfl⟩ hdX0_places ⟨Nat.le_of_ble_eq_true rfl, Nat.le_of_ble_eq_true rfl⟩ (by decide) (eX_59 cy ad _ _) rfl rfl hl.1 rfl (Nat.le_of_ble_eq_true rfl) dX6_makeMesh_29 ⟨Nat.zero_le _, Nat.zero_le _⟩ (fun H locs hP hS => ?_)
          refine lv_istore_n (lv' := [(3, .int r6), (0, .ref (ad 0)), (1, .int a1), (2, .int a2)]) hx hb dX6_makeMesh_32 rfl hl (by decide) rfl (fun ls hl => ?_)
          refine lv_aload_n hx hb dX6_makeMesh_33 rfl (lv_at hl 1 rfl) ?_
          refine gfX6_12 hC hP dX6_makeMesh_34 ?_
          refine lv_iload_n hx hb dX6_makeMesh_37 rfl (lv_at hl 2 rfl) ?_
          refine lv_iload_n hx hb dX6_makeMesh_38 rfl (lv_at hl 3 rfl) ?_
          obtain ⟨r9, x8, e10, hf⟩ := bd_some hf
          refine gVv (As := [.int a1, .int a2]) (rest := []) (k := (7 * 0 + 1)) hC hP hS (kX2_begin l D cy tX tY ad A hC.2.2.2.2.2.2.2.2.1 F (j := 0) (by decide) x5 a1 a2 e10) glX6_57 ⟨rfl, rfl⟩ hdX2_begin ⟨Nat.le_of_ble_eq_true rfl, Nat.le_of_ble_eq_true rfl⟩ (by omega) (eX_S (by decide) cy ad _ _) rfl rfl hl.1 rfl (Nat.le_of_ble_eq_true rfl) dX6_makeMesh_39 ⟨Nat.zero_le _, Nat.zero_le _⟩ (fun H locs hP hS => ?_)
          refine lv_aload_n hx hb dX6_makeMesh_42 rfl (lv_at hl 1 rfl) ?_
          refine gfX6_32 hC hP dX6_makeMesh_43 ?_
          refine lv_iload_n hx hb dX6_makeMesh_46 rfl (lv_at hl 2 rfl) ?_
          refine lv_iload_n hx hb dX6_makeMesh_47 rfl (lv_at hl 3 rfl) ?_
          obtain ⟨r12, x11, e13, hf⟩ := bd_some hf
          refine gVv (As := [.int a1, .int a2]) (rest := []) (k := 59) hC hP hS (kX0_lay l D cy tX tY ad A hC.2.2.2.2.2.2.2.2.1 F x8 a1 a2 e13) glX6_61 ⟨rfl, rfl⟩ hdX0_lay ⟨Nat.le_of_ble_eq_true rfl, Nat.le_of_ble_eq_true rfl⟩ (by decide) (eX_59 cy ad _ _) rfl rfl hl.1 rfl (Nat.le_of_ble_eq_true rfl) dX6_makeMesh_48 ⟨Nat.zero_le _, Nat.zero_le _⟩ (fun H locs hP hS => ?_)
          refine lv_iload_n hx hb dX6_makeMesh_51 rfl (lv_at hl 0 rfl) ?_
          exact gIret hC hP hS hf dX6_makeMesh_52
        · have hf := it_f c4 hf
          exact tX6_makeMesh_22 hC F x hf H locs ls hP hS (lv_sub hl [] rfl)
set_option maxHeartbeats 4000000 in
set_option maxRecDepth 100000 in
theorem tX6_refuse_64 (hC : Cf p s m args meth c cX6_refuse 2 RX6 (some .int) D cy tX tY ad A 93) (F : Nat) {z : Int32 × HT} : ∀ (x : HT) (a1 : Int32), fX6_refuse_64 F x a1 = some z → Wd p l e { frames := 0, cells := 0, slots := 0, locals := 0 } s m args below meth c D (eX cy ad) 93 ad A (cQi (eX cy ad) 93 ad D A z) 2 64 [(1, .int a1)] [] x := by
  intro x a1 hf H locs ls hP hS hl
  obtain ⟨hx, hb, -⟩ := id hC
  refine lv_iload_n hx hb dX6_refuse_64 rfl (lv_at hl 0 rfl) ?_
  exact gIret hC hP hS hf dX6_refuse_65
set_option maxHeartbeats 4000000 in
set_option maxRecDepth 100000 in
theorem kX6_refuse (l : Launch) (D : va_G) (cy : Nat → ClassId) (tX tY : Nat) (ad : Nat → Nat) (A : Nat → Prop) (hA : apart ad A 93) (F : Nat) (x : HT) (a1 : Int32) {z : Int32 × HT} (hf : fX6_refuse F x a1 = some z) : Met l yX6_refuse (Cond.code yX6_refuse cX6_refuse 2 (some .int) :: wAll) { frames := 0, cells := 0, slots := 0, locals := 0 } (cPc (eX cy ad) 93 ad D cy tX tY A [.ref (ad 0), .int a1] x) (cQi (eX cy ad) 93 ad D A z) 0 0 A := by
  refine gMet hA (by decide) (Nat.le_of_ble_eq_true rfl) (fun p e s m below meth c hC H locs ls hP hS hl => ?_)
  have hC : Cf p s m _ meth c cX6_refuse 2 RX6 (some .int) D cy tX tY ad A 93 := hC
  have hl : lv_has ls 2 [(0, .ref (ad 0)), (1, .int a1)] := hl
  obtain ⟨hx, hb, -⟩ := id hC
  refine lv_iload_n hx hb dX6_refuse_0 rfl (lv_at hl 1 rfl) ?_
  by_cases c1 : a1 = (-3 : Int32)
  · have hf := it_t c1 hf
    refine lv_lookup (tgt := 41) (off := 40) hx hb dX6_refuse_1 (by decide) (by rw [c1]; decide) (by decide) ?_
    refine lv_aload_n hx hb dX6_refuse_41 rfl (lv_at hl 0 rfl) ?_
    refine lv_dup hx hb dX6_refuse_42 rfl ?_
    refine gfX6_214 hC hP dX6_refuse_43 ?_
    refine lv_iconst (v := 1) hx hb dX6_refuse_46 (by decide) ?_
    refine lv_iadd hx hb dX6_refuse_47 ?_
    refine pfX6_214 hC hP hS dX6_refuse_48 (fun H locs hP hS => ?_)
    obtain ⟨x2, e3, hf⟩ := lt_some hf
    have hP : va_P D vwCl (wG (eX cy ad) 93 ad x2) H := by rw [e3]; exact hP
    refine lv_goto (tgt := 64) hx hb dX6_refuse_51 (by decide) ?_
    exact tX6_refuse_64 hC F x2 a1 hf H locs ls hP hS (lv_sub hl [1] rfl)
  have hf := it_f c1 hf
  by_cases c4 : a1 = (-2 : Int32)
  · have hf := it_t c4 hf
    refine lv_lookup (tgt := 28) (off := 27) hx hb dX6_refuse_1 (by decide) (by rw [c4]; decide) (by decide) ?_
    refine lv_aload_n hx hb dX6_refuse_28 rfl (lv_at hl 0 rfl) ?_
    refine lv_dup hx hb dX6_refuse_29 rfl ?_
    refine gfX6_211 hC hP dX6_refuse_30 ?_
    refine lv_iconst (v := 1) hx hb dX6_refuse_33 (by decide) ?_
    refine lv_iadd hx hb dX6_refuse_34 ?_
    refine pfX6_211 hC hP hS dX6_refuse_35 (fun H locs hP hS => ?_)
    obtain ⟨x5, e6, hf⟩ := lt_some hf
    have hP : va_P D vwCl (wG (eX cy ad) 93 ad x5) H := by rw [e6]; exact hP
    refine lv_goto (tgt := 64) hx hb dX6_refuse_38 (by decide) ?_
    exact tX6_refuse_64 hC F x5 a1 hf H locs ls hP hS (lv_sub hl [1] rfl)
  have hf := it_f c4 hf
  refine lv_lookup (tgt := 54) (off := 53) hx hb dX6_refuse_1 (by decide) ((lv_osw c1 (by decide)).trans ((lv_osw c4 (by decide)).trans rfl)) (by decide) ?_
  refine lv_aload_n hx hb dX6_refuse_54 rfl (lv_at hl 0 rfl) ?_
  refine lv_dup hx hb dX6_refuse_55 rfl ?_
  refine gfX6_217 hC hP dX6_refuse_56 ?_
  refine lv_iconst (v := 1) hx hb dX6_refuse_59 (by decide) ?_
  refine lv_iadd hx hb dX6_refuse_60 ?_
  refine pfX6_217 hC hP hS dX6_refuse_61 (fun H locs hP hS => ?_)
  obtain ⟨x7, e8, hf⟩ := lt_some hf
  have hP : va_P D vwCl (wG (eX cy ad) 93 ad x7) H := by rw [e8]; exact hP
  exact tX6_refuse_64 hC F x7 a1 hf H locs ls hP hS (lv_sub hl [1] rfl)
set_option maxHeartbeats 4000000 in
set_option maxRecDepth 100000 in
theorem tX1_push_34 (hC : Cf p s m args meth c cX1_push 2 RX1 none D cy tX tY ad A 93) (F : Nat) {z : Unit × HT} {j : Nat} (hj : j < 8) : ∀ (x : HT) (t0 : Int32), fX1_push_34 F j x t0 = some z → Wd p l e { frames := 2, cells := 0, slots := 0, locals := 69 } s m args below meth c D (eX cy ad) 93 ad A (cQv (eX cy ad) 93 ad D A z) 2 34 [(0, .ref (ad 57))] [.int t0, .ref (ad 57)] x := by
  intro x t0 hf H locs ls hP hS hl
  obtain ⟨hx, hb, -⟩ := id hC
  refine pfX1_22 hC hP hS dX1_push_34 (fun H locs hP hS => ?_)
  obtain ⟨x7, e8, hf⟩ := lt_some hf
  have hP : va_P D vwCl (wG (eX cy ad) 93 ad x7) H := by rw [e8]; exact hP
  refine lv_aload_n hx hb dX1_push_37 rfl (lv_at hl 0 rfl) ?_
  refine lv_aload_n hx hb dX1_push_38 rfl (lv_at hl 0 rfl) ?_
  refine gfX1_18 hC hP dX1_push_39 ?_
  refine lv_iconst (v := 1) hx hb dX1_push_42 (by decide) ?_
  refine lv_iadd hx hb dX1_push_43 ?_
  refine lv_iconst (v := 5) hx hb dX1_push_44 (by decide) ?_
  refine gmX1_29 hC hl.1 (Nat.le_of_ble_eq_true rfl) (Nat.le_of_ble_eq_true rfl) dX1_push_45 ?_
  refine pfX1_18 hC hP hS dX1_push_48 (fun H locs hP hS => ?_)
  obtain ⟨x9, e10, hf⟩ := lt_some hf
  have hP : va_P D vwCl (wG (eX cy ad) 93 ad x9) H := by rw [e10]; exact hP
  exact gVret hC hP hS hf dX1_push_51
set_option maxHeartbeats 4000000 in
set_option maxRecDepth 100000 in
theorem kX1_push (l : Launch) (D : va_G) (cy : Nat → ClassId) (tX tY : Nat) (ad : Nat → Nat) (A : Nat → Prop) (hA : apart ad A 93) (F : Nat) {j : Nat} (hj : j < 8) (x : HT) {z : Unit × HT} (hf : fX1_push F j x = some z) : Met l yX1_push (Cond.code yX1_push cX1_push 2 none :: wAll) { frames := 2, cells := 0, slots := 0, locals := 69 } (cPc (eX cy ad) 93 ad D cy tX tY A [.ref (ad 57), .ref (ad (7 * j + 1))] x) (cQv (eX cy ad) 93 ad D A z) 0 0 A := by
  refine gMet hA (by decide) (Nat.le_of_ble_eq_true rfl) (fun p e s m below meth c hC H locs ls hP hS hl => ?_)
  have hC : Cf p s m _ meth c cX1_push 2 RX1 none D cy tX tY ad A 93 := hC
  have hl : lv_has ls 2 [(0, .ref (ad 57)), (1, .ref (ad (7 * j + 1)))] := hl
  obtain ⟨hx, hb, -⟩ := id hC
  refine lv_aload_n hx hb dX1_push_0 rfl (lv_at hl 0 rfl) ?_
  refine gfX1_11 hC hP dX1_push_1 ?_
  refine lv_aload_n hx hb dX1_push_4 rfl (lv_at hl 0 rfl) ?_
  refine gfX1_22 hC hP dX1_push_5 ?_
  obtain ⟨h1, hf⟩ := ck_some hf
  refine gKept hC hP h1 dX1_push_8 ?_
  have hj2 : (3 + (x.1 57 1).toNatClampNeg) < 8 := by have := inb_lt h1; omega
  refine lv_aload_n hx hb dX1_push_9 rfl (lv_at hl 1 rfl) ?_
  obtain ⟨r4, x3, e5, hf⟩ := bd_some hf
  refine gVv (As := [.ref (ad (7 * j + 1))]) (rest := []) (k := (7 * (3 + (x.1 57 1).toNatClampNeg) + 1)) hC hP hS (kX2_copyFrom l D cy tX tY ad A hC.2.2.2.2.2.2.2.2.1 F (j := (3 + (x.1 57 1).toNatClampNeg)) (j2 := j) hj2 hj x e5) glX1_25 ⟨rfl, rfl⟩ hdX2_copyFrom ⟨Nat.le_of_ble_eq_true rfl, Nat.le_of_ble_eq_true rfl⟩ (by omega) (eX_S hj2 cy ad _ _) rfl rfl hl.1 rfl (Nat.le_of_ble_eq_true rfl) dX1_push_10 ⟨Nat.zero_le _, Nat.zero_le _⟩ (fun H locs hP hS => ?_)
  refine lv_aload_n hx hb dX1_push_13 rfl (lv_at hl 0 rfl) ?_
  refine lv_aload_n hx hb dX1_push_14 rfl (lv_at hl 0 rfl) ?_
  refine gfX1_22 hC hP dX1_push_15 ?_
  refine lv_iconst (v := 1) hx hb dX1_push_18 (by decide) ?_
  refine lv_iadd hx hb dX1_push_19 ?_
  refine lv_iconst (v := 5) hx hb dX1_push_20 (by decide) ?_
  refine lv_icmp_ge (tgt := 33) hx hb dX1_push_21 (by decide) (fun c6 => ?_) (fun c6 => ?_)
  · have hf := it_t c6 hf
    refine lv_iconst (v := 0) hx hb dX1_push_33 (by decide) ?_
    exact tX1_push_34 hC F hj x3 (0 : Int32) hf H locs ls hP hS (lv_sub hl [0] rfl)
  · have hf := it_f c6 hf
    refine lv_aload_n hx hb dX1_push_24 rfl (lv_at hl 0 rfl) ?_
    refine gfX1_22 hC hP dX1_push_25 ?_
    refine lv_iconst (v := 1) hx hb dX1_push_28 (by decide) ?_
    refine lv_iadd hx hb dX1_push_29 ?_
    refine lv_goto (tgt := 34) hx hb dX1_push_30 (by decide) ?_
    exact tX1_push_34 hC F hj x3 ((x3.1 57 1) + (1 : Int32)) hf H locs ls hP hS (lv_sub hl [0] rfl)
set_option maxHeartbeats 4000000 in
set_option maxRecDepth 100000 in
theorem kX6_settle (l : Launch) (D : va_G) (cy : Nat → ClassId) (tX tY : Nat) (ad : Nat → Nat) (A : Nat → Prop) (hA : apart ad A 93) (F : Nat) (x : HT) (a1 : Int32) {z : Int32 × HT} (hf : fX6_settle F x a1 = some z) : Met l yX6_settle (Cond.code yX6_settle cX6_settle 2 (some .int) :: wAll) { frames := 3, cells := 0, slots := 0, locals := 90 } (cPc (eX cy ad) 93 ad D cy tX tY A [.ref (ad 0), .int a1] x) (cQi (eX cy ad) 93 ad D A z) 0 0 A := by
  refine gMet hA (by decide) (Nat.le_of_ble_eq_true rfl) (fun p e s m below meth c hC H locs ls hP hS hl => ?_)
  have hC : Cf p s m _ meth c cX6_settle 2 RX6 (some .int) D cy tX tY ad A 93 := hC
  have hl : lv_has ls 2 [(0, .ref (ad 0)), (1, .int a1)] := hl
  obtain ⟨hx, hb, -⟩ := id hC
  refine lv_iload_n hx hb dX6_settle_0 rfl (lv_at hl 1 rfl) ?_
  refine lv_if_ge (tgt := 10) hx hb dX6_settle_1 (by decide) (fun c1 => ?_) (fun c1 => ?_)
  · have hf := it_t c1 hf
    refine lv_aload_n hx hb dX6_settle_10 rfl (lv_at hl 0 rfl) ?_
    refine gfX6_25 hC hP dX6_settle_11 ?_
    refine lv_aload_n hx hb dX6_settle_14 rfl (lv_at hl 0 rfl) ?_
    refine gfX6_16 hC hP dX6_settle_15 ?_
    obtain ⟨r3, x2, e4, hf⟩ := bd_some hf
    refine gVv (As := [.ref (ad (7 * 1 + 1))]) (rest := []) (k := 57) hC hP hS (kX1_push l D cy tX tY ad A hC.2.2.2.2.2.2.2.2.1 F (j := 1) (by decide) x e4) glX6_182 ⟨rfl, rfl⟩ hdX1_push ⟨Nat.le_of_ble_eq_true rfl, Nat.le_of_ble_eq_true rfl⟩ (by decide) (eX_57 cy ad _ _) rfl rfl hl.1 rfl (Nat.le_of_ble_eq_true rfl) dX6_settle_18 ⟨Nat.zero_le _, Nat.zero_le _⟩ (fun H locs hP hS => ?_)
    refine lv_iload_n hx hb dX6_settle_21 rfl (lv_at hl 1 rfl) ?_
    exact gIret hC hP hS hf dX6_settle_22
  · have hf := it_f c1 hf
    refine lv_aload_n hx hb dX6_settle_4 rfl (lv_at hl 0 rfl) ?_
    refine lv_iload_n hx hb dX6_settle_5 rfl (lv_at hl 1 rfl) ?_
    obtain ⟨r6, x5, e7, hf⟩ := bd_some hf
    refine gVi (As := [.int a1]) (rest := []) (k := 0) hC hP hS (kX6_refuse l D cy tX tY ad A hC.2.2.2.2.2.2.2.2.1 F x a1 e7) glX6_100 ⟨rfl, rfl⟩ hdX6_refuse ⟨Nat.le_of_ble_eq_true rfl, Nat.le_of_ble_eq_true rfl⟩ (by decide) (eX_0 cy ad _ _) rfl rfl hl.1 rfl (Nat.le_of_ble_eq_true rfl) dX6_settle_6 ⟨Nat.zero_le _, Nat.zero_le _⟩ (fun H locs hP hS => ?_)
    exact gIret hC hP hS hf dX6_settle_9
set_option maxHeartbeats 4000000 in
set_option maxRecDepth 100000 in
theorem kX6_mesh (l : Launch) (D : va_G) (cy : Nat → ClassId) (tX tY : Nat) (ad : Nat → Nat) (A : Nat → Prop) (hA : apart ad A 93) (F : Nat) (x : HT) (a1 : Int32) (a2 : Int32) {z : Int32 × HT} (hf : fX6_mesh F x a1 a2 = some z) : Met l yX6_mesh (Cond.code yX6_mesh cX6_mesh 3 (some .int) :: wAll) { frames := 4, cells := 0, slots := 0, locals := 111 } (cPc (eX cy ad) 93 ad D cy tX tY A [.ref (ad 0), .int a1, .int a2] x) (cQi (eX cy ad) 93 ad D A z) 0 0 A := by
  refine gMet hA (by decide) (Nat.le_of_ble_eq_true rfl) (fun p e s m below meth c hC H locs ls hP hS hl => ?_)
  have hC : Cf p s m _ meth c cX6_mesh 3 RX6 (some .int) D cy tX tY ad A 93 := hC
  have hl : lv_has ls 3 [(0, .ref (ad 0)), (1, .int a1), (2, .int a2)] := hl
  obtain ⟨hx, hb, -⟩ := id hC
  refine lv_aload_n hx hb dX6_mesh_0 rfl (lv_at hl 0 rfl) ?_
  refine gfX6_16 hC hP dX6_mesh_1 ?_
  refine lv_aload_n hx hb dX6_mesh_4 rfl (lv_at hl 0 rfl) ?_
  refine gfX6_12 hC hP dX6_mesh_5 ?_
  obtain ⟨r2, x1, e3, hf⟩ := bd_some hf
  refine gVv (As := [.ref (ad (7 * 0 + 1))]) (rest := []) (k := (7 * 1 + 1)) hC hP hS (kX2_copyFrom l D cy tX tY ad A hC.2.2.2.2.2.2.2.2.1 F (j := 1) (j2 := 0) (by decide) (by decide) x e3) glX6_64 ⟨rfl, rfl⟩ hdX2_copyFrom ⟨Nat.le_of_ble_eq_true rfl, Nat.le_of_ble_eq_true rfl⟩ (by omega) (eX_S (by decide) cy ad _ _) rfl rfl hl.1 rfl (Nat.le_of_ble_eq_true rfl) dX6_mesh_8 ⟨Nat.zero_le _, Nat.zero_le _⟩ (fun H locs hP hS => ?_)
  refine lv_aload_n hx hb dX6_mesh_11 rfl (lv_at hl 0 rfl) ?_
  refine lv_aload_n hx hb dX6_mesh_12 rfl (lv_at hl 0 rfl) ?_
  refine lv_iload_n hx hb dX6_mesh_13 rfl (lv_at hl 1 rfl) ?_
  refine lv_iload_n hx hb dX6_mesh_14 rfl (lv_at hl 2 rfl) ?_
  obtain ⟨r5, x4, e6, hf⟩ := bd_some hf
  refine gVi (As := [.int a1, .int a2]) (rest := [.ref (ad 0)]) (k := 0) hC hP hS (kX6_makeMesh l D cy tX tY ad A hC.2.2.2.2.2.2.2.2.1 F x1 a1 a2 e6) glX6_68 ⟨rfl, rfl⟩ hdX6_makeMesh ⟨Nat.le_of_ble_eq_true rfl, Nat.le_of_ble_eq_true rfl⟩ (by decide) (eX_0 cy ad _ _) rfl rfl hl.1 rfl (Nat.le_of_ble_eq_true rfl) dX6_mesh_15 ⟨Nat.zero_le _, Nat.zero_le _⟩ (fun H locs hP hS => ?_)
  obtain ⟨r8, x7, e9, hf⟩ := bd_some hf
  refine gVi (As := [.int r5]) (rest := []) (k := 0) hC hP hS (kX6_settle l D cy tX tY ad A hC.2.2.2.2.2.2.2.2.1 F x4 r5 e9) glX6_72 ⟨rfl, rfl⟩ hdX6_settle ⟨Nat.le_of_ble_eq_true rfl, Nat.le_of_ble_eq_true rfl⟩ (by decide) (eX_0 cy ad _ _) rfl rfl hl.1 rfl (Nat.le_of_ble_eq_true rfl) dX6_mesh_18 ⟨Nat.zero_le _, Nat.zero_le _⟩ (fun H locs hP hS => ?_)
  exact gIret hC hP hS hf dX6_mesh_21
set_option maxHeartbeats 4000000 in
set_option maxRecDepth 100000 in
theorem tX2_addMessage_39b (hC : Cf p s m args meth c cX2_addMessage 5 RX2 (some .int) D cy tX tY ad A 93) (F : Nat) {z : Int32 × HT} {j : Nat} (hj : j < 8) (rec39 : HT → Int32 → Int32 → Option (Int32 × HT)) (hrec39 : ∀ (x : HT) (a3 : Int32) (a4 : Int32), rec39 x a3 a4 = some z → Wd p l e { frames := 0, cells := 0, slots := 0, locals := 0 } s m args below meth c D (eX cy ad) 93 ad A (cQi (eX cy ad) 93 ad D A z) 5 39 [(0, .ref (ad (7 * j + 1))), (3, .int a3), (4, .int a4)] [] x) : ∀ (x : HT) (a3 : Int32) (a4 : Int32), fX2_addMessage_39b F rec39 j x a3 a4 = some z → Wd p l e { frames := 0, cells := 0, slots := 0, locals := 0 } s m args below meth c D (eX cy ad) 93 ad A (cQi (eX cy ad) 93 ad D A z) 5 39 [(0, .ref (ad (7 * j + 1))), (3, .int a3), (4, .int a4)] [] x := by
  intro x a3 a4 hf H locs ls hP hS hl
  obtain ⟨hx, hb, -⟩ := id hC
  refine lv_iload hx hb dX2_addMessage_39 (lv_at hl 2 rfl) ?_
  refine lv_iload_n hx hb dX2_addMessage_41 rfl (lv_at hl 1 rfl) ?_
  refine lv_iconst (v := 2) hx hb dX2_addMessage_42 (by decide) ?_
  refine lv_imul hx hb dX2_addMessage_43 ?_
  refine lv_iconst (v := 2) hx hb dX2_addMessage_44 (by decide) ?_
  refine lv_iadd hx hb dX2_addMessage_45 ?_
  refine lv_icmp_ge (tgt := 71) hx hb dX2_addMessage_46 (by decide) (fun c15 => ?_) (fun c15 => ?_)
  · have hf := it_t c15 hf
    refine lv_aload_n hx hb dX2_addMessage_71 rfl (lv_at hl 0 rfl) ?_
    refine lv_dup hx hb dX2_addMessage_72 rfl ?_
    refine gfX2_38 hC hP hj dX2_addMessage_73 ?_
    refine lv_iconst (v := 1) hx hb dX2_addMessage_76 (by decide) ?_
    refine lv_iadd hx hb dX2_addMessage_77 ?_
    refine pfX2_38 hC hP hS hj dX2_addMessage_78 (fun H locs hP hS => ?_)
    obtain ⟨x16, e17, hf⟩ := lt_some hf
    have hP : va_P D vwCl (wG (eX cy ad) 93 ad x16) H := by rw [e17]; exact hP
    refine lv_iload_n hx hb dX2_addMessage_81 rfl (lv_at hl 1 rfl) ?_
    exact gIret hC hP hS hf dX2_addMessage_82
  · have hf := it_f c15 hf
    refine lv_aload_n hx hb dX2_addMessage_49 rfl (lv_at hl 0 rfl) ?_
    refine gfX2_25 hC hP hj dX2_addMessage_50 ?_
    refine lv_iload hx hb dX2_addMessage_53 (lv_at hl 2 rfl) ?_
    refine lv_iconst (v := 0) hx hb dX2_addMessage_55 (by decide) ?_
    obtain ⟨h18, hf⟩ := ck_some hf
    refine gIas hC hP hS (7 * j + 6) (by omega) (fun g9 => eX_S5 hj cy ad g9 _) h18 dX2_addMessage_56 (fun H locs hP hS => ?_)
    obtain ⟨x19, e20, hf⟩ := lt_some hf
    have hP : va_P D vwCl (wG (eX cy ad) 93 ad x19) H := by rw [e20]; exact hP
    refine lv_aload_n hx hb dX2_addMessage_57 rfl (lv_at hl 0 rfl) ?_
    refine gfX2_28 hC hP hj dX2_addMessage_58 ?_
    refine lv_iload hx hb dX2_addMessage_61 (lv_at hl 2 rfl) ?_
    refine lv_iconst (v := 0) hx hb dX2_addMessage_63 (by decide) ?_
    obtain ⟨h21, hf⟩ := ck_some hf
    refine gIas hC hP hS (7 * j + 7) (by omega) (fun g9 => eX_S6 hj cy ad g9 _) h21 dX2_addMessage_64 (fun H locs hP hS => ?_)
    obtain ⟨x22, e23, hf⟩ := lt_some hf
    have hP : va_P D vwCl (wG (eX cy ad) 93 ad x22) H := by rw [e23]; exact hP
    obtain ⟨b24, e25, hf⟩ := lt_some hf
    refine lv_iinc (v := b24) (lv' := [(4, .int b24), (0, .ref (ad (7 * j + 1))), (3, .int a3)]) hx hb dX2_addMessage_65 hl (k := 2) rfl (by rw [e25]; rfl) (by decide) rfl (fun ls hl => ?_)
    refine lv_goto (tgt := 39) hx hb dX2_addMessage_68 (by decide) ?_
    exact hrec39 x22 a3 b24 hf H locs ls hP hS (lv_sub hl [1, 2, 0] rfl)
theorem tX2_addMessage_39 (hC : Cf p s m args meth c cX2_addMessage 5 RX2 (some .int) D cy tX tY ad A 93) (F : Nat) {z : Int32 × HT} {j : Nat} (hj : j < 8) : ∀ (n9 : Nat) (x : HT) (a3 : Int32) (a4 : Int32), fX2_addMessage_39 F j n9 x a3 a4 = some z → Wd p l e { frames := 0, cells := 0, slots := 0, locals := 0 } s m args below meth c D (eX cy ad) 93 ad A (cQi (eX cy ad) 93 ad D A z) 5 39 [(0, .ref (ad (7 * j + 1))), (3, .int a3), (4, .int a4)] [] x := by
  intro n9
  induction n9 with
  | zero => intro x a3 a4 hf; cases hf
  | succ n9 ih => intro x a3 a4 hf; exact tX2_addMessage_39b hC F hj (fX2_addMessage_39 F j n9) ih x a3 a4 hf
set_option maxHeartbeats 4000000 in
set_option maxRecDepth 100000 in
theorem kX2_addMessage (l : Launch) (D : va_G) (cy : Nat → ClassId) (tX tY : Nat) (ad : Nat → Nat) (A : Nat → Prop) (hA : apart ad A 93) (F : Nat) {j : Nat} (hj : j < 8) (x : HT) (a1 : Int32) (a2 : Int32) {z : Int32 × HT} (hf : fX2_addMessage F j x a1 a2 = some z) : Met l yX2_addMessage (Cond.code yX2_addMessage cX2_addMessage 5 (some .int) :: wAll) { frames := 0, cells := 0, slots := 0, locals := 0 } (cPc (eX cy ad) 93 ad D cy tX tY A [.ref (ad (7 * j + 1)), .int a1, .int a2] x) (cQi (eX cy ad) 93 ad D A z) 0 0 A := by
  refine gMet hA (by decide) (Nat.le_of_ble_eq_true rfl) (fun p e s m below meth c hC H locs ls hP hS hl => ?_)
  have hC : Cf p s m _ meth c cX2_addMessage 5 RX2 (some .int) D cy tX tY ad A 93 := hC
  have hl : lv_has ls 5 [(0, .ref (ad (7 * j + 1))), (1, .int a1), (2, .int a2)] := hl
  obtain ⟨hx, hb, -⟩ := id hC
  refine lv_aload_n hx hb dX2_addMessage_0 rfl (lv_at hl 0 rfl) ?_
  refine gfX2_38 hC hP hj dX2_addMessage_1 ?_
  refine lv_topi (fun b1 e2 => ?_)
  have hf := lt_use e2 hf
  refine lv_istore_n (lv' := [(3, .int b1), (0, .ref (ad (7 * j + 1))), (1, .int a1), (2, .int a2)]) hx hb dX2_addMessage_4 rfl hl (by decide) rfl (fun ls hl => ?_)
  refine lv_iload_n hx hb dX2_addMessage_5 rfl (lv_at hl 0 rfl) ?_
  refine lv_iconst (v := 5) hx hb dX2_addMessage_6 (by decide) ?_
  refine lv_icmp_lt (tgt := 13) hx hb dX2_addMessage_7 (by decide) (fun c3 => ?_) (fun c3 => ?_)
  · have hf := it_t c3 hf
    refine lv_aload_n hx hb dX2_addMessage_13 rfl (lv_at hl 1 rfl) ?_
    refine gfX2_15 hC hP hj dX2_addMessage_14 ?_
    refine lv_iload_n hx hb dX2_addMessage_17 rfl (lv_at hl 0 rfl) ?_
    refine lv_iload_n hx hb dX2_addMessage_18 rfl (lv_at hl 2 rfl) ?_
    obtain ⟨h4, hf⟩ := ck_some hf
    refine gIas hC hP hS (7 * j + 3) (by omega) (fun g9 => eX_S2 hj cy ad g9 _) h4 dX2_addMessage_19 (fun H locs hP hS => ?_)
    obtain ⟨x5, e6, hf⟩ := lt_some hf
    have hP : va_P D vwCl (wG (eX cy ad) 93 ad x5) H := by rw [e6]; exact hP
    refine lv_aload_n hx hb dX2_addMessage_20 rfl (lv_at hl 1 rfl) ?_
    refine gfX2_18 hC hP hj dX2_addMessage_21 ?_
    refine lv_iload_n hx hb dX2_addMessage_24 rfl (lv_at hl 0 rfl) ?_
    refine lv_iload_n hx hb dX2_addMessage_25 rfl (lv_at hl 3 rfl) ?_
    obtain ⟨h7, hf⟩ := ck_some hf
    refine gIas hC hP hS (7 * j + 4) (by omega) (fun g9 => eX_S3 hj cy ad g9 _) h7 dX2_addMessage_26 (fun H locs hP hS => ?_)
    obtain ⟨x8, e9, hf⟩ := lt_some hf
    have hP : va_P D vwCl (wG (eX cy ad) 93 ad x8) H := by rw [e9]; exact hP
    refine lv_aload_n hx hb dX2_addMessage_27 rfl (lv_at hl 1 rfl) ?_
    refine gfX2_21 hC hP hj dX2_addMessage_28 ?_
    refine lv_iload_n hx hb dX2_addMessage_31 rfl (lv_at hl 0 rfl) ?_
    refine lv_lconst (v := 0) hx hb dX2_addMessage_32 (by decide) ?_
    obtain ⟨h10, hf⟩ := ck_some hf
    refine gLas hC hP hS (7 * j + 5) (by omega) (fun g9 => eX_S4 hj cy ad _ g9) h10 dX2_addMessage_33 (fun H locs hP hS => ?_)
    obtain ⟨x11, e12, hf⟩ := lt_some hf
    have hP : va_P D vwCl (wG (eX cy ad) 93 ad x11) H := by rw [e12]; exact hP
    refine lv_iload_n hx hb dX2_addMessage_34 rfl (lv_at hl 0 rfl) ?_
    refine lv_iconst (v := 2) hx hb dX2_addMessage_35 (by decide) ?_
    refine lv_imul hx hb dX2_addMessage_36 ?_
    refine lv_topi (fun b13 e14 => ?_)
    have hf := lt_use e14 hf
    refine lv_istore (lv' := [(4, .int b13), (3, .int b1), (0, .ref (ad (7 * j + 1))), (1, .int a1), (2, .int a2)]) hx hb dX2_addMessage_37 hl (by decide) rfl (fun ls hl => ?_)
    exact tX2_addMessage_39 hC F hj F x11 b1 b13 hf H locs ls hP hS (lv_sub hl [2, 1, 0] rfl)
  · have hf := it_f c3 hf
    refine lv_bipush (v := -4) hx hb dX2_addMessage_10 (by decide) ?_
    exact gIret hC hP hS hf dX2_addMessage_12
set_option maxHeartbeats 4000000 in
set_option maxRecDepth 100000 in
theorem kX2_sourceOf (l : Launch) (D : va_G) (cy : Nat → ClassId) (tX tY : Nat) (ad : Nat → Nat) (A : Nat → Prop) (hA : apart ad A 93) (F : Nat) {j : Nat} (hj : j < 8) (x : HT) (a1 : Int32) {z : Int32 × HT} (hf : fX2_sourceOf F j x a1 = some z) : Met l yX2_sourceOf (Cond.code yX2_sourceOf cX2_sourceOf 2 (some .int) :: wAll) { frames := 0, cells := 0, slots := 0, locals := 0 } (cPc (eX cy ad) 93 ad D cy tX tY A [.ref (ad (7 * j + 1)), .int a1] x) (cQi (eX cy ad) 93 ad D A z) 0 0 A := by
  refine gMet hA (by decide) (Nat.le_of_ble_eq_true rfl) (fun p e s m below meth c hC H locs ls hP hS hl => ?_)
  have hC : Cf p s m _ meth c cX2_sourceOf 2 RX2 (some .int) D cy tX tY ad A 93 := hC
  have hl : lv_has ls 2 [(0, .ref (ad (7 * j + 1))), (1, .int a1)] := hl
  obtain ⟨hx, hb, -⟩ := id hC
  refine lv_aload_n hx hb dX2_sourceOf_0 rfl (lv_at hl 0 rfl) ?_
  refine gfX2_15 hC hP hj dX2_sourceOf_1 ?_
  refine lv_iload_n hx hb dX2_sourceOf_4 rfl (lv_at hl 1 rfl) ?_
  refine lv_iconst (v := 1) hx hb dX2_sourceOf_5 (by decide) ?_
  refine lv_ishr hx hb dX2_sourceOf_6 ?_
  obtain ⟨h1, hf⟩ := ck_some hf
  refine gIal hC hP (7 * j + 3) (by omega) (eX_S2 hj cy ad _ _) h1 dX2_sourceOf_7 ?_
  exact gIret hC hP hS hf dX2_sourceOf_8
set_option maxHeartbeats 4000000 in
set_option maxRecDepth 100000 in
theorem kX2_rises (l : Launch) (D : va_G) (cy : Nat → ClassId) (tX tY : Nat) (ad : Nat → Nat) (A : Nat → Prop) (hA : apart ad A 93) (F : Nat) {j : Nat} (hj : j < 8) (x : HT) (a1 : Int32) {z : Int32 × HT} (hf : fX2_rises F j x a1 = some z) : Met l yX2_rises (Cond.code yX2_rises cX2_rises 2 (some .boolean) :: wAll) { frames := 0, cells := 0, slots := 0, locals := 0 } (cPc (eX cy ad) 93 ad D cy tX tY A [.ref (ad (7 * j + 1)), .int a1] x) (cQi (eX cy ad) 93 ad D A z) 0 0 A := by
  refine gMet hA (by decide) (Nat.le_of_ble_eq_true rfl) (fun p e s m below meth c hC H locs ls hP hS hl => ?_)
  have hC : Cf p s m _ meth c cX2_rises 2 RX2 (some .boolean) D cy tX tY ad A 93 := hC
  have hl : lv_has ls 2 [(0, .ref (ad (7 * j + 1))), (1, .int a1)] := hl
  obtain ⟨hx, hb, -⟩ := id hC
  refine lv_iload_n hx hb dX2_rises_0 rfl (lv_at hl 1 rfl) ?_
  refine lv_iconst (v := 1) hx hb dX2_rises_1 (by decide) ?_
  refine lv_iand hx hb dX2_rises_2 ?_
  refine lv_if_ne (tgt := 10) hx hb dX2_rises_3 (by decide) (fun c1 => ?_) (fun c1 => ?_)
  · have hf := it_f c1 hf
    refine lv_iconst (v := 0) hx hb dX2_rises_10 (by decide) ?_
    exact gZret hC hP hS rfl hf dX2_rises_11
  · have hf := it_t c1 hf
    refine lv_iconst (v := 1) hx hb dX2_rises_6 (by decide) ?_
    refine lv_goto (tgt := 11) hx hb dX2_rises_7 (by decide) ?_
    exact gZret hC hP hS rfl hf dX2_rises_11
set_option maxHeartbeats 4000000 in
set_option maxRecDepth 100000 in
theorem tX2_goalsOfWorm_35 (hC : Cf p s m args meth c cX2_goalsOfWorm 4 RX2 (some .long) D cy tX tY ad A 93) (F : Nat) {z : Int64 × HT} {j : Nat} (hj : j < 8) : ∀ (x : HT) (t0 : Int64) (t1 : Int64), fX2_goalsOfWorm_35 F j x t0 t1 = some z → Wd p l e { frames := 1, cells := 0, slots := 0, locals := 21 } s m args below meth c D (eX cy ad) 93 ad A (cQl (eX cy ad) 93 ad D A z) 4 35 [] [.long t1, .long t0] x := by
  intro x t0 t1 hf H locs ls hP hS hl
  obtain ⟨hx, hb, -⟩ := id hC
  refine lv_land hx hb dX2_goalsOfWorm_35 ?_
  exact gLret hC hP hS hf dX2_goalsOfWorm_36
set_option maxHeartbeats 4000000 in
set_option maxRecDepth 100000 in
theorem kX2_goalsOfWorm (l : Launch) (D : va_G) (cy : Nat → ClassId) (tX tY : Nat) (ad : Nat → Nat) (A : Nat → Prop) (hA : apart ad A 93) (F : Nat) {j : Nat} (hj : j < 8) (x : HT) (a1 : Int32) {z : Int64 × HT} (hf : fX2_goalsOfWorm F j x a1 = some z) : Met l yX2_goalsOfWorm (Cond.code yX2_goalsOfWorm cX2_goalsOfWorm 4 (some .long) :: wAll) { frames := 1, cells := 0, slots := 0, locals := 21 } (cPc (eX cy ad) 93 ad D cy tX tY A [.ref (ad (7 * j + 1)), .int a1] x) (cQl (eX cy ad) 93 ad D A z) 0 0 A := by
  refine gMet hA (by decide) (Nat.le_of_ble_eq_true rfl) (fun p e s m below meth c hC H locs ls hP hS hl => ?_)
  have hC : Cf p s m _ meth c cX2_goalsOfWorm 4 RX2 (some .long) D cy tX tY ad A 93 := hC
  have hl : lv_has ls 4 [(0, .ref (ad (7 * j + 1))), (1, .int a1)] := hl
  obtain ⟨hx, hb, -⟩ := id hC
  refine lv_lconst (v := 1) hx hb dX2_goalsOfWorm_0 (by decide) ?_
  refine lv_aload_n hx hb dX2_goalsOfWorm_1 rfl (lv_at hl 0 rfl) ?_
  refine lv_iload_n hx hb dX2_goalsOfWorm_2 rfl (lv_at hl 1 rfl) ?_
  obtain ⟨r2, x1, e3, hf⟩ := bd_some hf
  refine gVi (As := [.int a1]) (rest := [.long (1 : Int64)]) (k := (7 * j + 1)) hC hP hS (kX2_sourceOf l D cy tX tY ad A hC.2.2.2.2.2.2.2.2.1 F (j := j) hj x a1 e3) glX2_59 ⟨rfl, rfl⟩ hdX2_sourceOf ⟨Nat.le_of_ble_eq_true rfl, Nat.le_of_ble_eq_true rfl⟩ (by omega) (eX_S hj cy ad _ _) rfl rfl hl.1 rfl (Nat.le_of_ble_eq_true rfl) dX2_goalsOfWorm_3 ⟨Nat.zero_le _, Nat.zero_le _⟩ (fun H locs hP hS => ?_)
  refine lv_lshl hx hb dX2_goalsOfWorm_6 rfl ?_
  refine lv_lconst (v := 1) hx hb dX2_goalsOfWorm_7 (by decide) ?_
  refine lv_lsub hx hb dX2_goalsOfWorm_8 ?_
  refine lv_topl (fun b4 e5 => ?_)
  have hf := lt_use e5 hf
  refine lv_lstore_n (lv' := [(2, .long b4), (0, .ref (ad (7 * j + 1))), (1, .int a1)]) hx hb dX2_goalsOfWorm_9 rfl hl (by decide) rfl (fun ls hl => ?_)
  refine lv_aload_n hx hb dX2_goalsOfWorm_10 rfl (lv_at hl 1 rfl) ?_
  refine gfX2_21 hC hP hj dX2_goalsOfWorm_11 ?_
  refine lv_iload_n hx hb dX2_goalsOfWorm_14 rfl (lv_at hl 2 rfl) ?_
  refine lv_iconst (v := 1) hx hb dX2_goalsOfWorm_15 (by decide) ?_
  refine lv_ishr hx hb dX2_goalsOfWorm_16 ?_
  obtain ⟨h6, hf⟩ := ck_some hf
  refine gLal hC hP (7 * j + 5) (by omega) (eX_S4 hj cy ad _ _) h6 dX2_goalsOfWorm_17 ?_
  refine lv_aload_n hx hb dX2_goalsOfWorm_18 rfl (lv_at hl 1 rfl) ?_
  refine lv_iload_n hx hb dX2_goalsOfWorm_19 rfl (lv_at hl 2 rfl) ?_
  obtain ⟨r8, x7, e9, hf⟩ := bd_some hf
  refine gVi (As := [.int a1]) (rest := [.long (x1.2 (7 * j + 5) (a1 >>> ((1 : Int32) &&& 31)).toNatClampNeg)]) (k := (7 * j + 1)) hC hP hS (kX2_rises l D cy tX tY ad A hC.2.2.2.2.2.2.2.2.1 F (j := j) hj x1 a1 e9) glX2_63 ⟨rfl, rfl⟩ hdX2_rises ⟨Nat.le_of_ble_eq_true rfl, Nat.le_of_ble_eq_true rfl⟩ (by omega) (eX_S hj cy ad _ _) rfl rfl hl.1 rfl (Nat.le_of_ble_eq_true rfl) dX2_goalsOfWorm_20 ⟨Nat.zero_le _, Nat.zero_le _⟩ (fun H locs hP hS => ?_)
  refine lv_if_eq (tgt := 34) hx hb dX2_goalsOfWorm_23 (by decide) (fun c10 => ?_) (fun c10 => ?_)
  · have hf := it_t c10 hf
    refine lv_lload_n hx hb dX2_goalsOfWorm_34 rfl (lv_at hl 0 rfl) ?_
    exact tX2_goalsOfWorm_35 hC F hj x7 (x1.2 (7 * j + 5) (a1 >>> ((1 : Int32) &&& 31)).toNatClampNeg) b4 hf H locs ls hP hS (lv_sub hl [] rfl)
  · have hf := it_f c10 hf
    refine lv_lload_n hx hb dX2_goalsOfWorm_26 rfl (lv_at hl 0 rfl) ?_
    refine lv_ldc2 (v := -1) hx hb hC.2.2.2.1 (hC.2.2.2.2.1 _ qw393) dX2_goalsOfWorm_27 ?_
    refine lv_lxor hx hb dX2_goalsOfWorm_30 ?_
    refine lv_goto (tgt := 35) hx hb dX2_goalsOfWorm_31 (by decide) ?_
    exact tX2_goalsOfWorm_35 hC F hj x7 (x1.2 (7 * j + 5) (a1 >>> ((1 : Int32) &&& 31)).toNatClampNeg) (b4 ^^^ (-1 : Int64)) hf H locs ls hP hS (lv_sub hl [] rfl)
set_option maxHeartbeats 4000000 in
set_option maxRecDepth 100000 in
theorem tX0_channelTowards_114 (hC : Cf p s m args meth c cX0_channelTowards 8 RX0 (some .int) D cy tX tY ad A 93) (F : Nat) {z : Int32 × HT} (rec22 : HT → Int32 → Int32 → Int32 → Int32 → Int32 → Option (Int32 × HT)) (hrec22 : ∀ (x : HT) (a1 : Int32) (a2 : Int32) (a3 : Int32) (a4 : Int32) (a5 : Int32), rec22 x a1 a2 a3 a4 a5 = some z → Wd p l e { frames := 0, cells := 0, slots := 0, locals := 0 } s m args below meth c D (eX cy ad) 93 ad A (cQi (eX cy ad) 93 ad D A z) 8 22 [(0, .ref (ad 59)), (1, .int a1), (2, .int a2), (3, .int a3), (4, .int a4), (5, .int a5)] [] x) : ∀ (x : HT) (a1 : Int32) (a2 : Int32) (a3 : Int32) (a4 : Int32) (a5 : Int32), fX0_channelTowards_114 F rec22 x a1 a2 a3 a4 a5 = some z → Wd p l e { frames := 0, cells := 0, slots := 0, locals := 0 } s m args below meth c D (eX cy ad) 93 ad A (cQi (eX cy ad) 93 ad D A z) 8 114 [(0, .ref (ad 59)), (1, .int a1), (2, .int a2), (3, .int a3), (4, .int a4), (5, .int a5)] [] x := by
  intro x a1 a2 a3 a4 a5 hf H locs ls hP hS hl
  obtain ⟨hx, hb, -⟩ := id hC
  obtain ⟨b16, e17, hf⟩ := lt_some hf
  refine lv_iinc (v := b16) (lv' := [(5, .int b16), (0, .ref (ad 59)), (1, .int a1), (2, .int a2), (3, .int a3), (4, .int a4)]) hx hb dX0_channelTowards_114 hl (k := 5) rfl (by rw [e17]; rfl) (by decide) rfl (fun ls hl => ?_)
  refine lv_goto (tgt := 22) hx hb dX0_channelTowards_117 (by decide) ?_
  exact hrec22 x a1 a2 a3 a4 b16 hf H locs ls hP hS (lv_sub hl [1, 2, 3, 4, 5, 0] rfl)
set_option maxHeartbeats 4000000 in
set_option maxRecDepth 100000 in
theorem tX0_channelTowards_100 (hC : Cf p s m args meth c cX0_channelTowards 8 RX0 (some .int) D cy tX tY ad A 93) (F : Nat) {z : Int32 × HT} (rec22 : HT → Int32 → Int32 → Int32 → Int32 → Int32 → Option (Int32 × HT)) (hrec22 : ∀ (x : HT) (a1 : Int32) (a2 : Int32) (a3 : Int32) (a4 : Int32) (a5 : Int32), rec22 x a1 a2 a3 a4 a5 = some z → Wd p l e { frames := 0, cells := 0, slots := 0, locals := 0 } s m args below meth c D (eX cy ad) 93 ad A (cQi (eX cy ad) 93 ad D A z) 8 22 [(0, .ref (ad 59)), (1, .int a1), (2, .int a2), (3, .int a3), (4, .int a4), (5, .int a5)] [] x) : ∀ (x : HT) (a1 : Int32) (a2 : Int32) (a3 : Int32) (a4 : Int32) (a5 : Int32) (a6 : Int32) (t0 : Int32), fX0_channelTowards_100 F rec22 x a1 a2 a3 a4 a5 a6 t0 = some z → Wd p l e { frames := 0, cells := 0, slots := 0, locals := 0 } s m args below meth c D (eX cy ad) 93 ad A (cQi (eX cy ad) 93 ad D A z) 8 100 [(0, .ref (ad 59)), (1, .int a1), (2, .int a2), (3, .int a3), (4, .int a4), (5, .int a5), (6, .int a6)] [.int t0] x := by
  intro x a1 a2 a3 a4 a5 a6 t0 hf H locs ls hP hS hl
  obtain ⟨hx, hb, -⟩ := id hC
  refine lv_istore (lv' := [(7, .int t0), (0, .ref (ad 59)), (1, .int a1), (2, .int a2), (3, .int a3), (4, .int a4), (5, .int a5), (6, .int a6)]) hx hb dX0_channelTowards_100 hl (by decide) rfl (fun ls hl => ?_)
  refine lv_iload hx hb dX0_channelTowards_102 (lv_at hl 0 rfl) ?_
  refine lv_if_eq (tgt := 114) hx hb dX0_channelTowards_104 (by decide) (fun c18 => ?_) (fun c18 => ?_)
  · have hf := it_t c18 hf
    exact tX0_channelTowards_114 hC F rec22 hrec22 x a1 a2 a3 a4 a5 hf H locs ls hP hS (lv_sub hl [1, 2, 3, 4, 5, 6] rfl)
  · have hf := it_f c18 hf
    refine lv_iload hx hb dX0_channelTowards_107 (lv_at hl 6 rfl) ?_
    refine lv_istore_n (lv' := [(3, .int a5), (7, .int t0), (0, .ref (ad 59)), (1, .int a1), (2, .int a2), (4, .int a4), (5, .int a5), (6, .int a6)]) hx hb dX0_channelTowards_109 rfl hl (by decide) rfl (fun ls hl => ?_)
    refine lv_iload hx hb dX0_channelTowards_110 (lv_at hl 7 rfl) ?_
    refine lv_istore (lv' := [(4, .int a6), (3, .int a5), (7, .int t0), (0, .ref (ad 59)), (1, .int a1), (2, .int a2), (5, .int a5), (6, .int a6)]) hx hb dX0_channelTowards_112 hl (by decide) rfl (fun ls hl => ?_)
    exact tX0_channelTowards_114 hC F rec22 hrec22 x a1 a2 a5 a6 a5 hf H locs ls hP hS (lv_sub hl [3, 4, 5, 1, 0, 6] rfl)
set_option maxHeartbeats 4000000 in
set_option maxRecDepth 100000 in
theorem tX0_channelTowards_99 (hC : Cf p s m args meth c cX0_channelTowards 8 RX0 (some .int) D cy tX tY ad A 93) (F : Nat) {z : Int32 × HT} (rec22 : HT → Int32 → Int32 → Int32 → Int32 → Int32 → Option (Int32 × HT)) (hrec22 : ∀ (x : HT) (a1 : Int32) (a2 : Int32) (a3 : Int32) (a4 : Int32) (a5 : Int32), rec22 x a1 a2 a3 a4 a5 = some z → Wd p l e { frames := 0, cells := 0, slots := 0, locals := 0 } s m args below meth c D (eX cy ad) 93 ad A (cQi (eX cy ad) 93 ad D A z) 8 22 [(0, .ref (ad 59)), (1, .int a1), (2, .int a2), (3, .int a3), (4, .int a4), (5, .int a5)] [] x) : ∀ (x : HT) (a1 : Int32) (a2 : Int32) (a3 : Int32) (a4 : Int32) (a5 : Int32) (a6 : Int32), fX0_channelTowards_99 F rec22 x a1 a2 a3 a4 a5 a6 = some z → Wd p l e { frames := 0, cells := 0, slots := 0, locals := 0 } s m args below meth c D (eX cy ad) 93 ad A (cQi (eX cy ad) 93 ad D A z) 8 99 [(0, .ref (ad 59)), (1, .int a1), (2, .int a2), (3, .int a3), (4, .int a4), (5, .int a5), (6, .int a6)] [] x := by
  intro x a1 a2 a3 a4 a5 a6 hf H locs ls hP hS hl
  obtain ⟨hx, hb, -⟩ := id hC
  refine lv_iconst (v := 0) hx hb dX0_channelTowards_99 (by decide) ?_
  exact tX0_channelTowards_100 hC F rec22 hrec22 x a1 a2 a3 a4 a5 a6 (0 : Int32) hf H locs ls hP hS (lv_sub hl [0, 1, 2, 3, 4, 5, 6] rfl)
set_option maxHeartbeats 4000000 in
set_option maxRecDepth 100000 in
theorem tX0_channelTowards_95 (hC : Cf p s m args meth c cX0_channelTowards 8 RX0 (some .int) D cy tX tY ad A 93) (F : Nat) {z : Int32 × HT} (rec22 : HT → Int32 → Int32 → Int32 → Int32 → Int32 → Option (Int32 × HT)) (hrec22 : ∀ (x : HT) (a1 : Int32) (a2 : Int32) (a3 : Int32) (a4 : Int32) (a5 : Int32), rec22 x a1 a2 a3 a4 a5 = some z → Wd p l e { frames := 0, cells := 0, slots := 0, locals := 0 } s m args below meth c D (eX cy ad) 93 ad A (cQi (eX cy ad) 93 ad D A z) 8 22 [(0, .ref (ad 59)), (1, .int a1), (2, .int a2), (3, .int a3), (4, .int a4), (5, .int a5)] [] x) : ∀ (x : HT) (a1 : Int32) (a2 : Int32) (a3 : Int32) (a4 : Int32) (a5 : Int32) (a6 : Int32), fX0_channelTowards_95 F rec22 x a1 a2 a3 a4 a5 a6 = some z → Wd p l e { frames := 0, cells := 0, slots := 0, locals := 0 } s m args below meth c D (eX cy ad) 93 ad A (cQi (eX cy ad) 93 ad D A z) 8 95 [(0, .ref (ad 59)), (1, .int a1), (2, .int a2), (3, .int a3), (4, .int a4), (5, .int a5), (6, .int a6)] [] x := by
  intro x a1 a2 a3 a4 a5 a6 hf H locs ls hP hS hl
  obtain ⟨hx, hb, -⟩ := id hC
  refine lv_iconst (v := 1) hx hb dX0_channelTowards_95 (by decide) ?_
  refine lv_goto (tgt := 100) hx hb dX0_channelTowards_96 (by decide) ?_
  exact tX0_channelTowards_100 hC F rec22 hrec22 x a1 a2 a3 a4 a5 a6 (1 : Int32) hf H locs ls hP hS (lv_sub hl [0, 1, 2, 3, 4, 5, 6] rfl)
set_option maxHeartbeats 4000000 in
set_option maxRecDepth 100000 in
theorem tX0_channelTowards_72 (hC : Cf p s m args meth c cX0_channelTowards 8 RX0 (some .int) D cy tX tY ad A 93) (F : Nat) {z : Int32 × HT} (rec22 : HT → Int32 → Int32 → Int32 → Int32 → Int32 → Option (Int32 × HT)) (hrec22 : ∀ (x : HT) (a1 : Int32) (a2 : Int32) (a3 : Int32) (a4 : Int32) (a5 : Int32), rec22 x a1 a2 a3 a4 a5 = some z → Wd p l e { frames := 0, cells := 0, slots := 0, locals := 0 } s m args below meth c D (eX cy ad) 93 ad A (cQi (eX cy ad) 93 ad D A z) 8 22 [(0, .ref (ad 59)), (1, .int a1), (2, .int a2), (3, .int a3), (4, .int a4), (5, .int a5)] [] x) : ∀ (x : HT) (a1 : Int32) (a2 : Int32) (a3 : Int32) (a4 : Int32) (a5 : Int32) (a6 : Int32), fX0_channelTowards_72 F rec22 x a1 a2 a3 a4 a5 a6 = some z → Wd p l e { frames := 0, cells := 0, slots := 0, locals := 0 } s m args below meth c D (eX cy ad) 93 ad A (cQi (eX cy ad) 93 ad D A z) 8 72 [(0, .ref (ad 59)), (1, .int a1), (2, .int a2), (3, .int a3), (4, .int a4), (5, .int a5), (6, .int a6)] [] x := by
  intro x a1 a2 a3 a4 a5 a6 hf H locs ls hP hS hl
  obtain ⟨hx, hb, -⟩ := id hC
  refine lv_iconst (v := 0) hx hb dX0_channelTowards_72 (by decide) ?_
  refine lv_goto (tgt := 100) hx hb dX0_channelTowards_73 (by decide) ?_
  exact tX0_channelTowards_100 hC F rec22 hrec22 x a1 a2 a3 a4 a5 a6 (0 : Int32) hf H locs ls hP hS (lv_sub hl [0, 1, 2, 3, 4, 5, 6] rfl)
set_option maxHeartbeats 4000000 in
set_option maxRecDepth 100000 in
theorem tX0_channelTowards_22b (hC : Cf p s m args meth c cX0_channelTowards 8 RX0 (some .int) D cy tX tY ad A 93) (F : Nat) {z : Int32 × HT} (rec22 : HT → Int32 → Int32 → Int32 → Int32 → Int32 → Option (Int32 × HT)) (hrec22 : ∀ (x : HT) (a1 : Int32) (a2 : Int32) (a3 : Int32) (a4 : Int32) (a5 : Int32), rec22 x a1 a2 a3 a4 a5 = some z → Wd p l e { frames := 0, cells := 0, slots := 0, locals := 0 } s m args below meth c D (eX cy ad) 93 ad A (cQi (eX cy ad) 93 ad D A z) 8 22 [(0, .ref (ad 59)), (1, .int a1), (2, .int a2), (3, .int a3), (4, .int a4), (5, .int a5)] [] x) : ∀ (x : HT) (a1 : Int32) (a2 : Int32) (a3 : Int32) (a4 : Int32) (a5 : Int32), fX0_channelTowards_22b F rec22 x a1 a2 a3 a4 a5 = some z → Wd p l e { frames := 0, cells := 0, slots := 0, locals := 0 } s m args below meth c D (eX cy ad) 93 ad A (cQi (eX cy ad) 93 ad D A z) 8 22 [(0, .ref (ad 59)), (1, .int a1), (2, .int a2), (3, .int a3), (4, .int a4), (5, .int a5)] [] x := by
  intro x a1 a2 a3 a4 a5 hf H locs ls hP hS hl
  obtain ⟨hx, hb, -⟩ := id hC
  refine lv_iload hx hb dX0_channelTowards_22 (lv_at hl 5 rfl) ?_
  refine lv_iload_n hx hb dX0_channelTowards_24 rfl (lv_at hl 1 rfl) ?_
  refine lv_iconst (v := 4) hx hb dX0_channelTowards_25 (by decide) ?_
  refine lv_imul hx hb dX0_channelTowards_26 ?_
  refine lv_iconst (v := 4) hx hb dX0_channelTowards_27 (by decide) ?_
  refine lv_iadd hx hb dX0_channelTowards_28 ?_
  refine lv_icmp_ge (tgt := 120) hx hb dX0_channelTowards_29 (by decide) (fun c5 => ?_) (fun c5 => ?_)
  · have hf := it_t c5 hf
    refine lv_iload_n hx hb dX0_channelTowards_120 rfl (lv_at hl 3 rfl) ?_
    exact gIret hC hP hS hf dX0_channelTowards_121
  · have hf := it_f c5 hf
    refine lv_aload_n hx hb dX0_channelTowards_32 rfl (lv_at hl 0 rfl) ?_
    refine gfX0_18 hC hP dX0_channelTowards_33 ?_
    refine lv_iload hx hb dX0_channelTowards_36 (lv_at hl 5 rfl) ?_
    obtain ⟨h6, hf⟩ := ck_some hf
    refine gIal hC hP 62 (by decide) (eX_62 cy ad _ _) h6 dX0_channelTowards_38 ?_
    refine lv_topi (fun b7 e8 => ?_)
    have hf := lt_use e8 hf
    refine lv_istore (lv' := [(6, .int b7), (0, .ref (ad 59)), (1, .int a1), (2, .int a2), (3, .int a3), (4, .int a4), (5, .int a5)]) hx hb dX0_channelTowards_39 hl (by decide) rfl (fun ls hl => ?_)
    refine lv_iload hx hb dX0_channelTowards_41 (lv_at hl 0 rfl) ?_
    refine lv_iconst (v := -1) hx hb dX0_channelTowards_43 (by decide) ?_
    refine lv_icmp_ne (tgt := 50) hx hb dX0_channelTowards_44 (by decide) (fun c9 => ?_) (fun c9 => ?_)
    · have hf := it_f c9 hf
      refine lv_iload_n hx hb dX0_channelTowards_50 rfl (lv_at hl 3 rfl) ?_
      refine lv_iload_n hx hb dX0_channelTowards_51 rfl (lv_at hl 2 rfl) ?_
      refine lv_icmp_le (tgt := 76) hx hb dX0_channelTowards_52 (by decide) (fun c10 => ?_) (fun c10 => ?_)
      · have hf := it_t c10 hf
        refine lv_iload hx hb dX0_channelTowards_76 (lv_at hl 0 rfl) ?_
        refine lv_iload_n hx hb dX0_channelTowards_78 rfl (lv_at hl 3 rfl) ?_
        refine lv_icmp_lt (tgt := 99) hx hb dX0_channelTowards_79 (by decide) (fun c11 => ?_) (fun c11 => ?_)
        · have hf := it_t c11 hf
          exact tX0_channelTowards_99 hC F rec22 hrec22 x a1 a2 a3 a4 a5 b7 hf H locs ls hP hS (lv_sub hl [1, 2, 3, 4, 5, 6, 0] rfl)
        · have hf := it_f c11 hf
          refine lv_iload hx hb dX0_channelTowards_82 (lv_at hl 5 rfl) ?_
          refine lv_iconst (v := -1) hx hb dX0_channelTowards_84 (by decide) ?_
          refine lv_icmp_eq (tgt := 95) hx hb dX0_channelTowards_85 (by decide) (fun c12 => ?_) (fun c12 => ?_)
          · have hf := it_t c12 hf
            exact tX0_channelTowards_95 hC F rec22 hrec22 x a1 a2 a3 a4 a5 b7 hf H locs ls hP hS (lv_sub hl [1, 2, 3, 4, 5, 6, 0] rfl)
          · have hf := it_f c12 hf
            refine lv_iload hx hb dX0_channelTowards_88 (lv_at hl 0 rfl) ?_
            refine lv_iload hx hb dX0_channelTowards_90 (lv_at hl 5 rfl) ?_
            refine lv_icmp_ge (tgt := 99) hx hb dX0_channelTowards_92 (by decide) (fun c13 => ?_) (fun c13 => ?_)
            · have hf := it_t c13 hf
              exact tX0_channelTowards_99 hC F rec22 hrec22 x a1 a2 a3 a4 a5 b7 hf H locs ls hP hS (lv_sub hl [1, 2, 3, 4, 5, 6, 0] rfl)
            · have hf := it_f c13 hf
              exact tX0_channelTowards_95 hC F rec22 hrec22 x a1 a2 a3 a4 a5 b7 hf H locs ls hP hS (lv_sub hl [1, 2, 3, 4, 5, 6, 0] rfl)
      · have hf := it_f c10 hf
        refine lv_iload hx hb dX0_channelTowards_55 (lv_at hl 0 rfl) ?_
        refine lv_iload_n hx hb dX0_channelTowards_57 rfl (lv_at hl 3 rfl) ?_
        refine lv_icmp_gt (tgt := 72) hx hb dX0_channelTowards_58 (by decide) (fun c14 => ?_) (fun c14 => ?_)
        · have hf := it_t c14 hf
          exact tX0_channelTowards_72 hC F rec22 hrec22 x a1 a2 a3 a4 a5 b7 hf H locs ls hP hS (lv_sub hl [1, 2, 3, 4, 5, 6, 0] rfl)
        · have hf := it_f c14 hf
          refine lv_iload hx hb dX0_channelTowards_61 (lv_at hl 0 rfl) ?_
          refine lv_iload hx hb dX0_channelTowards_63 (lv_at hl 5 rfl) ?_
          refine lv_icmp_le (tgt := 72) hx hb dX0_channelTowards_65 (by decide) (fun c15 => ?_) (fun c15 => ?_)
          · have hf := it_t c15 hf
            exact tX0_channelTowards_72 hC F rec22 hrec22 x a1 a2 a3 a4 a5 b7 hf H locs ls hP hS (lv_sub hl [1, 2, 3, 4, 5, 6, 0] rfl)
          · have hf := it_f c15 hf
            refine lv_iconst (v := 1) hx hb dX0_channelTowards_68 (by decide) ?_
            refine lv_goto (tgt := 100) hx hb dX0_channelTowards_69 (by decide) ?_
            exact tX0_channelTowards_100 hC F rec22 hrec22 x a1 a2 a3 a4 a5 b7 (1 : Int32) hf H locs ls hP hS (lv_sub hl [1, 2, 3, 4, 5, 6, 0] rfl)
    · have hf := it_t c9 hf
      refine lv_goto (tgt := 114) hx hb dX0_channelTowards_47 (by decide) ?_
      exact tX0_channelTowards_114 hC F rec22 hrec22 x a1 a2 a3 a4 a5 hf H locs ls hP hS (lv_sub hl [1, 2, 3, 4, 5, 6] rfl)
theorem tX0_channelTowards_22 (hC : Cf p s m args meth c cX0_channelTowards 8 RX0 (some .int) D cy tX tY ad A 93) (F : Nat) {z : Int32 × HT} : ∀ (n9 : Nat) (x : HT) (a1 : Int32) (a2 : Int32) (a3 : Int32) (a4 : Int32) (a5 : Int32), fX0_channelTowards_22 F n9 x a1 a2 a3 a4 a5 = some z → Wd p l e { frames := 0, cells := 0, slots := 0, locals := 0 } s m args below meth c D (eX cy ad) 93 ad A (cQi (eX cy ad) 93 ad D A z) 8 22 [(0, .ref (ad 59)), (1, .int a1), (2, .int a2), (3, .int a3), (4, .int a4), (5, .int a5)] [] x := by
  intro n9
  induction n9 with
  | zero => intro x a1 a2 a3 a4 a5 hf; cases hf
  | succ n9 ih => intro x a1 a2 a3 a4 a5 hf; exact tX0_channelTowards_22b hC F (fX0_channelTowards_22 F n9) ih x a1 a2 a3 a4 a5 hf
set_option maxHeartbeats 4000000 in
set_option maxRecDepth 100000 in
theorem tX0_channelTowards_10 (hC : Cf p s m args meth c cX0_channelTowards 8 RX0 (some .int) D cy tX tY ad A 93) (F : Nat) {z : Int32 × HT} : ∀ (x : HT), fX0_channelTowards_10 F x = some z → Wd p l e { frames := 0, cells := 0, slots := 0, locals := 0 } s m args below meth c D (eX cy ad) 93 ad A (cQi (eX cy ad) 93 ad D A z) 8 10 [] [] x := by
  intro x hf H locs ls hP hS hl
  obtain ⟨hx, hb, -⟩ := id hC
  refine lv_iconst (v := -1) hx hb dX0_channelTowards_10 (by decide) ?_
  exact gIret hC hP hS hf dX0_channelTowards_11
set_option maxHeartbeats 4000000 in
set_option maxRecDepth 100000 in
theorem kX0_channelTowards (l : Launch) (D : va_G) (cy : Nat → ClassId) (tX tY : Nat) (ad : Nat → Nat) (A : Nat → Prop) (hA : apart ad A 93) (F : Nat) (x : HT) (a1 : Int32) (a2 : Int32) {z : Int32 × HT} (hf : fX0_channelTowards F x a1 a2 = some z) : Met l yX0_channelTowards (Cond.code yX0_channelTowards cX0_channelTowards 8 (some .int) :: wAll) { frames := 0, cells := 0, slots := 0, locals := 0 } (cPc (eX cy ad) 93 ad D cy tX tY A [.ref (ad 59), .int a1, .int a2] x) (cQi (eX cy ad) 93 ad D A z) 0 0 A := by
  refine gMet hA (by decide) (Nat.le_of_ble_eq_true rfl) (fun p e s m below meth c hC H locs ls hP hS hl => ?_)
  have hC : Cf p s m _ meth c cX0_channelTowards 8 RX0 (some .int) D cy tX tY ad A 93 := hC
  have hl : lv_has ls 8 [(0, .ref (ad 59)), (1, .int a1), (2, .int a2)] := hl
  obtain ⟨hx, hb, -⟩ := id hC
  refine lv_iload_n hx hb dX0_channelTowards_0 rfl (lv_at hl 1 rfl) ?_
  refine lv_if_lt (tgt := 10) hx hb dX0_channelTowards_1 (by decide) (fun c1 => ?_) (fun c1 => ?_)
  · have hf := it_t c1 hf
    exact tX0_channelTowards_10 hC F x hf H locs ls hP hS (lv_sub hl [] rfl)
  · have hf := it_f c1 hf
    refine lv_iload_n hx hb dX0_channelTowards_4 rfl (lv_at hl 1 rfl) ?_
    refine lv_bipush (v := 36) hx hb dX0_channelTowards_5 (by decide) ?_
    refine lv_icmp_lt (tgt := 12) hx hb dX0_channelTowards_7 (by decide) (fun c2 => ?_) (fun c2 => ?_)
    · have hf := it_t c2 hf
      refine lv_iconst (v := -1) hx hb dX0_channelTowards_12 (by decide) ?_
      refine lv_istore_n (lv' := [(3, .int (-1 : Int32)), (0, .ref (ad 59)), (1, .int a1), (2, .int a2)]) hx hb dX0_channelTowards_13 rfl hl (by decide) rfl (fun ls hl => ?_)
      refine lv_iconst (v := -1) hx hb dX0_channelTowards_14 (by decide) ?_
      refine lv_istore (lv' := [(4, .int (-1 : Int32)), (3, .int (-1 : Int32)), (0, .ref (ad 59)), (1, .int a1), (2, .int a2)]) hx hb dX0_channelTowards_15 hl (by decide) rfl (fun ls hl => ?_)
      refine lv_iload_n hx hb dX0_channelTowards_17 rfl (lv_at hl 3 rfl) ?_
      refine lv_iconst (v := 4) hx hb dX0_channelTowards_18 (by decide) ?_
      refine lv_imul hx hb dX0_channelTowards_19 ?_
      refine lv_topi (fun b3 e4 => ?_)
      have hf := lt_use e4 hf
      refine lv_istore (lv' := [(5, .int b3), (4, .int (-1 : Int32)), (3, .int (-1 : Int32)), (0, .ref (ad 59)), (1, .int a1), (2, .int a2)]) hx hb dX0_channelTowards_20 hl (by decide) rfl (fun ls hl => ?_)
      exact tX0_channelTowards_22 hC F F x a1 a2 (-1 : Int32) (-1 : Int32) b3 hf H locs ls hP hS (lv_sub hl [3, 4, 5, 2, 1, 0] rfl)
    · have hf := it_f c2 hf
      exact tX0_channelTowards_10 hC F x hf H locs ls hP hS (lv_sub hl [] rfl)
set_option maxHeartbeats 4000000 in
set_option maxRecDepth 100000 in
theorem tX0_endOf_20 (hC : Cf p s m args meth c cX0_endOf 2 RX0 (some .int) D cy tX tY ad A 93) (F : Nat) {z : Int32 × HT} : ∀ (x : HT), fX0_endOf_20 F x = some z → Wd p l e { frames := 0, cells := 0, slots := 0, locals := 0 } s m args below meth c D (eX cy ad) 93 ad A (cQi (eX cy ad) 93 ad D A z) 2 20 [] [] x := by
  intro x hf H locs ls hP hS hl
  obtain ⟨hx, hb, -⟩ := id hC
  refine lv_iconst (v := -1) hx hb dX0_endOf_20 (by decide) ?_
  exact gIret hC hP hS hf dX0_endOf_21
set_option maxHeartbeats 4000000 in
set_option maxRecDepth 100000 in
theorem kX0_endOf (l : Launch) (D : va_G) (cy : Nat → ClassId) (tX tY : Nat) (ad : Nat → Nat) (A : Nat → Prop) (hA : apart ad A 93) (F : Nat) (x : HT) (a1 : Int32) {z : Int32 × HT} (hf : fX0_endOf F x a1 = some z) : Met l yX0_endOf (Cond.code yX0_endOf cX0_endOf 2 (some .int) :: wAll) { frames := 0, cells := 0, slots := 0, locals := 0 } (cPc (eX cy ad) 93 ad D cy tX tY A [.ref (ad 59), .int a1] x) (cQi (eX cy ad) 93 ad D A z) 0 0 A := by
  refine gMet hA (by decide) (Nat.le_of_ble_eq_true rfl) (fun p e s m below meth c hC H locs ls hP hS hl => ?_)
  have hC : Cf p s m _ meth c cX0_endOf 2 RX0 (some .int) D cy tX tY ad A 93 := hC
  have hl : lv_has ls 2 [(0, .ref (ad 59)), (1, .int a1)] := hl
  obtain ⟨hx, hb, -⟩ := id hC
  refine lv_iload_n hx hb dX0_endOf_0 rfl (lv_at hl 1 rfl) ?_
  refine lv_if_lt (tgt := 20) hx hb dX0_endOf_1 (by decide) (fun c1 => ?_) (fun c1 => ?_)
  · have hf := it_t c1 hf
    exact tX0_endOf_20 hC F x hf H locs ls hP hS (lv_sub hl [] rfl)
  · have hf := it_f c1 hf
    refine lv_iload_n hx hb dX0_endOf_4 rfl (lv_at hl 1 rfl) ?_
    refine lv_sipush (v := 144) hx hb dX0_endOf_5 (by decide) ?_
    refine lv_icmp_ge (tgt := 20) hx hb dX0_endOf_8 (by decide) (fun c2 => ?_) (fun c2 => ?_)
    · have hf := it_t c2 hf
      exact tX0_endOf_20 hC F x hf H locs ls hP hS (lv_sub hl [] rfl)
    · have hf := it_f c2 hf
      refine lv_aload_n hx hb dX0_endOf_11 rfl (lv_at hl 0 rfl) ?_
      refine gfX0_18 hC hP dX0_endOf_12 ?_
      refine lv_iload_n hx hb dX0_endOf_15 rfl (lv_at hl 1 rfl) ?_
      obtain ⟨h3, hf⟩ := ck_some hf
      refine gIal hC hP 62 (by decide) (eX_62 cy ad _ _) h3 dX0_endOf_16 ?_
      refine lv_goto (tgt := 21) hx hb dX0_endOf_17 (by decide) ?_
      exact gIret hC hP hS hf dX0_endOf_21
set_option maxHeartbeats 4000000 in
set_option maxRecDepth 100000 in
theorem tX5_layTo_89 (hC : Cf p s m args meth c cX5_layTo 6 RX5 none D cy tX tY ad A 93) (F : Nat) {z : Unit × HT} : ∀ (x : HT) (a2 : Int32) (a4 : Int32), fX5_layTo_89 F x a2 a4 = some z → Wd p l e { frames := 1, cells := 0, slots := 0, locals := 27 } s m args below meth c D (eX cy ad) 93 ad A (cQv (eX cy ad) 93 ad D A z) 6 89 [(0, .ref (ad 63)), (2, .int a2), (4, .int a4)] [] x := by
  intro x a2 a4 hf H locs ls hP hS hl
  obtain ⟨hx, hb, -⟩ := id hC
  refine lv_aload_n hx hb dX5_layTo_89 rfl (lv_at hl 0 rfl) ?_
  refine gfX5_9 hC hP dX5_layTo_90 ?_
  refine lv_iload_n hx hb dX5_layTo_93 rfl (lv_at hl 1 rfl) ?_
  refine lv_iload hx hb dX5_layTo_94 (lv_at hl 2 rfl) ?_
  obtain ⟨h31, hf⟩ := ck_some hf
  refine gIas hC hP hS 64 (by decide) (fun g9 => eX_64 cy ad g9 _) h31 dX5_layTo_96 (fun H locs hP hS => ?_)
  obtain ⟨x32, e33, hf⟩ := lt_some hf
  have hP : va_P D vwCl (wG (eX cy ad) 93 ad x32) H := by rw [e33]; exact hP
  exact gVret hC hP hS hf dX5_layTo_97
set_option maxHeartbeats 4000000 in
set_option maxRecDepth 100000 in
theorem tX5_layTo_8b (hC : Cf p s m args meth c cX5_layTo 6 RX5 none D cy tX tY ad A 93) (F : Nat) {z : Unit × HT} (rec8 : HT → Int32 → Int32 → Int32 → Option (Unit × HT)) (hrec8 : ∀ (x : HT) (a2 : Int32) (a3 : Int32) (a4 : Int32), rec8 x a2 a3 a4 = some z → Wd p l e { frames := 1, cells := 0, slots := 0, locals := 27 } s m args below meth c D (eX cy ad) 93 ad A (cQv (eX cy ad) 93 ad D A z) 6 8 [(0, .ref (ad 63)), (1, .ref (ad 59)), (2, .int a2), (3, .int a3), (4, .int a4)] [] x) : ∀ (x : HT) (a2 : Int32) (a3 : Int32) (a4 : Int32), fX5_layTo_8b F rec8 x a2 a3 a4 = some z → Wd p l e { frames := 1, cells := 0, slots := 0, locals := 27 } s m args below meth c D (eX cy ad) 93 ad A (cQv (eX cy ad) 93 ad D A z) 6 8 [(0, .ref (ad 63)), (1, .ref (ad 59)), (2, .int a2), (3, .int a3), (4, .int a4)] [] x := by
  intro x a2 a3 a4 hf H locs ls hP hS hl
  obtain ⟨hx, hb, -⟩ := id hC
  refine lv_iload hx hb dX5_layTo_8 (lv_at hl 4 rfl) ?_
  refine lv_iconst (v := 1) hx hb dX5_layTo_10 (by decide) ?_
  refine lv_iadd hx hb dX5_layTo_11 ?_
  refine lv_bipush (v := 36) hx hb dX5_layTo_12 (by decide) ?_
  refine lv_icmp_ge (tgt := 89) hx hb dX5_layTo_14 (by decide) (fun c4 => ?_) (fun c4 => ?_)
  · have hf := it_t c4 hf
    exact tX5_layTo_89 hC F x a2 a4 hf H locs ls hP hS (lv_sub hl [0, 2, 4] rfl)
  · have hf := it_f c4 hf
    refine lv_aload_n hx hb dX5_layTo_17 rfl (lv_at hl 0 rfl) ?_
    refine gfX5_17 hC hP dX5_layTo_18 ?_
    refine lv_iload_n hx hb dX5_layTo_21 rfl (lv_at hl 2 rfl) ?_
    obtain ⟨h5, hf⟩ := ck_some hf
    refine gRow hC hP 65 67 (by decide) (eX_65 cy ad _ _) h5 dX5_layTo_22 ?_
    have hw6 := inb_lt h5
    refine lv_iload hx hb dX5_layTo_23 (lv_at hl 4 rfl) ?_
    obtain ⟨h7, hf⟩ := ck_some hf
    refine gIal hC hP (67 + a2.toNatClampNeg) (by omega) (eX_P hw6 cy ad _ _) h7 dX5_layTo_25 ?_
    refine lv_iload_n hx hb dX5_layTo_26 rfl (lv_at hl 3 rfl) ?_
    refine lv_icmp_eq (tgt := 89) hx hb dX5_layTo_27 (by decide) (fun c8 => ?_) (fun c8 => ?_)
    · have hf := it_t c8 hf
      exact tX5_layTo_89 hC F x a2 a4 hf H locs ls hP hS (lv_sub hl [0, 2, 4] rfl)
    · have hf := it_f c8 hf
      refine lv_aload_n hx hb dX5_layTo_30 rfl (lv_at hl 1 rfl) ?_
      refine lv_aload_n hx hb dX5_layTo_31 rfl (lv_at hl 0 rfl) ?_
      refine gfX5_17 hC hP dX5_layTo_32 ?_
      refine lv_iload_n hx hb dX5_layTo_35 rfl (lv_at hl 2 rfl) ?_
      obtain ⟨h9, hf⟩ := ck_some hf
      refine gRow hC hP 65 67 (by decide) (eX_65 cy ad _ _) h9 dX5_layTo_36 ?_
      have hw10 := inb_lt h9
      refine lv_iload hx hb dX5_layTo_37 (lv_at hl 4 rfl) ?_
      obtain ⟨h11, hf⟩ := ck_some hf
      refine gIal hC hP (67 + a2.toNatClampNeg) (by omega) (eX_P hw10 cy ad _ _) h11 dX5_layTo_39 ?_
      refine lv_iload_n hx hb dX5_layTo_40 rfl (lv_at hl 3 rfl) ?_
      obtain ⟨r13, x12, e14, hf⟩ := bd_some hf
      refine gVi (As := [.int (x.1 (67 + a2.toNatClampNeg) a4.toNatClampNeg), .int a3]) (rest := []) (k := 59) hC hP hS (kX0_channelTowards l D cy tX tY ad A hC.2.2.2.2.2.2.2.2.1 F x (x.1 (67 + a2.toNatClampNeg) a4.toNatClampNeg) a3 e14) glX5_41 ⟨rfl, rfl⟩ hdX0_channelTowards ⟨Nat.le_of_ble_eq_true rfl, Nat.le_of_ble_eq_true rfl⟩ (by decide) (eX_59 cy ad _ _) rfl rfl hl.1 rfl (Nat.le_of_ble_eq_true rfl) dX5_layTo_41 ⟨Nat.zero_le _, Nat.zero_le _⟩ (fun H locs hP hS => ?_)
      refine lv_istore (lv' := [(5, .int r13), (0, .ref (ad 63)), (1, .ref (ad 59)), (2, .int a2), (3, .int a3), (4, .int a4)]) hx hb dX5_layTo_44 hl (by decide) rfl (fun ls hl => ?_)
      refine lv_iload hx hb dX5_layTo_46 (lv_at hl 0 rfl) ?_
      refine lv_iconst (v := -1) hx hb dX5_layTo_48 (by decide) ?_
      refine lv_icmp_ne (tgt := 55) hx hb dX5_layTo_49 (by decide) (fun c15 => ?_) (fun c15 => ?_)
      · have hf := it_f c15 hf
        refine lv_aload_n hx hb dX5_layTo_55 rfl (lv_at hl 1 rfl) ?_
        refine gfX5_20 hC hP dX5_layTo_56 ?_
        refine lv_iload_n hx hb dX5_layTo_59 rfl (lv_at hl 3 rfl) ?_
        obtain ⟨h16, hf⟩ := ck_some hf
        refine gRow hC hP 66 77 (by decide) (eX_66 cy ad _ _) h16 dX5_layTo_60 ?_
        have hw17 := inb_lt h16
        refine lv_iload hx hb dX5_layTo_61 (lv_at hl 5 rfl) ?_
        refine lv_iload hx hb dX5_layTo_63 (lv_at hl 0 rfl) ?_
        obtain ⟨h18, hf⟩ := ck_some hf
        refine gIas hC hP hS (77 + a2.toNatClampNeg) (by omega) (fun g9 => eX_Q hw17 cy ad g9 _) h18 dX5_layTo_65 (fun H locs hP hS => ?_)
        obtain ⟨x19, e20, hf⟩ := lt_some hf
        have hP : va_P D vwCl (wG (eX cy ad) 93 ad x19) H := by rw [e20]; exact hP
        refine lv_aload_n hx hb dX5_layTo_66 rfl (lv_at hl 1 rfl) ?_
        refine gfX5_17 hC hP dX5_layTo_67 ?_
        refine lv_iload_n hx hb dX5_layTo_70 rfl (lv_at hl 3 rfl) ?_
        obtain ⟨h21, hf⟩ := ck_some hf
        refine gRow hC hP 65 67 (by decide) (eX_65 cy ad _ _) h21 dX5_layTo_71 ?_
        have hw22 := inb_lt h21
        refine lv_iload hx hb dX5_layTo_72 (lv_at hl 5 rfl) ?_
        refine lv_iconst (v := 1) hx hb dX5_layTo_74 (by decide) ?_
        refine lv_iadd hx hb dX5_layTo_75 ?_
        refine lv_aload_n hx hb dX5_layTo_76 rfl (lv_at hl 2 rfl) ?_
        refine lv_iload hx hb dX5_layTo_77 (lv_at hl 0 rfl) ?_
        obtain ⟨r24, x23, e25, hf⟩ := bd_some hf
        refine gVi (As := [.int r13]) (rest := [.int (a4 + (1 : Int32)), .ref (ad (67 + a2.toNatClampNeg))]) (k := 59) hC hP hS (kX0_endOf l D cy tX tY ad A hC.2.2.2.2.2.2.2.2.1 F x19 r13 e25) glX5_47 ⟨rfl, rfl⟩ hdX0_endOf ⟨Nat.le_of_ble_eq_true rfl, Nat.le_of_ble_eq_true rfl⟩ (by decide) (eX_59 cy ad _ _) rfl rfl hl.1 rfl (Nat.le_of_ble_eq_true rfl) dX5_layTo_79 ⟨Nat.zero_le _, Nat.zero_le _⟩ (fun H locs hP hS => ?_)
        obtain ⟨h26, hf⟩ := ck_some hf
        refine gIas hC hP hS (67 + a2.toNatClampNeg) (by omega) (fun g9 => eX_P hw22 cy ad g9 _) h26 dX5_layTo_82 (fun H locs hP hS => ?_)
        obtain ⟨x27, e28, hf⟩ := lt_some hf
        have hP : va_P D vwCl (wG (eX cy ad) 93 ad x27) H := by rw [e28]; exact hP
        obtain ⟨b29, e30, hf⟩ := lt_some hf
        refine lv_iinc (v := b29) (lv' := [(4, .int b29), (5, .int r13), (0, .ref (ad 63)), (1, .ref (ad 59)), (2, .int a2), (3, .int a3)]) hx hb dX5_layTo_83 hl (k := 5) rfl (by rw [e30]; rfl) (by decide) rfl (fun ls hl => ?_)
        refine lv_goto (tgt := 8) hx hb dX5_layTo_86 (by decide) ?_
        exact hrec8 x27 a2 a3 b29 hf H locs ls hP hS (lv_sub hl [2, 3, 4, 5, 0] rfl)
      · have hf := it_t c15 hf
        refine lv_goto (tgt := 89) hx hb dX5_layTo_52 (by decide) ?_
        exact tX5_layTo_89 hC F x12 a2 a4 hf H locs ls hP hS (lv_sub hl [1, 3, 5] rfl)
theorem tX5_layTo_8 (hC : Cf p s m args meth c cX5_layTo 6 RX5 none D cy tX tY ad A 93) (F : Nat) {z : Unit × HT} : ∀ (n9 : Nat) (x : HT) (a2 : Int32) (a3 : Int32) (a4 : Int32), fX5_layTo_8 F n9 x a2 a3 a4 = some z → Wd p l e { frames := 1, cells := 0, slots := 0, locals := 27 } s m args below meth c D (eX cy ad) 93 ad A (cQv (eX cy ad) 93 ad D A z) 6 8 [(0, .ref (ad 63)), (1, .ref (ad 59)), (2, .int a2), (3, .int a3), (4, .int a4)] [] x := by
  intro n9
  induction n9 with
  | zero => intro x a2 a3 a4 hf; cases hf
  | succ n9 ih => intro x a2 a3 a4 hf; exact tX5_layTo_8b hC F (fX5_layTo_8 F n9) ih x a2 a3 a4 hf
set_option maxHeartbeats 4000000 in
set_option maxRecDepth 100000 in
theorem kX5_layTo (l : Launch) (D : va_G) (cy : Nat → ClassId) (tX tY : Nat) (ad : Nat → Nat) (A : Nat → Prop) (hA : apart ad A 93) (F : Nat) (x : HT) (a2 : Int32) (a3 : Int32) {z : Unit × HT} (hf : fX5_layTo F x a2 a3 = some z) : Met l yX5_layTo (Cond.code yX5_layTo cX5_layTo 6 none :: wAll) { frames := 1, cells := 0, slots := 0, locals := 27 } (cPc (eX cy ad) 93 ad D cy tX tY A [.ref (ad 63), .ref (ad 59), .int a2, .int a3] x) (cQv (eX cy ad) 93 ad D A z) 0 0 A := by
  refine gMet hA (by decide) (Nat.le_of_ble_eq_true rfl) (fun p e s m below meth c hC H locs ls hP hS hl => ?_)
  have hC : Cf p s m _ meth c cX5_layTo 6 RX5 none D cy tX tY ad A 93 := hC
  have hl : lv_has ls 6 [(0, .ref (ad 63)), (1, .ref (ad 59)), (2, .int a2), (3, .int a3)] := hl
  obtain ⟨hx, hb, -⟩ := id hC
  refine lv_aload_n hx hb dX5_layTo_0 rfl (lv_at hl 0 rfl) ?_
  refine gfX5_9 hC hP dX5_layTo_1 ?_
  refine lv_iload_n hx hb dX5_layTo_4 rfl (lv_at hl 2 rfl) ?_
  obtain ⟨h1, hf⟩ := ck_some hf
  refine gIal hC hP 64 (by decide) (eX_64 cy ad _ _) h1 dX5_layTo_5 ?_
  refine lv_topi (fun b2 e3 => ?_)
  have hf := lt_use e3 hf
  refine lv_istore (lv' := [(4, .int b2), (0, .ref (ad 63)), (1, .ref (ad 59)), (2, .int a2), (3, .int a3)]) hx hb dX5_layTo_6 hl (by decide) rfl (fun ls hl => ?_)
  exact tX5_layTo_8 hC F F x a2 a3 b2 hf H locs ls hP hS (lv_sub hl [1, 2, 3, 4, 0] rfl)
set_option maxHeartbeats 4000000 in
set_option maxRecDepth 100000 in
theorem tX5_lay_84 (hC : Cf p s m args meth c cX5_lay 8 RX5 none D cy tX tY ad A 93) (F : Nat) {z : Unit × HT} {j : Nat} (hj : j < 8) (rec52 : HT → Int32 → Int64 → Int32 → Int32 → Option (Unit × HT)) (hrec52 : ∀ (x : HT) (a3 : Int32) (a4 : Int64) (a6 : Int32) (a7 : Int32), rec52 x a3 a4 a6 a7 = some z → Wd p l e { frames := 2, cells := 0, slots := 0, locals := 52 } s m args below meth c D (eX cy ad) 93 ad A (cQv (eX cy ad) 93 ad D A z) 8 52 [(0, .ref (ad 63)), (1, .ref (ad 59)), (3, .int a3), (4, .long a4), (6, .int a6), (7, .int a7)] [] x) : ∀ (x : HT) (a3 : Int32) (a4 : Int64) (a6 : Int32) (a7 : Int32), fX5_lay_84 F rec52 j x a3 a4 a6 a7 = some z → Wd p l e { frames := 2, cells := 0, slots := 0, locals := 52 } s m args below meth c D (eX cy ad) 93 ad A (cQv (eX cy ad) 93 ad D A z) 8 84 [(0, .ref (ad 63)), (1, .ref (ad 59)), (3, .int a3), (4, .long a4), (6, .int a6), (7, .int a7)] [] x := by
  intro x a3 a4 a6 a7 hf H locs ls hP hS hl
  obtain ⟨hx, hb, -⟩ := id hC
  refine lv_iload hx hb dX5_lay_84 (lv_at hl 5 rfl) ?_
  refine lv_iload hx hb dX5_lay_86 (lv_at hl 4 rfl) ?_
  refine lv_iadd hx hb dX5_lay_88 ?_
  refine lv_topi (fun b30 e31 => ?_)
  have hf := lt_use e31 hf
  refine lv_istore (lv' := [(7, .int b30), (0, .ref (ad 63)), (1, .ref (ad 59)), (3, .int a3), (4, .long a4), (6, .int a6)]) hx hb dX5_lay_89 hl (by decide) rfl (fun ls hl => ?_)
  refine lv_goto (tgt := 52) hx hb dX5_lay_91 (by decide) ?_
  exact hrec52 x a3 a4 a6 b30 hf H locs ls hP hS (lv_sub hl [1, 2, 3, 4, 5, 0] rfl)
set_option maxHeartbeats 4000000 in
set_option maxRecDepth 100000 in
theorem tX5_lay_52b (hC : Cf p s m args meth c cX5_lay 8 RX5 none D cy tX tY ad A 93) (F : Nat) {z : Unit × HT} {j : Nat} (hj : j < 8) (rec52 : HT → Int32 → Int64 → Int32 → Int32 → Option (Unit × HT)) (hrec52 : ∀ (x : HT) (a3 : Int32) (a4 : Int64) (a6 : Int32) (a7 : Int32), rec52 x a3 a4 a6 a7 = some z → Wd p l e { frames := 2, cells := 0, slots := 0, locals := 52 } s m args below meth c D (eX cy ad) 93 ad A (cQv (eX cy ad) 93 ad D A z) 8 52 [(0, .ref (ad 63)), (1, .ref (ad 59)), (3, .int a3), (4, .long a4), (6, .int a6), (7, .int a7)] [] x) : ∀ (x : HT) (a3 : Int32) (a4 : Int64) (a6 : Int32) (a7 : Int32), fX5_lay_52b F rec52 j x a3 a4 a6 a7 = some z → Wd p l e { frames := 2, cells := 0, slots := 0, locals := 52 } s m args below meth c D (eX cy ad) 93 ad A (cQv (eX cy ad) 93 ad D A z) 8 52 [(0, .ref (ad 63)), (1, .ref (ad 59)), (3, .int a3), (4, .long a4), (6, .int a6), (7, .int a7)] [] x := by
  intro x a3 a4 a6 a7 hf H locs ls hP hS hl
  obtain ⟨hx, hb, -⟩ := id hC
  refine lv_iload hx hb dX5_lay_52 (lv_at hl 5 rfl) ?_
  refine lv_if_lt (tgt := 94) hx hb dX5_lay_54 (by decide) (fun c24 => ?_) (fun c24 => ?_)
  · have hf := it_t c24 hf
    exact gVret hC hP hS hf dX5_lay_94
  · have hf := it_f c24 hf
    refine lv_iload hx hb dX5_lay_57 (lv_at hl 5 rfl) ?_
    refine lv_bipush (v := 36) hx hb dX5_lay_59 (by decide) ?_
    refine lv_icmp_ge (tgt := 94) hx hb dX5_lay_61 (by decide) (fun c25 => ?_) (fun c25 => ?_)
    · have hf := it_t c25 hf
      exact gVret hC hP hS hf dX5_lay_94
    · have hf := it_f c25 hf
      refine lv_lload hx hb dX5_lay_64 (lv_at hl 3 rfl) ?_
      refine lv_iload hx hb dX5_lay_66 (lv_at hl 5 rfl) ?_
      refine lv_lshr hx hb dX5_lay_68 rfl ?_
      refine lv_lconst (v := 1) hx hb dX5_lay_69 (by decide) ?_
      refine lv_land hx hb dX5_lay_70 ?_
      refine lv_lconst (v := 0) hx hb dX5_lay_71 (by decide) ?_
      refine W.lcmp hx hb dX5_lay_72 ?_
      refine lv_if_eq (tgt := 84) hx hb dX5_lay_73 (by decide) (fun c26 => ?_) (fun c26 => ?_)
      · have hf := it_t c26 hf
        exact tX5_lay_84 hC F hj rec52 hrec52 x a3 a4 a6 a7 hf H locs ls hP hS (lv_sub hl [0, 1, 2, 3, 4, 5] rfl)
      · have hf := it_f c26 hf
        refine lv_aload_n hx hb dX5_lay_76 rfl (lv_at hl 0 rfl) ?_
        refine lv_aload_n hx hb dX5_lay_77 rfl (lv_at hl 1 rfl) ?_
        refine lv_iload_n hx hb dX5_lay_78 rfl (lv_at hl 2 rfl) ?_
        refine lv_iload hx hb dX5_lay_79 (lv_at hl 5 rfl) ?_
        obtain ⟨r28, x27, e29, hf⟩ := bd_some hf
        refine gVv (As := [.ref (ad 59), .int a3, .int a7]) (rest := []) (k := 63) hC hP hS (kX5_layTo l D cy tX tY ad A hC.2.2.2.2.2.2.2.2.1 F x a3 a7 e29) glX5_37 ⟨rfl, rfl⟩ hdX5_layTo ⟨Nat.le_of_ble_eq_true rfl, Nat.le_of_ble_eq_true rfl⟩ (by decide) (eX_63 cy ad _ _) rfl rfl hl.1 rfl (Nat.le_of_ble_eq_true rfl) dX5_lay_81 ⟨Nat.zero_le _, Nat.zero_le _⟩ (fun H locs hP hS => ?_)
        exact tX5_lay_84 hC F hj rec52 hrec52 x27 a3 a4 a6 a7 hf H locs ls hP hS (lv_sub hl [0, 1, 2, 3, 4, 5] rfl)
theorem tX5_lay_52 (hC : Cf p s m args meth c cX5_lay 8 RX5 none D cy tX tY ad A 93) (F : Nat) {z : Unit × HT} {j : Nat} (hj : j < 8) : ∀ (n9 : Nat) (x : HT) (a3 : Int32) (a4 : Int64) (a6 : Int32) (a7 : Int32), fX5_lay_52 F j n9 x a3 a4 a6 a7 = some z → Wd p l e { frames := 2, cells := 0, slots := 0, locals := 52 } s m args below meth c D (eX cy ad) 93 ad A (cQv (eX cy ad) 93 ad D A z) 8 52 [(0, .ref (ad 63)), (1, .ref (ad 59)), (3, .int a3), (4, .long a4), (6, .int a6), (7, .int a7)] [] x := by
  intro n9
  induction n9 with
  | zero => intro x a3 a4 a6 a7 hf; cases hf
  | succ n9 ih => intro x a3 a4 a6 a7 hf; exact tX5_lay_52b hC F hj (fX5_lay_52 F j n9) ih x a3 a4 a6 a7 hf
set_option maxHeartbeats 4000000 in
set_option maxRecDepth 100000 in
theorem tX5_lay_20 (hC : Cf p s m args meth c cX5_lay 8 RX5 none D cy tX tY ad A 93) (F : Nat) {z : Unit × HT} {j : Nat} (hj : j < 8) : ∀ (x : HT) (a3 : Int32) (a4 : Int64) (t0 : Int32), fX5_lay_20 F j x a3 a4 t0 = some z → Wd p l e { frames := 2, cells := 0, slots := 0, locals := 52 } s m args below meth c D (eX cy ad) 93 ad A (cQv (eX cy ad) 93 ad D A z) 8 20 [(0, .ref (ad 63)), (1, .ref (ad 59)), (2, .ref (ad (7 * j + 1))), (3, .int a3), (4, .long a4)] [.int t0] x := by
  intro x a3 a4 t0 hf H locs ls hP hS hl
  obtain ⟨hx, hb, -⟩ := id hC
  refine lv_istore (lv' := [(6, .int t0), (0, .ref (ad 63)), (1, .ref (ad 59)), (2, .ref (ad (7 * j + 1))), (3, .int a3), (4, .long a4)]) hx hb dX5_lay_20 hl (by decide) rfl (fun ls hl => ?_)
  refine lv_aload_n hx hb dX5_lay_22 rfl (lv_at hl 1 rfl) ?_
  refine gfX5_9 hC hP dX5_lay_23 ?_
  refine lv_iload_n hx hb dX5_lay_26 rfl (lv_at hl 4 rfl) ?_
  refine lv_iconst (v := 0) hx hb dX5_lay_27 (by decide) ?_
  obtain ⟨h8, hf⟩ := ck_some hf
  refine gIas hC hP hS 64 (by decide) (fun g9 => eX_64 cy ad g9 _) h8 dX5_lay_28 (fun H locs hP hS => ?_)
  obtain ⟨x9, e10, hf⟩ := lt_some hf
  have hP : va_P D vwCl (wG (eX cy ad) 93 ad x9) H := by rw [e10]; exact hP
  refine lv_aload_n hx hb dX5_lay_29 rfl (lv_at hl 1 rfl) ?_
  refine gfX5_17 hC hP dX5_lay_30 ?_
  refine lv_iload_n hx hb dX5_lay_33 rfl (lv_at hl 4 rfl) ?_
  obtain ⟨h11, hf⟩ := ck_some hf
  refine gRow hC hP 65 67 (by decide) (eX_65 cy ad _ _) h11 dX5_lay_34 ?_
  have hw12 := inb_lt h11
  refine lv_iconst (v := 0) hx hb dX5_lay_35 (by decide) ?_
  refine lv_aload_n hx hb dX5_lay_36 rfl (lv_at hl 3 rfl) ?_
  refine lv_iload_n hx hb dX5_lay_37 rfl (lv_at hl 4 rfl) ?_
  obtain ⟨r14, x13, e15, hf⟩ := bd_some hf
  refine gVi (As := [.int a3]) (rest := [.int (0 : Int32), .ref (ad (67 + a3.toNatClampNeg))]) (k := (7 * j + 1)) hC hP hS (kX2_sourceOf l D cy tX tY ad A hC.2.2.2.2.2.2.2.2.1 F (j := j) hj x9 a3 e15) glX5_33 ⟨rfl, rfl⟩ hdX2_sourceOf ⟨Nat.le_of_ble_eq_true rfl, Nat.le_of_ble_eq_true rfl⟩ (by omega) (eX_S hj cy ad _ _) rfl rfl hl.1 rfl (Nat.le_of_ble_eq_true rfl) dX5_lay_38 ⟨Nat.zero_le _, Nat.zero_le _⟩ (fun H locs hP hS => ?_)
  obtain ⟨h16, hf⟩ := ck_some hf
  refine gIas hC hP hS (67 + a3.toNatClampNeg) (by omega) (fun g9 => eX_P hw12 cy ad g9 _) h16 dX5_lay_41 (fun H locs hP hS => ?_)
  obtain ⟨x17, e18, hf⟩ := lt_some hf
  have hP : va_P D vwCl (wG (eX cy ad) 93 ad x17) H := by rw [e18]; exact hP
  refine lv_aload_n hx hb dX5_lay_42 rfl (lv_at hl 3 rfl) ?_
  refine lv_iload_n hx hb dX5_lay_43 rfl (lv_at hl 4 rfl) ?_
  obtain ⟨r20, x19, e21, hf⟩ := bd_some hf
  refine gVi (As := [.int a3]) (rest := []) (k := (7 * j + 1)) hC hP hS (kX2_sourceOf l D cy tX tY ad A hC.2.2.2.2.2.2.2.2.1 F (j := j) hj x17 a3 e21) glX5_33 ⟨rfl, rfl⟩ hdX2_sourceOf ⟨Nat.le_of_ble_eq_true rfl, Nat.le_of_ble_eq_true rfl⟩ (by omega) (eX_S hj cy ad _ _) rfl rfl hl.1 rfl (Nat.le_of_ble_eq_true rfl) dX5_lay_44 ⟨Nat.zero_le _, Nat.zero_le _⟩ (fun H locs hP hS => ?_)
  refine lv_iload hx hb dX5_lay_47 (lv_at hl 0 rfl) ?_
  refine lv_iadd hx hb dX5_lay_49 ?_
  refine lv_topi (fun b22 e23 => ?_)
  have hf := lt_use e23 hf
  refine lv_istore (lv' := [(7, .int b22), (6, .int t0), (0, .ref (ad 63)), (1, .ref (ad 59)), (2, .ref (ad (7 * j + 1))), (3, .int a3), (4, .long a4)]) hx hb dX5_lay_50 hl (by decide) rfl (fun ls hl => ?_)
  exact tX5_lay_52 hC F hj F x19 a3 a4 t0 b22 hf H locs ls hP hS (lv_sub hl [2, 3, 5, 6, 1, 0] rfl)
set_option maxHeartbeats 4000000 in
set_option maxRecDepth 100000 in
theorem kX5_lay (l : Launch) (D : va_G) (cy : Nat → ClassId) (tX tY : Nat) (ad : Nat → Nat) (A : Nat → Prop) (hA : apart ad A 93) (F : Nat) {j : Nat} (hj : j < 8) (x : HT) (a3 : Int32) {z : Unit × HT} (hf : fX5_lay F j x a3 = some z) : Met l yX5_lay (Cond.code yX5_lay cX5_lay 8 none :: wAll) { frames := 2, cells := 0, slots := 0, locals := 52 } (cPc (eX cy ad) 93 ad D cy tX tY A [.ref (ad 63), .ref (ad 59), .ref (ad (7 * j + 1)), .int a3] x) (cQv (eX cy ad) 93 ad D A z) 0 0 A := by
  refine gMet hA (by decide) (Nat.le_of_ble_eq_true rfl) (fun p e s m below meth c hC H locs ls hP hS hl => ?_)
  have hC : Cf p s m _ meth c cX5_lay 8 RX5 none D cy tX tY ad A 93 := hC
  have hl : lv_has ls 8 [(0, .ref (ad 63)), (1, .ref (ad 59)), (2, .ref (ad (7 * j + 1))), (3, .int a3)] := hl
  obtain ⟨hx, hb, -⟩ := id hC
  refine lv_aload_n hx hb dX5_lay_0 rfl (lv_at hl 2 rfl) ?_
  refine lv_iload_n hx hb dX5_lay_1 rfl (lv_at hl 3 rfl) ?_
  obtain ⟨r2, x1, e3, hf⟩ := bd_some hf
  refine gVl (As := [.int a3]) (rest := []) (k := (7 * j + 1)) hC hP hS (kX2_goalsOfWorm l D cy tX tY ad A hC.2.2.2.2.2.2.2.2.1 F (j := j) hj x a3 e3) glX5_23 ⟨rfl, rfl⟩ hdX2_goalsOfWorm ⟨Nat.le_of_ble_eq_true rfl, Nat.le_of_ble_eq_true rfl⟩ (by omega) (eX_S hj cy ad _ _) rfl rfl hl.1 rfl (Nat.le_of_ble_eq_true rfl) dX5_lay_2 ⟨Nat.zero_le _, Nat.zero_le _⟩ (fun H locs hP hS => ?_)
  refine lv_lstore (lv' := [(4, .long r2), (0, .ref (ad 63)), (1, .ref (ad 59)), (2, .ref (ad (7 * j + 1))), (3, .int a3)]) hx hb dX5_lay_5 hl (by decide) rfl (fun ls hl => ?_)
  refine lv_aload_n hx hb dX5_lay_7 rfl (lv_at hl 3 rfl) ?_
  refine lv_iload_n hx hb dX5_lay_8 rfl (lv_at hl 4 rfl) ?_
  obtain ⟨r5, x4, e6, hf⟩ := bd_some hf
  refine gVi (As := [.int a3]) (rest := []) (k := (7 * j + 1)) hC hP hS (kX2_rises l D cy tX tY ad A hC.2.2.2.2.2.2.2.2.1 F (j := j) hj x1 a3 e6) glX5_29 ⟨rfl, rfl⟩ hdX2_rises ⟨Nat.le_of_ble_eq_true rfl, Nat.le_of_ble_eq_true rfl⟩ (by omega) (eX_S hj cy ad _ _) rfl rfl hl.1 rfl (Nat.le_of_ble_eq_true rfl) dX5_lay_9 ⟨Nat.zero_le _, Nat.zero_le _⟩ (fun H locs hP hS => ?_)
  refine lv_if_eq (tgt := 19) hx hb dX5_lay_12 (by decide) (fun c7 => ?_) (fun c7 => ?_)
  · have hf := it_t c7 hf
    refine lv_iconst (v := -1) hx hb dX5_lay_19 (by decide) ?_
    exact tX5_lay_20 hC F hj x4 a3 r2 (-1 : Int32) hf H locs ls hP hS (lv_sub hl [1, 2, 3, 4, 0] rfl)
  · have hf := it_f c7 hf
    refine lv_iconst (v := 1) hx hb dX5_lay_15 (by decide) ?_
    refine lv_goto (tgt := 20) hx hb dX5_lay_16 (by decide) ?_
    exact tX5_lay_20 hC F hj x4 a3 r2 (1 : Int32) hf H locs ls hP hS (lv_sub hl [1, 2, 3, 4, 0] rfl)
