variable {p : Program} {l : Launch} {e : Env} {s : State} {m : MethodId} {args : Array Value} {below : List Frame} {meth : Method} {c : Code} {D : va_G} {cy : Nat → ClassId} {tX tY : Nat} {ad : Nat → Nat} {A : Nat → Prop}
set_option maxHeartbeats 4000000 in
set_option maxRecDepth 100000 in
theorem kX6_layMessage (l : Launch) (D : va_G) (cy : Nat → ClassId) (tX tY : Nat) (ad : Nat → Nat) (A : Nat → Prop) (hA : apart ad A 93) (F : Nat) (x : HT) (a1 : Int32) {z : Unit × HT} (hf : fX6_layMessage F x a1 = some z) : Met l yX6_layMessage (Cond.code yX6_layMessage cX6_layMessage 2 none :: wAll) { frames := 3, cells := 0, slots := 0, locals := 79 } (cPc (eX cy ad) 93 ad D cy tX tY A [.ref (ad 0), .int a1] x) (cQv (eX cy ad) 93 ad D A z) 0 0 A := by
  refine gMet hA (by decide) (Nat.le_of_ble_eq_true rfl) (fun p e s m below meth c hC H locs ls hP hS hl => ?_)
  have hC : Cf p s m _ meth c cX6_layMessage 2 RX6 none D cy tX tY ad A 93 := hC
  have hl : lv_has ls 2 [(0, .ref (ad 0)), (1, .int a1)] := hl
  obtain ⟨hx, hb, -⟩ := id hC
  refine lv_aload_n hx hb dX6_layMessage_0 rfl (lv_at hl 0 rfl) ?_
  refine gfX6_39 hC hP dX6_layMessage_1 ?_
  refine lv_aload_n hx hb dX6_layMessage_4 rfl (lv_at hl 0 rfl) ?_
  refine gfX6_32 hC hP dX6_layMessage_5 ?_
  refine lv_aload_n hx hb dX6_layMessage_8 rfl (lv_at hl 0 rfl) ?_
  refine gfX6_12 hC hP dX6_layMessage_9 ?_
  refine lv_iload_n hx hb dX6_layMessage_12 rfl (lv_at hl 1 rfl) ?_
  refine lv_iconst (v := 2) hx hb dX6_layMessage_13 (by decide) ?_
  refine lv_imul hx hb dX6_layMessage_14 ?_
  obtain ⟨r2, x1, e3, hf⟩ := bd_some hf
  refine gVv (As := [.ref (ad 59), .ref (ad (7 * 0 + 1)), .int (a1 * (2 : Int32))]) (rest := []) (k := 63) hC hP hS (kX5_lay l D cy tX tY ad A hC.2.2.2.2.2.2.2.2.1 F (j := 0) (by decide) x (a1 * (2 : Int32)) e3) glX6_320 ⟨rfl, rfl⟩ hdX5_lay ⟨Nat.le_of_ble_eq_true rfl, Nat.le_of_ble_eq_true rfl⟩ (by decide) (eX_63 cy ad _ _) rfl rfl hl.1 rfl (Nat.le_of_ble_eq_true rfl) dX6_layMessage_15 ⟨Nat.zero_le _, Nat.zero_le _⟩ (fun H locs hP hS => ?_)
  refine lv_aload_n hx hb dX6_layMessage_18 rfl (lv_at hl 0 rfl) ?_
  refine gfX6_39 hC hP dX6_layMessage_19 ?_
  refine lv_aload_n hx hb dX6_layMessage_22 rfl (lv_at hl 0 rfl) ?_
  refine gfX6_32 hC hP dX6_layMessage_23 ?_
  refine lv_aload_n hx hb dX6_layMessage_26 rfl (lv_at hl 0 rfl) ?_
  refine gfX6_12 hC hP dX6_layMessage_27 ?_
  refine lv_iload_n hx hb dX6_layMessage_30 rfl (lv_at hl 1 rfl) ?_
  refine lv_iconst (v := 2) hx hb dX6_layMessage_31 (by decide) ?_
  refine lv_imul hx hb dX6_layMessage_32 ?_
  refine lv_iconst (v := 1) hx hb dX6_layMessage_33 (by decide) ?_
  refine lv_iadd hx hb dX6_layMessage_34 ?_
  obtain ⟨r5, x4, e6, hf⟩ := bd_some hf
  refine gVv (As := [.ref (ad 59), .ref (ad (7 * 0 + 1)), .int ((a1 * (2 : Int32)) + (1 : Int32))]) (rest := []) (k := 63) hC hP hS (kX5_lay l D cy tX tY ad A hC.2.2.2.2.2.2.2.2.1 F (j := 0) (by decide) x1 ((a1 * (2 : Int32)) + (1 : Int32)) e6) glX6_320 ⟨rfl, rfl⟩ hdX5_lay ⟨Nat.le_of_ble_eq_true rfl, Nat.le_of_ble_eq_true rfl⟩ (by decide) (eX_63 cy ad _ _) rfl rfl hl.1 rfl (Nat.le_of_ble_eq_true rfl) dX6_layMessage_35 ⟨Nat.zero_le _, Nat.zero_le _⟩ (fun H locs hP hS => ?_)
  exact gVret hC hP hS hf dX6_layMessage_38
set_option maxHeartbeats 4000000 in
set_option maxRecDepth 100000 in
theorem tX6_addMessage_56 (hC : Cf p s m args meth c cX6_addMessage 5 RX6 (some .int) D cy tX tY ad A 93) (F : Nat) {z : Int32 × HT} : ∀ (x : HT) (a4 : Int32), fX6_addMessage_56 F x a4 = some z → Wd p l e { frames := 4, cells := 0, slots := 0, locals := 100 } s m args below meth c D (eX cy ad) 93 ad A (cQi (eX cy ad) 93 ad D A z) 5 56 [(4, .int a4)] [] x := by
  intro x a4 hf H locs ls hP hS hl
  obtain ⟨hx, hb, -⟩ := id hC
  refine lv_iload hx hb dX6_addMessage_56 (lv_at hl 0 rfl) ?_
  exact gIret hC hP hS hf dX6_addMessage_58
set_option maxHeartbeats 4000000 in
set_option maxRecDepth 100000 in
theorem tX6_addMessage_23 (hC : Cf p s m args meth c cX6_addMessage 5 RX6 (some .int) D cy tX tY ad A 93) (F : Nat) {z : Int32 × HT} : ∀ (x : HT), fX6_addMessage_23 F x = some z → Wd p l e { frames := 4, cells := 0, slots := 0, locals := 100 } s m args below meth c D (eX cy ad) 93 ad A (cQi (eX cy ad) 93 ad D A z) 5 23 [] [] x := by
  intro x hf H locs ls hP hS hl
  obtain ⟨hx, hb, -⟩ := id hC
  refine lv_bipush (v := -2) hx hb dX6_addMessage_23 (by decide) ?_
  exact gIret hC hP hS hf dX6_addMessage_25
set_option maxHeartbeats 4000000 in
set_option maxRecDepth 100000 in
theorem kX6_addMessage (l : Launch) (D : va_G) (cy : Nat → ClassId) (tX tY : Nat) (ad : Nat → Nat) (A : Nat → Prop) (hA : apart ad A 93) (F : Nat) (x : HT) (a1 : Int32) (a2 : Int32) (a3 : Int32) {z : Int32 × HT} (hf : fX6_addMessage F x a1 a2 a3 = some z) : Met l yX6_addMessage (Cond.code yX6_addMessage cX6_addMessage 5 (some .int) :: wAll) { frames := 4, cells := 0, slots := 0, locals := 100 } (cPc (eX cy ad) 93 ad D cy tX tY A [.ref (ad 0), .int a1, .int a2, .int a3] x) (cQi (eX cy ad) 93 ad D A z) 0 0 A := by
  refine gMet hA (by decide) (Nat.le_of_ble_eq_true rfl) (fun p e s m below meth c hC H locs ls hP hS hl => ?_)
  have hC : Cf p s m _ meth c cX6_addMessage 5 RX6 (some .int) D cy tX tY ad A 93 := hC
  have hl : lv_has ls 5 [(0, .ref (ad 0)), (1, .int a1), (2, .int a2), (3, .int a3)] := hl
  obtain ⟨hx, hb, -⟩ := id hC
  refine lv_aload_n hx hb dX6_addMessage_0 rfl (lv_at hl 0 rfl) ?_
  refine gfX6_32 hC hP dX6_addMessage_1 ?_
  refine lv_iload_n hx hb dX6_addMessage_4 rfl (lv_at hl 1 rfl) ?_
  refine lv_iload_n hx hb dX6_addMessage_5 rfl (lv_at hl 2 rfl) ?_
  obtain ⟨r2, x1, e3, hf⟩ := bd_some hf
  refine gVi (As := [.int a1, .int a2]) (rest := []) (k := 59) hC hP hS (kX0_has l D cy tX tY ad A hC.2.2.2.2.2.2.2.2.1 F x a1 a2 e3) glX6_93 ⟨rfl, rfl⟩ hdX0_has ⟨Nat.le_of_ble_eq_true rfl, Nat.le_of_ble_eq_true rfl⟩ (by decide) (eX_59 cy ad _ _) rfl rfl hl.1 rfl (Nat.le_of_ble_eq_true rfl) dX6_addMessage_6 ⟨Nat.zero_le _, Nat.zero_le _⟩ (fun H locs hP hS => ?_)
  refine lv_if_eq (tgt := 23) hx hb dX6_addMessage_9 (by decide) (fun c4 => ?_) (fun c4 => ?_)
  · have hf := it_t c4 hf
    exact tX6_addMessage_23 hC F x1 hf H locs ls hP hS (lv_sub hl [] rfl)
  · have hf := it_f c4 hf
    refine lv_iload_n hx hb dX6_addMessage_12 rfl (lv_at hl 3 rfl) ?_
    refine lv_iconst (v := 1) hx hb dX6_addMessage_13 (by decide) ?_
    refine lv_icmp_lt (tgt := 23) hx hb dX6_addMessage_14 (by decide) (fun c5 => ?_) (fun c5 => ?_)
    · have hf := it_t c5 hf
      exact tX6_addMessage_23 hC F x1 hf H locs ls hP hS (lv_sub hl [] rfl)
    · have hf := it_f c5 hf
      refine lv_iload_n hx hb dX6_addMessage_17 rfl (lv_at hl 3 rfl) ?_
      refine lv_bipush (v := 9) hx hb dX6_addMessage_18 (by decide) ?_
      refine lv_icmp_le (tgt := 26) hx hb dX6_addMessage_20 (by decide) (fun c6 => ?_) (fun c6 => ?_)
      · have hf := it_t c6 hf
        refine lv_aload_n hx hb dX6_addMessage_26 rfl (lv_at hl 0 rfl) ?_
        refine gfX6_12 hC hP dX6_addMessage_27 ?_
        refine lv_aload_n hx hb dX6_addMessage_30 rfl (lv_at hl 0 rfl) ?_
        refine gfX6_32 hC hP dX6_addMessage_31 ?_
        refine lv_iload_n hx hb dX6_addMessage_34 rfl (lv_at hl 1 rfl) ?_
        refine lv_iload_n hx hb dX6_addMessage_35 rfl (lv_at hl 2 rfl) ?_
        obtain ⟨r8, x7, e9, hf⟩ := bd_some hf
        refine gVi (As := [.int a1, .int a2]) (rest := [.ref (ad (7 * 0 + 1))]) (k := 59) hC hP hS (kX0_labelAt l D cy tX tY ad A hC.2.2.2.2.2.2.2.2.1 F x1 a1 a2 e9) glX6_97 ⟨rfl, rfl⟩ hdX0_labelAt ⟨Nat.le_of_ble_eq_true rfl, Nat.le_of_ble_eq_true rfl⟩ (by decide) (eX_59 cy ad _ _) rfl rfl hl.1 rfl (Nat.le_of_ble_eq_true rfl) dX6_addMessage_36 ⟨Nat.zero_le _, Nat.zero_le _⟩ (fun H locs hP hS => ?_)
        refine lv_iload_n hx hb dX6_addMessage_39 rfl (lv_at hl 3 rfl) ?_
        obtain ⟨r11, x10, e12, hf⟩ := bd_some hf
        refine gVi (As := [.int r8, .int a3]) (rest := []) (k := (7 * 0 + 1)) hC hP hS (kX2_addMessage l D cy tX tY ad A hC.2.2.2.2.2.2.2.2.1 F (j := 0) (by decide) x7 r8 a3 e12) glX6_220 ⟨rfl, rfl⟩ hdX2_addMessage ⟨Nat.le_of_ble_eq_true rfl, Nat.le_of_ble_eq_true rfl⟩ (by omega) (eX_S (by decide) cy ad _ _) rfl rfl hl.1 rfl (Nat.le_of_ble_eq_true rfl) dX6_addMessage_40 ⟨Nat.zero_le _, Nat.zero_le _⟩ (fun H locs hP hS => ?_)
        refine lv_istore (lv' := [(4, .int r11), (0, .ref (ad 0)), (1, .int a1), (2, .int a2), (3, .int a3)]) hx hb dX6_addMessage_43 hl (by decide) rfl (fun ls hl => ?_)
        refine lv_iload hx hb dX6_addMessage_45 (lv_at hl 0 rfl) ?_
        refine lv_if_lt (tgt := 56) hx hb dX6_addMessage_47 (by decide) (fun c13 => ?_) (fun c13 => ?_)
        · have hf := it_t c13 hf
          exact tX6_addMessage_56 hC F x10 r11 hf H locs ls hP hS (lv_sub hl [0] rfl)
        · have hf := it_f c13 hf
          refine lv_aload_n hx hb dX6_addMessage_50 rfl (lv_at hl 1 rfl) ?_
          refine lv_iload hx hb dX6_addMessage_51 (lv_at hl 0 rfl) ?_
          obtain ⟨r15, x14, e16, hf⟩ := bd_some hf
          refine gVv (As := [.int r11]) (rest := []) (k := 0) hC hP hS (kX6_layMessage l D cy tX tY ad A hC.2.2.2.2.2.2.2.2.1 F x10 r11 e16) glX6_222 ⟨rfl, rfl⟩ hdX6_layMessage ⟨Nat.le_of_ble_eq_true rfl, Nat.le_of_ble_eq_true rfl⟩ (by decide) (eX_0 cy ad _ _) rfl rfl hl.1 rfl (Nat.le_of_ble_eq_true rfl) dX6_addMessage_53 ⟨Nat.zero_le _, Nat.zero_le _⟩ (fun H locs hP hS => ?_)
          exact tX6_addMessage_56 hC F x14 r11 hf H locs ls hP hS (lv_sub hl [0] rfl)
      · have hf := it_f c6 hf
        exact tX6_addMessage_23 hC F x1 hf H locs ls hP hS (lv_sub hl [] rfl)
set_option maxHeartbeats 4000000 in
set_option maxRecDepth 100000 in
theorem kX6_message (l : Launch) (D : va_G) (cy : Nat → ClassId) (tX tY : Nat) (ad : Nat → Nat) (A : Nat → Prop) (hA : apart ad A 93) (F : Nat) (x : HT) (a1 : Int32) (a2 : Int32) (a3 : Int32) {z : Int32 × HT} (hf : fX6_message F x a1 a2 a3 = some z) : Met l yX6_message (Cond.code yX6_message cX6_message 4 (some .int) :: wAll) { frames := 5, cells := 0, slots := 0, locals := 124 } (cPc (eX cy ad) 93 ad D cy tX tY A [.ref (ad 0), .int a1, .int a2, .int a3] x) (cQi (eX cy ad) 93 ad D A z) 0 0 A := by
  refine gMet hA (by decide) (Nat.le_of_ble_eq_true rfl) (fun p e s m below meth c hC H locs ls hP hS hl => ?_)
  have hC : Cf p s m _ meth c cX6_message 4 RX6 (some .int) D cy tX tY ad A 93 := hC
  have hl : lv_has ls 4 [(0, .ref (ad 0)), (1, .int a1), (2, .int a2), (3, .int a3)] := hl
  obtain ⟨hx, hb, -⟩ := id hC
  refine lv_aload_n hx hb dX6_message_0 rfl (lv_at hl 0 rfl) ?_
  refine gfX6_16 hC hP dX6_message_1 ?_
  refine lv_aload_n hx hb dX6_message_4 rfl (lv_at hl 0 rfl) ?_
  refine gfX6_12 hC hP dX6_message_5 ?_
  obtain ⟨r2, x1, e3, hf⟩ := bd_some hf
  refine gVv (As := [.ref (ad (7 * 0 + 1))]) (rest := []) (k := (7 * 1 + 1)) hC hP hS (kX2_copyFrom l D cy tX tY ad A hC.2.2.2.2.2.2.2.2.1 F (j := 1) (j2 := 0) (by decide) (by decide) x e3) glX6_64 ⟨rfl, rfl⟩ hdX2_copyFrom ⟨Nat.le_of_ble_eq_true rfl, Nat.le_of_ble_eq_true rfl⟩ (by omega) (eX_S (by decide) cy ad _ _) rfl rfl hl.1 rfl (Nat.le_of_ble_eq_true rfl) dX6_message_8 ⟨Nat.zero_le _, Nat.zero_le _⟩ (fun H locs hP hS => ?_)
  refine lv_aload_n hx hb dX6_message_11 rfl (lv_at hl 0 rfl) ?_
  refine lv_aload_n hx hb dX6_message_12 rfl (lv_at hl 0 rfl) ?_
  refine lv_iload_n hx hb dX6_message_13 rfl (lv_at hl 1 rfl) ?_
  refine lv_iload_n hx hb dX6_message_14 rfl (lv_at hl 2 rfl) ?_
  refine lv_iload_n hx hb dX6_message_15 rfl (lv_at hl 3 rfl) ?_
  obtain ⟨r5, x4, e6, hf⟩ := bd_some hf
  refine gVi (As := [.int a1, .int a2, .int a3]) (rest := [.ref (ad 0)]) (k := 0) hC hP hS (kX6_addMessage l D cy tX tY ad A hC.2.2.2.2.2.2.2.2.1 F x1 a1 a2 a3 e6) glX6_76 ⟨rfl, rfl⟩ hdX6_addMessage ⟨Nat.le_of_ble_eq_true rfl, Nat.le_of_ble_eq_true rfl⟩ (by decide) (eX_0 cy ad _ _) rfl rfl hl.1 rfl (Nat.le_of_ble_eq_true rfl) dX6_message_16 ⟨Nat.zero_le _, Nat.zero_le _⟩ (fun H locs hP hS => ?_)
  obtain ⟨r8, x7, e9, hf⟩ := bd_some hf
  refine gVi (As := [.int r5]) (rest := []) (k := 0) hC hP hS (kX6_settle l D cy tX tY ad A hC.2.2.2.2.2.2.2.2.1 F x4 r5 e9) glX6_72 ⟨rfl, rfl⟩ hdX6_settle ⟨Nat.le_of_ble_eq_true rfl, Nat.le_of_ble_eq_true rfl⟩ (by decide) (eX_0 cy ad _ _) rfl rfl hl.1 rfl (Nat.le_of_ble_eq_true rfl) dX6_message_19 ⟨Nat.zero_le _, Nat.zero_le _⟩ (fun H locs hP hS => ?_)
  exact gIret hC hP hS hf dX6_message_22
set_option maxHeartbeats 4000000 in
set_option maxRecDepth 100000 in
theorem tX6_hasMessage_19 (hC : Cf p s m args meth c cX6_hasMessage 2 RX6 (some .boolean) D cy tX tY ad A 93) (F : Nat) {z : Int32 × HT} : ∀ (x : HT), fX6_hasMessage_19 F x = some z → Wd p l e { frames := 0, cells := 0, slots := 0, locals := 0 } s m args below meth c D (eX cy ad) 93 ad A (cQi (eX cy ad) 93 ad D A z) 2 19 [] [] x := by
  intro x hf H locs ls hP hS hl
  obtain ⟨hx, hb, -⟩ := id hC
  refine lv_iconst (v := 0) hx hb dX6_hasMessage_19 (by decide) ?_
  exact gZret hC hP hS rfl hf dX6_hasMessage_20
set_option maxHeartbeats 4000000 in
set_option maxRecDepth 100000 in
theorem kX6_hasMessage (l : Launch) (D : va_G) (cy : Nat → ClassId) (tX tY : Nat) (ad : Nat → Nat) (A : Nat → Prop) (hA : apart ad A 93) (F : Nat) (x : HT) (a1 : Int32) {z : Int32 × HT} (hf : fX6_hasMessage F x a1 = some z) : Met l yX6_hasMessage (Cond.code yX6_hasMessage cX6_hasMessage 2 (some .boolean) :: wAll) { frames := 0, cells := 0, slots := 0, locals := 0 } (cPc (eX cy ad) 93 ad D cy tX tY A [.ref (ad 0), .int a1] x) (cQi (eX cy ad) 93 ad D A z) 0 0 A := by
  refine gMet hA (by decide) (Nat.le_of_ble_eq_true rfl) (fun p e s m below meth c hC H locs ls hP hS hl => ?_)
  have hC : Cf p s m _ meth c cX6_hasMessage 2 RX6 (some .boolean) D cy tX tY ad A 93 := hC
  have hl : lv_has ls 2 [(0, .ref (ad 0)), (1, .int a1)] := hl
  obtain ⟨hx, hb, -⟩ := id hC
  refine lv_iload_n hx hb dX6_hasMessage_0 rfl (lv_at hl 1 rfl) ?_
  refine lv_if_lt (tgt := 19) hx hb dX6_hasMessage_1 (by decide) (fun c1 => ?_) (fun c1 => ?_)
  · have hf := it_t c1 hf
    exact tX6_hasMessage_19 hC F x hf H locs ls hP hS (lv_sub hl [] rfl)
  · have hf := it_f c1 hf
    refine lv_iload_n hx hb dX6_hasMessage_4 rfl (lv_at hl 1 rfl) ?_
    refine lv_aload_n hx hb dX6_hasMessage_5 rfl (lv_at hl 0 rfl) ?_
    refine gfX6_12 hC hP dX6_hasMessage_6 ?_
    refine gfX6_203 hC hP (by decide) dX6_hasMessage_9 ?_
    refine lv_icmp_ge (tgt := 19) hx hb dX6_hasMessage_12 (by decide) (fun c2 => ?_) (fun c2 => ?_)
    · have hf := it_t c2 hf
      exact tX6_hasMessage_19 hC F x hf H locs ls hP hS (lv_sub hl [] rfl)
    · have hf := it_f c2 hf
      refine lv_iconst (v := 1) hx hb dX6_hasMessage_15 (by decide) ?_
      refine lv_goto (tgt := 20) hx hb dX6_hasMessage_16 (by decide) ?_
      exact gZret hC hP hS rfl hf dX6_hasMessage_20
set_option maxHeartbeats 4000000 in
set_option maxRecDepth 100000 in
theorem tX6_turnGoal_81 (hC : Cf p s m args meth c cX6_turnGoal 5 RX6 (some .int) D cy tX tY ad A 93) (F : Nat) {z : Int32 × HT} : ∀ (x : HT), fX6_turnGoal_81 F x = some z → Wd p l e { frames := 4, cells := 0, slots := 0, locals := 100 } s m args below meth c D (eX cy ad) 93 ad A (cQi (eX cy ad) 93 ad D A z) 5 81 [] [] x := by
  intro x hf H locs ls hP hS hl
  obtain ⟨hx, hb, -⟩ := id hC
  refine lv_bipush (v := -3) hx hb dX6_turnGoal_81 (by decide) ?_
  exact gIret hC hP hS hf dX6_turnGoal_83
set_option maxHeartbeats 4000000 in
set_option maxRecDepth 100000 in
theorem tX6_turnGoal_20 (hC : Cf p s m args meth c cX6_turnGoal 5 RX6 (some .int) D cy tX tY ad A 93) (F : Nat) {z : Int32 × HT} : ∀ (x : HT), fX6_turnGoal_20 F x = some z → Wd p l e { frames := 4, cells := 0, slots := 0, locals := 100 } s m args below meth c D (eX cy ad) 93 ad A (cQi (eX cy ad) 93 ad D A z) 5 20 [] [] x := by
  intro x hf H locs ls hP hS hl
  obtain ⟨hx, hb, -⟩ := id hC
  refine lv_bipush (v := -2) hx hb dX6_turnGoal_20 (by decide) ?_
  exact gIret hC hP hS hf dX6_turnGoal_22
set_option maxHeartbeats 4000000 in
set_option maxRecDepth 100000 in
theorem kX6_turnGoal (l : Launch) (D : va_G) (cy : Nat → ClassId) (tX tY : Nat) (ad : Nat → Nat) (A : Nat → Prop) (hA : apart ad A 93) (F : Nat) (x : HT) (a1 : Int32) (a2 : Int32) (a3 : Int32) {z : Int32 × HT} (hf : fX6_turnGoal F x a1 a2 a3 = some z) : Met l yX6_turnGoal (Cond.code yX6_turnGoal cX6_turnGoal 5 (some .int) :: wAll) { frames := 4, cells := 0, slots := 0, locals := 100 } (cPc (eX cy ad) 93 ad D cy tX tY A [.ref (ad 0), .int a1, .int a2, .int a3] x) (cQi (eX cy ad) 93 ad D A z) 0 0 A := by
  refine gMet hA (by decide) (Nat.le_of_ble_eq_true rfl) (fun p e s m below meth c hC H locs ls hP hS hl => ?_)
  have hC : Cf p s m _ meth c cX6_turnGoal 5 RX6 (some .int) D cy tX tY ad A 93 := hC
  have hl : lv_has ls 5 [(0, .ref (ad 0)), (1, .int a1), (2, .int a2), (3, .int a3)] := hl
  obtain ⟨hx, hb, -⟩ := id hC
  refine lv_aload_n hx hb dX6_turnGoal_0 rfl (lv_at hl 0 rfl) ?_
  refine lv_iload_n hx hb dX6_turnGoal_1 rfl (lv_at hl 1 rfl) ?_
  obtain ⟨r2, x1, e3, hf⟩ := bd_some hf
  refine gVi (As := [.int a1]) (rest := []) (k := 0) hC hP hS (kX6_hasMessage l D cy tX tY ad A hC.2.2.2.2.2.2.2.2.1 F x a1 e3) glX6_142 ⟨rfl, rfl⟩ hdX6_hasMessage ⟨Nat.le_of_ble_eq_true rfl, Nat.le_of_ble_eq_true rfl⟩ (by decide) (eX_0 cy ad _ _) rfl rfl hl.1 rfl (Nat.le_of_ble_eq_true rfl) dX6_turnGoal_2 ⟨Nat.zero_le _, Nat.zero_le _⟩ (fun H locs hP hS => ?_)
  refine lv_if_eq (tgt := 20) hx hb dX6_turnGoal_5 (by decide) (fun c4 => ?_) (fun c4 => ?_)
  · have hf := it_t c4 hf
    exact tX6_turnGoal_20 hC F x1 hf H locs ls hP hS (lv_sub hl [] rfl)
  · have hf := it_f c4 hf
    refine lv_aload_n hx hb dX6_turnGoal_8 rfl (lv_at hl 0 rfl) ?_
    refine gfX6_32 hC hP dX6_turnGoal_9 ?_
    refine lv_iload_n hx hb dX6_turnGoal_12 rfl (lv_at hl 2 rfl) ?_
    refine lv_iload_n hx hb dX6_turnGoal_13 rfl (lv_at hl 3 rfl) ?_
    obtain ⟨r6, x5, e7, hf⟩ := bd_some hf
    refine gVi (As := [.int a2, .int a3]) (rest := []) (k := 59) hC hP hS (kX0_has l D cy tX tY ad A hC.2.2.2.2.2.2.2.2.1 F x1 a2 a3 e7) glX6_93 ⟨rfl, rfl⟩ hdX0_has ⟨Nat.le_of_ble_eq_true rfl, Nat.le_of_ble_eq_true rfl⟩ (by decide) (eX_59 cy ad _ _) rfl rfl hl.1 rfl (Nat.le_of_ble_eq_true rfl) dX6_turnGoal_14 ⟨Nat.zero_le _, Nat.zero_le _⟩ (fun H locs hP hS => ?_)
    refine lv_if_ne (tgt := 23) hx hb dX6_turnGoal_17 (by decide) (fun c8 => ?_) (fun c8 => ?_)
    · have hf := it_f c8 hf
      refine lv_aload_n hx hb dX6_turnGoal_23 rfl (lv_at hl 0 rfl) ?_
      refine gfX6_32 hC hP dX6_turnGoal_24 ?_
      refine lv_iload_n hx hb dX6_turnGoal_27 rfl (lv_at hl 2 rfl) ?_
      refine lv_iload_n hx hb dX6_turnGoal_28 rfl (lv_at hl 3 rfl) ?_
      obtain ⟨r10, x9, e11, hf⟩ := bd_some hf
      refine gVi (As := [.int a2, .int a3]) (rest := []) (k := 59) hC hP hS (kX0_labelAt l D cy tX tY ad A hC.2.2.2.2.2.2.2.2.1 F x5 a2 a3 e11) glX6_97 ⟨rfl, rfl⟩ hdX0_labelAt ⟨Nat.le_of_ble_eq_true rfl, Nat.le_of_ble_eq_true rfl⟩ (by decide) (eX_59 cy ad _ _) rfl rfl hl.1 rfl (Nat.le_of_ble_eq_true rfl) dX6_turnGoal_29 ⟨Nat.zero_le _, Nat.zero_le _⟩ (fun H locs hP hS => ?_)
      refine lv_istore (lv' := [(4, .int r10), (0, .ref (ad 0)), (1, .int a1), (2, .int a2), (3, .int a3)]) hx hb dX6_turnGoal_32 hl (by decide) rfl (fun ls hl => ?_)
      refine lv_iload hx hb dX6_turnGoal_34 (lv_at hl 0 rfl) ?_
      refine lv_aload_n hx hb dX6_turnGoal_36 rfl (lv_at hl 1 rfl) ?_
      refine gfX6_12 hC hP dX6_turnGoal_37 ?_
      refine gfX6_226 hC hP (by decide) dX6_turnGoal_40 ?_
      refine lv_iload_n hx hb dX6_turnGoal_43 rfl (lv_at hl 2 rfl) ?_
      obtain ⟨h12, hf⟩ := ck_some hf
      refine gIal hC hP (7 * 0 + 3) (by omega) (eX_S2 (by decide) cy ad _ _) h12 dX6_turnGoal_44 ?_
      refine lv_icmp_ne (tgt := 51) hx hb dX6_turnGoal_45 (by decide) (fun c13 => ?_) (fun c13 => ?_)
      · have hf := it_f c13 hf
        refine lv_aload_n hx hb dX6_turnGoal_51 rfl (lv_at hl 1 rfl) ?_
        refine gfX6_12 hC hP dX6_turnGoal_52 ?_
        refine gfX6_230 hC hP (by decide) dX6_turnGoal_55 ?_
        refine lv_iload_n hx hb dX6_turnGoal_58 rfl (lv_at hl 2 rfl) ?_
        refine lv_iconst (v := 2) hx hb dX6_turnGoal_59 (by decide) ?_
        refine lv_imul hx hb dX6_turnGoal_60 ?_
        obtain ⟨h14, hf⟩ := ck_some hf
        refine gIal hC hP (7 * 0 + 6) (by omega) (eX_S5 (by decide) cy ad _ _) h14 dX6_turnGoal_61 ?_
        refine lv_if_gt (tgt := 81) hx hb dX6_turnGoal_62 (by decide) (fun c15 => ?_) (fun c15 => ?_)
        · have hf := it_t c15 hf
          exact tX6_turnGoal_81 hC F x9 hf H locs ls hP hS (lv_sub hl [] rfl)
        · have hf := it_f c15 hf
          refine lv_aload_n hx hb dX6_turnGoal_65 rfl (lv_at hl 1 rfl) ?_
          refine gfX6_12 hC hP dX6_turnGoal_66 ?_
          refine gfX6_230 hC hP (by decide) dX6_turnGoal_69 ?_
          refine lv_iload_n hx hb dX6_turnGoal_72 rfl (lv_at hl 2 rfl) ?_
          refine lv_iconst (v := 2) hx hb dX6_turnGoal_73 (by decide) ?_
          refine lv_imul hx hb dX6_turnGoal_74 ?_
          refine lv_iconst (v := 1) hx hb dX6_turnGoal_75 (by decide) ?_
          refine lv_iadd hx hb dX6_turnGoal_76 ?_
          obtain ⟨h16, hf⟩ := ck_some hf
          refine gIal hC hP (7 * 0 + 6) (by omega) (eX_S5 (by decide) cy ad _ _) h16 dX6_turnGoal_77 ?_
          refine lv_if_le (tgt := 84) hx hb dX6_turnGoal_78 (by decide) (fun c17 => ?_) (fun c17 => ?_)
          · have hf := it_t c17 hf
            refine lv_aload_n hx hb dX6_turnGoal_84 rfl (lv_at hl 1 rfl) ?_
            refine gfX6_12 hC hP dX6_turnGoal_85 ?_
            refine gfX6_233 hC hP (by decide) dX6_turnGoal_88 ?_
            refine lv_iload_n hx hb dX6_turnGoal_91 rfl (lv_at hl 2 rfl) ?_
            refine lv_dup2_11 hx hb dX6_turnGoal_92 rfl rfl ?_
            obtain ⟨h18, hf⟩ := ck_some hf
            refine gLal hC hP (7 * 0 + 5) (by omega) (eX_S4 (by decide) cy ad _ _) h18 dX6_turnGoal_93 ?_
            refine lv_lconst (v := 1) hx hb dX6_turnGoal_94 (by decide) ?_
            refine lv_iload hx hb dX6_turnGoal_95 (lv_at hl 0 rfl) ?_
            refine lv_lshl hx hb dX6_turnGoal_97 rfl ?_
            refine lv_lxor hx hb dX6_turnGoal_98 ?_
            obtain ⟨h19, hf⟩ := ck_some hf
            refine gLas hC hP hS (7 * 0 + 5) (by omega) (fun g9 => eX_S4 (by decide) cy ad _ g9) h19 dX6_turnGoal_99 (fun H locs hP hS => ?_)
            obtain ⟨x20, e21, hf⟩ := lt_some hf
            have hP : va_P D vwCl (wG (eX cy ad) 93 ad x20) H := by rw [e21]; exact hP
            refine lv_aload_n hx hb dX6_turnGoal_100 rfl (lv_at hl 1 rfl) ?_
            refine lv_iload_n hx hb dX6_turnGoal_101 rfl (lv_at hl 2 rfl) ?_
            obtain ⟨r23, x22, e24, hf⟩ := bd_some hf
            refine gVv (As := [.int a1]) (rest := []) (k := 0) hC hP hS (kX6_layMessage l D cy tX tY ad A hC.2.2.2.2.2.2.2.2.1 F x20 a1 e24) glX6_222 ⟨rfl, rfl⟩ hdX6_layMessage ⟨Nat.le_of_ble_eq_true rfl, Nat.le_of_ble_eq_true rfl⟩ (by decide) (eX_0 cy ad _ _) rfl rfl hl.1 rfl (Nat.le_of_ble_eq_true rfl) dX6_turnGoal_102 ⟨Nat.zero_le _, Nat.zero_le _⟩ (fun H locs hP hS => ?_)
            refine lv_aload_n hx hb dX6_turnGoal_105 rfl (lv_at hl 1 rfl) ?_
            refine gfX6_12 hC hP dX6_turnGoal_106 ?_
            refine gfX6_233 hC hP (by decide) dX6_turnGoal_109 ?_
            refine lv_iload_n hx hb dX6_turnGoal_112 rfl (lv_at hl 2 rfl) ?_
            obtain ⟨h25, hf⟩ := ck_some hf
            refine gLal hC hP (7 * 0 + 5) (by omega) (eX_S4 (by decide) cy ad _ _) h25 dX6_turnGoal_113 ?_
            obtain ⟨r27, x26, e28, hf⟩ := bd_some hf
            refine gSi (As := [.long (x22.2 (7 * 0 + 5) a1.toNatClampNeg)]) (rest := []) hC hP hS (kJ13_bitCount_95d88 l D cy tX tY ad A hC.2.2.2.2.2.2.2.2.1 F x22 (x22.2 (7 * 0 + 5) a1.toNatClampNeg) e28) glX6_237 ⟨rfl, rfl⟩ hdJ13_bitCount_95d88 ⟨Nat.le_of_ble_eq_true rfl, Nat.le_of_ble_eq_true rfl⟩ rfl hl.1 rfl (Nat.le_of_ble_eq_true rfl) dX6_turnGoal_114 ⟨Nat.zero_le _, Nat.zero_le _⟩ (fun H locs hP hS => ?_)
            exact gIret hC hP hS hf dX6_turnGoal_117
          · have hf := it_f c17 hf
            exact tX6_turnGoal_81 hC F x9 hf H locs ls hP hS (lv_sub hl [] rfl)
      · have hf := it_t c13 hf
        refine lv_bipush (v := -2) hx hb dX6_turnGoal_48 (by decide) ?_
        exact gIret hC hP hS hf dX6_turnGoal_50
    · have hf := it_t c8 hf
      exact tX6_turnGoal_20 hC F x5 hf H locs ls hP hS (lv_sub hl [] rfl)
set_option maxHeartbeats 4000000 in
set_option maxRecDepth 100000 in
theorem kX6_goal (l : Launch) (D : va_G) (cy : Nat → ClassId) (tX tY : Nat) (ad : Nat → Nat) (A : Nat → Prop) (hA : apart ad A 93) (F : Nat) (x : HT) (a1 : Int32) (a2 : Int32) (a3 : Int32) {z : Int32 × HT} (hf : fX6_goal F x a1 a2 a3 = some z) : Met l yX6_goal (Cond.code yX6_goal cX6_goal 4 (some .int) :: wAll) { frames := 5, cells := 0, slots := 0, locals := 124 } (cPc (eX cy ad) 93 ad D cy tX tY A [.ref (ad 0), .int a1, .int a2, .int a3] x) (cQi (eX cy ad) 93 ad D A z) 0 0 A := by
  refine gMet hA (by decide) (Nat.le_of_ble_eq_true rfl) (fun p e s m below meth c hC H locs ls hP hS hl => ?_)
  have hC : Cf p s m _ meth c cX6_goal 4 RX6 (some .int) D cy tX tY ad A 93 := hC
  have hl : lv_has ls 4 [(0, .ref (ad 0)), (1, .int a1), (2, .int a2), (3, .int a3)] := hl
  obtain ⟨hx, hb, -⟩ := id hC
  refine lv_aload_n hx hb dX6_goal_0 rfl (lv_at hl 0 rfl) ?_
  refine gfX6_16 hC hP dX6_goal_1 ?_
  refine lv_aload_n hx hb dX6_goal_4 rfl (lv_at hl 0 rfl) ?_
  refine gfX6_12 hC hP dX6_goal_5 ?_
  obtain ⟨r2, x1, e3, hf⟩ := bd_some hf
  refine gVv (As := [.ref (ad (7 * 0 + 1))]) (rest := []) (k := (7 * 1 + 1)) hC hP hS (kX2_copyFrom l D cy tX tY ad A hC.2.2.2.2.2.2.2.2.1 F (j := 1) (j2 := 0) (by decide) (by decide) x e3) glX6_64 ⟨rfl, rfl⟩ hdX2_copyFrom ⟨Nat.le_of_ble_eq_true rfl, Nat.le_of_ble_eq_true rfl⟩ (by omega) (eX_S (by decide) cy ad _ _) rfl rfl hl.1 rfl (Nat.le_of_ble_eq_true rfl) dX6_goal_8 ⟨Nat.zero_le _, Nat.zero_le _⟩ (fun H locs hP hS => ?_)
  refine lv_aload_n hx hb dX6_goal_11 rfl (lv_at hl 0 rfl) ?_
  refine lv_aload_n hx hb dX6_goal_12 rfl (lv_at hl 0 rfl) ?_
  refine lv_iload_n hx hb dX6_goal_13 rfl (lv_at hl 1 rfl) ?_
  refine lv_iload_n hx hb dX6_goal_14 rfl (lv_at hl 2 rfl) ?_
  refine lv_iload_n hx hb dX6_goal_15 rfl (lv_at hl 3 rfl) ?_
  obtain ⟨r5, x4, e6, hf⟩ := bd_some hf
  refine gVi (As := [.int a1, .int a2, .int a3]) (rest := [.ref (ad 0)]) (k := 0) hC hP hS (kX6_turnGoal l D cy tX tY ad A hC.2.2.2.2.2.2.2.2.1 F x1 a1 a2 a3 e6) glX6_80 ⟨rfl, rfl⟩ hdX6_turnGoal ⟨Nat.le_of_ble_eq_true rfl, Nat.le_of_ble_eq_true rfl⟩ (by decide) (eX_0 cy ad _ _) rfl rfl hl.1 rfl (Nat.le_of_ble_eq_true rfl) dX6_goal_16 ⟨Nat.zero_le _, Nat.zero_le _⟩ (fun H locs hP hS => ?_)
  obtain ⟨r8, x7, e9, hf⟩ := bd_some hf
  refine gVi (As := [.int r5]) (rest := []) (k := 0) hC hP hS (kX6_settle l D cy tX tY ad A hC.2.2.2.2.2.2.2.2.1 F x4 r5 e9) glX6_72 ⟨rfl, rfl⟩ hdX6_settle ⟨Nat.le_of_ble_eq_true rfl, Nat.le_of_ble_eq_true rfl⟩ (by decide) (eX_0 cy ad _ _) rfl rfl hl.1 rfl (Nat.le_of_ble_eq_true rfl) dX6_goal_19 ⟨Nat.zero_le _, Nat.zero_le _⟩ (fun H locs hP hS => ?_)
  exact gIret hC hP hS hf dX6_goal_22
set_option maxHeartbeats 4000000 in
set_option maxRecDepth 100000 in
theorem tX0_channelAt_18 (hC : Cf p s m args meth c cX0_channelAt 5 RX0 (some .int) D cy tX tY ad A 93) (F : Nat) {z : Int32 × HT} : ∀ (x : HT), fX0_channelAt_18 F x = some z → Wd p l e { frames := 1, cells := 0, slots := 0, locals := 22 } s m args below meth c D (eX cy ad) 93 ad A (cQi (eX cy ad) 93 ad D A z) 5 18 [] [] x := by
  intro x hf H locs ls hP hS hl
  obtain ⟨hx, hb, -⟩ := id hC
  refine lv_iconst (v := -1) hx hb dX0_channelAt_18 (by decide) ?_
  exact gIret hC hP hS hf dX0_channelAt_19
set_option maxHeartbeats 4000000 in
set_option maxRecDepth 100000 in
theorem kX0_channelAt (l : Launch) (D : va_G) (cy : Nat → ClassId) (tX tY : Nat) (ad : Nat → Nat) (A : Nat → Prop) (hA : apart ad A 93) (F : Nat) (x : HT) (a1 : Int32) (a2 : Int32) (a3 : Int32) {z : Int32 × HT} (hf : fX0_channelAt F x a1 a2 a3 = some z) : Met l yX0_channelAt (Cond.code yX0_channelAt cX0_channelAt 5 (some .int) :: wAll) { frames := 1, cells := 0, slots := 0, locals := 22 } (cPc (eX cy ad) 93 ad D cy tX tY A [.ref (ad 59), .int a1, .int a2, .int a3] x) (cQi (eX cy ad) 93 ad D A z) 0 0 A := by
  refine gMet hA (by decide) (Nat.le_of_ble_eq_true rfl) (fun p e s m below meth c hC H locs ls hP hS hl => ?_)
  have hC : Cf p s m _ meth c cX0_channelAt 5 RX0 (some .int) D cy tX tY ad A 93 := hC
  have hl : lv_has ls 5 [(0, .ref (ad 59)), (1, .int a1), (2, .int a2), (3, .int a3)] := hl
  obtain ⟨hx, hb, -⟩ := id hC
  refine lv_aload_n hx hb dX0_channelAt_0 rfl (lv_at hl 0 rfl) ?_
  refine lv_iload_n hx hb dX0_channelAt_1 rfl (lv_at hl 1 rfl) ?_
  refine lv_iload_n hx hb dX0_channelAt_2 rfl (lv_at hl 2 rfl) ?_
  obtain ⟨r2, x1, e3, hf⟩ := bd_some hf
  refine gVi (As := [.int a1, .int a2]) (rest := []) (k := 59) hC hP hS (kX0_has l D cy tX tY ad A hC.2.2.2.2.2.2.2.2.1 F x a1 a2 e3) glX0_42 ⟨rfl, rfl⟩ hdX0_has ⟨Nat.le_of_ble_eq_true rfl, Nat.le_of_ble_eq_true rfl⟩ (by decide) (eX_59 cy ad _ _) rfl rfl hl.1 rfl (Nat.le_of_ble_eq_true rfl) dX0_channelAt_3 ⟨Nat.zero_le _, Nat.zero_le _⟩ (fun H locs hP hS => ?_)
  refine lv_if_eq (tgt := 18) hx hb dX0_channelAt_6 (by decide) (fun c4 => ?_) (fun c4 => ?_)
  · have hf := it_t c4 hf
    exact tX0_channelAt_18 hC F x1 hf H locs ls hP hS (lv_sub hl [] rfl)
  · have hf := it_f c4 hf
    refine lv_iload_n hx hb dX0_channelAt_9 rfl (lv_at hl 3 rfl) ?_
    refine lv_if_lt (tgt := 18) hx hb dX0_channelAt_10 (by decide) (fun c5 => ?_) (fun c5 => ?_)
    · have hf := it_t c5 hf
      exact tX0_channelAt_18 hC F x1 hf H locs ls hP hS (lv_sub hl [] rfl)
    · have hf := it_f c5 hf
      refine lv_iload_n hx hb dX0_channelAt_13 rfl (lv_at hl 3 rfl) ?_
      refine lv_iconst (v := 4) hx hb dX0_channelAt_14 (by decide) ?_
      refine lv_icmp_lt (tgt := 20) hx hb dX0_channelAt_15 (by decide) (fun c6 => ?_) (fun c6 => ?_)
      · have hf := it_t c6 hf
        refine lv_aload_n hx hb dX0_channelAt_20 rfl (lv_at hl 0 rfl) ?_
        refine lv_iload_n hx hb dX0_channelAt_21 rfl (lv_at hl 1 rfl) ?_
        refine lv_iload_n hx hb dX0_channelAt_22 rfl (lv_at hl 2 rfl) ?_
        obtain ⟨r8, x7, e9, hf⟩ := bd_some hf
        refine gVi (As := [.int a1, .int a2]) (rest := []) (k := 59) hC hP hS (kX0_labelAt l D cy tX tY ad A hC.2.2.2.2.2.2.2.2.1 F x1 a1 a2 e9) glX0_32 ⟨rfl, rfl⟩ hdX0_labelAt ⟨Nat.le_of_ble_eq_true rfl, Nat.le_of_ble_eq_true rfl⟩ (by decide) (eX_59 cy ad _ _) rfl rfl hl.1 rfl (Nat.le_of_ble_eq_true rfl) dX0_channelAt_23 ⟨Nat.zero_le _, Nat.zero_le _⟩ (fun H locs hP hS => ?_)
        refine lv_iconst (v := 4) hx hb dX0_channelAt_26 (by decide) ?_
        refine lv_imul hx hb dX0_channelAt_27 ?_
        refine lv_iload_n hx hb dX0_channelAt_28 rfl (lv_at hl 3 rfl) ?_
        refine lv_iadd hx hb dX0_channelAt_29 ?_
        refine lv_topi (fun b10 e11 => ?_)
        have hf := lt_use e11 hf
        refine lv_istore (lv' := [(4, .int b10), (0, .ref (ad 59)), (1, .int a1), (2, .int a2), (3, .int a3)]) hx hb dX0_channelAt_30 hl (by decide) rfl (fun ls hl => ?_)
        refine lv_aload_n hx hb dX0_channelAt_32 rfl (lv_at hl 1 rfl) ?_
        refine gfX0_18 hC hP dX0_channelAt_33 ?_
        refine lv_iload hx hb dX0_channelAt_36 (lv_at hl 0 rfl) ?_
        obtain ⟨h12, hf⟩ := ck_some hf
        refine gIal hC hP 62 (by decide) (eX_62 cy ad _ _) h12 dX0_channelAt_38 ?_
        refine lv_iconst (v := -1) hx hb dX0_channelAt_39 (by decide) ?_
        refine lv_icmp_ne (tgt := 47) hx hb dX0_channelAt_40 (by decide) (fun c13 => ?_) (fun c13 => ?_)
        · have hf := it_f c13 hf
          refine lv_iload hx hb dX0_channelAt_47 (lv_at hl 0 rfl) ?_
          exact gIret hC hP hS hf dX0_channelAt_49
        · have hf := it_t c13 hf
          refine lv_iconst (v := -1) hx hb dX0_channelAt_43 (by decide) ?_
          refine lv_goto (tgt := 49) hx hb dX0_channelAt_44 (by decide) ?_
          exact gIret hC hP hS hf dX0_channelAt_49
      · have hf := it_f c6 hf
        exact tX0_channelAt_18 hC F x1 hf H locs ls hP hS (lv_sub hl [] rfl)
set_option maxHeartbeats 4000000 in
set_option maxRecDepth 100000 in
theorem kX2_turn (l : Launch) (D : va_G) (cy : Nat → ClassId) (tX tY : Nat) (ad : Nat → Nat) (A : Nat → Prop) (hA : apart ad A 93) (F : Nat) {j : Nat} (hj : j < 8) (x : HT) (a1 : Int32) {z : Unit × HT} (hf : fX2_turn F j x a1 = some z) : Met l yX2_turn (Cond.code yX2_turn cX2_turn 2 none :: wAll) { frames := 0, cells := 0, slots := 0, locals := 0 } (cPc (eX cy ad) 93 ad D cy tX tY A [.ref (ad (7 * j + 1)), .int a1] x) (cQv (eX cy ad) 93 ad D A z) 0 0 A := by
  refine gMet hA (by decide) (Nat.le_of_ble_eq_true rfl) (fun p e s m below meth c hC H locs ls hP hS hl => ?_)
  have hC : Cf p s m _ meth c cX2_turn 2 RX2 none D cy tX tY ad A 93 := hC
  have hl : lv_has ls 2 [(0, .ref (ad (7 * j + 1))), (1, .int a1)] := hl
  obtain ⟨hx, hb, -⟩ := id hC
  refine lv_iload_n hx hb dX2_turn_0 rfl (lv_at hl 1 rfl) ?_
  refine lv_if_lt (tgt := 27) hx hb dX2_turn_1 (by decide) (fun c1 => ?_) (fun c1 => ?_)
  · have hf := it_t c1 hf
    exact gVret hC hP hS hf dX2_turn_27
  · have hf := it_f c1 hf
    refine lv_iload_n hx hb dX2_turn_4 rfl (lv_at hl 1 rfl) ?_
    refine lv_sipush (v := 144) hx hb dX2_turn_5 (by decide) ?_
    refine lv_icmp_ge (tgt := 27) hx hb dX2_turn_8 (by decide) (fun c2 => ?_) (fun c2 => ?_)
    · have hf := it_t c2 hf
      exact gVret hC hP hS hf dX2_turn_27
    · have hf := it_f c2 hf
      refine lv_aload_n hx hb dX2_turn_11 rfl (lv_at hl 0 rfl) ?_
      refine gfX2_9 hC hP hj dX2_turn_12 ?_
      refine lv_iload_n hx hb dX2_turn_15 rfl (lv_at hl 1 rfl) ?_
      refine lv_iconst (v := 2) hx hb dX2_turn_16 (by decide) ?_
      refine lv_ishr hx hb dX2_turn_17 ?_
      refine lv_dup2_11 hx hb dX2_turn_18 rfl rfl ?_
      obtain ⟨h3, hf⟩ := ck_some hf
      refine gIal hC hP (7 * j + 2) (by omega) (eX_S1 hj cy ad _ _) h3 dX2_turn_19 ?_
      refine lv_iconst (v := 1) hx hb dX2_turn_20 (by decide) ?_
      refine lv_iload_n hx hb dX2_turn_21 rfl (lv_at hl 1 rfl) ?_
      refine lv_iconst (v := 3) hx hb dX2_turn_22 (by decide) ?_
      refine lv_iand hx hb dX2_turn_23 ?_
      refine lv_ishl hx hb dX2_turn_24 ?_
      refine lv_ixor hx hb dX2_turn_25 ?_
      obtain ⟨h4, hf⟩ := ck_some hf
      refine gIas hC hP hS (7 * j + 2) (by omega) (fun g9 => eX_S1 hj cy ad g9 _) h4 dX2_turn_26 (fun H locs hP hS => ?_)
      obtain ⟨x5, e6, hf⟩ := lt_some hf
      have hP : va_P D vwCl (wG (eX cy ad) 93 ad x5) H := by rw [e6]; exact hP
      exact gVret hC hP hS hf dX2_turn_27
set_option maxHeartbeats 4000000 in
set_option maxRecDepth 100000 in
theorem tX2_isDown_32 (hC : Cf p s m args meth c cX2_isDown 2 RX2 (some .boolean) D cy tX tY ad A 93) (F : Nat) {z : Int32 × HT} {j : Nat} (hj : j < 8) : ∀ (x : HT), fX2_isDown_32 F j x = some z → Wd p l e { frames := 0, cells := 0, slots := 0, locals := 0 } s m args below meth c D (eX cy ad) 93 ad A (cQi (eX cy ad) 93 ad D A z) 2 32 [] [] x := by
  intro x hf H locs ls hP hS hl
  obtain ⟨hx, hb, -⟩ := id hC
  refine lv_iconst (v := 0) hx hb dX2_isDown_32 (by decide) ?_
  exact gZret hC hP hS rfl hf dX2_isDown_33
set_option maxHeartbeats 4000000 in
set_option maxRecDepth 100000 in
theorem kX2_isDown (l : Launch) (D : va_G) (cy : Nat → ClassId) (tX tY : Nat) (ad : Nat → Nat) (A : Nat → Prop) (hA : apart ad A 93) (F : Nat) {j : Nat} (hj : j < 8) (x : HT) (a1 : Int32) {z : Int32 × HT} (hf : fX2_isDown F j x a1 = some z) : Met l yX2_isDown (Cond.code yX2_isDown cX2_isDown 2 (some .boolean) :: wAll) { frames := 0, cells := 0, slots := 0, locals := 0 } (cPc (eX cy ad) 93 ad D cy tX tY A [.ref (ad (7 * j + 1)), .int a1] x) (cQi (eX cy ad) 93 ad D A z) 0 0 A := by
  refine gMet hA (by decide) (Nat.le_of_ble_eq_true rfl) (fun p e s m below meth c hC H locs ls hP hS hl => ?_)
  have hC : Cf p s m _ meth c cX2_isDown 2 RX2 (some .boolean) D cy tX tY ad A 93 := hC
  have hl : lv_has ls 2 [(0, .ref (ad (7 * j + 1))), (1, .int a1)] := hl
  obtain ⟨hx, hb, -⟩ := id hC
  refine lv_iload_n hx hb dX2_isDown_0 rfl (lv_at hl 1 rfl) ?_
  refine lv_if_lt (tgt := 32) hx hb dX2_isDown_1 (by decide) (fun c1 => ?_) (fun c1 => ?_)
  · have hf := it_t c1 hf
    exact tX2_isDown_32 hC F hj x hf H locs ls hP hS (lv_sub hl [] rfl)
  · have hf := it_f c1 hf
    refine lv_iload_n hx hb dX2_isDown_4 rfl (lv_at hl 1 rfl) ?_
    refine lv_sipush (v := 144) hx hb dX2_isDown_5 (by decide) ?_
    refine lv_icmp_ge (tgt := 32) hx hb dX2_isDown_8 (by decide) (fun c2 => ?_) (fun c2 => ?_)
    · have hf := it_t c2 hf
      exact tX2_isDown_32 hC F hj x hf H locs ls hP hS (lv_sub hl [] rfl)
    · have hf := it_f c2 hf
      refine lv_aload_n hx hb dX2_isDown_11 rfl (lv_at hl 0 rfl) ?_
      refine gfX2_9 hC hP hj dX2_isDown_12 ?_
      refine lv_iload_n hx hb dX2_isDown_15 rfl (lv_at hl 1 rfl) ?_
      refine lv_iconst (v := 2) hx hb dX2_isDown_16 (by decide) ?_
      refine lv_ishr hx hb dX2_isDown_17 ?_
      obtain ⟨h3, hf⟩ := ck_some hf
      refine gIal hC hP (7 * j + 2) (by omega) (eX_S1 hj cy ad _ _) h3 dX2_isDown_18 ?_
      refine lv_iload_n hx hb dX2_isDown_19 rfl (lv_at hl 1 rfl) ?_
      refine lv_iconst (v := 3) hx hb dX2_isDown_20 (by decide) ?_
      refine lv_iand hx hb dX2_isDown_21 ?_
      refine lv_ishr hx hb dX2_isDown_22 ?_
      refine lv_iconst (v := 1) hx hb dX2_isDown_23 (by decide) ?_
      refine lv_iand hx hb dX2_isDown_24 ?_
      refine lv_if_eq (tgt := 32) hx hb dX2_isDown_25 (by decide) (fun c4 => ?_) (fun c4 => ?_)
      · have hf := it_t c4 hf
        exact tX2_isDown_32 hC F hj x hf H locs ls hP hS (lv_sub hl [] rfl)
      · have hf := it_f c4 hf
        refine lv_iconst (v := 1) hx hb dX2_isDown_28 (by decide) ?_
        refine lv_goto (tgt := 33) hx hb dX2_isDown_29 (by decide) ?_
        exact gZret hC hP hS rfl hf dX2_isDown_33
set_option maxHeartbeats 4000000 in
set_option maxRecDepth 100000 in
theorem kX6_turnChannel (l : Launch) (D : va_G) (cy : Nat → ClassId) (tX tY : Nat) (ad : Nat → Nat) (A : Nat → Prop) (hA : apart ad A 93) (F : Nat) (x : HT) (a1 : Int32) (a2 : Int32) (a3 : Int32) {z : Int32 × HT} (hf : fX6_turnChannel F x a1 a2 a3 = some z) : Met l yX6_turnChannel (Cond.code yX6_turnChannel cX6_turnChannel 5 (some .int) :: wAll) { frames := 2, cells := 0, slots := 0, locals := 46 } (cPc (eX cy ad) 93 ad D cy tX tY A [.ref (ad 0), .int a1, .int a2, .int a3] x) (cQi (eX cy ad) 93 ad D A z) 0 0 A := by
  refine gMet hA (by decide) (Nat.le_of_ble_eq_true rfl) (fun p e s m below meth c hC H locs ls hP hS hl => ?_)
  have hC : Cf p s m _ meth c cX6_turnChannel 5 RX6 (some .int) D cy tX tY ad A 93 := hC
  have hl : lv_has ls 5 [(0, .ref (ad 0)), (1, .int a1), (2, .int a2), (3, .int a3)] := hl
  obtain ⟨hx, hb, -⟩ := id hC
  refine lv_aload_n hx hb dX6_turnChannel_0 rfl (lv_at hl 0 rfl) ?_
  refine gfX6_32 hC hP dX6_turnChannel_1 ?_
  refine lv_iload_n hx hb dX6_turnChannel_4 rfl (lv_at hl 1 rfl) ?_
  refine lv_iload_n hx hb dX6_turnChannel_5 rfl (lv_at hl 2 rfl) ?_
  refine lv_iload_n hx hb dX6_turnChannel_6 rfl (lv_at hl 3 rfl) ?_
  obtain ⟨r2, x1, e3, hf⟩ := bd_some hf
  refine gVi (As := [.int a1, .int a2, .int a3]) (rest := []) (k := 59) hC hP hS (kX0_channelAt l D cy tX tY ad A hC.2.2.2.2.2.2.2.2.1 F x a1 a2 a3 e3) glX6_119 ⟨rfl, rfl⟩ hdX0_channelAt ⟨Nat.le_of_ble_eq_true rfl, Nat.le_of_ble_eq_true rfl⟩ (by decide) (eX_59 cy ad _ _) rfl rfl hl.1 rfl (Nat.le_of_ble_eq_true rfl) dX6_turnChannel_7 ⟨Nat.zero_le _, Nat.zero_le _⟩ (fun H locs hP hS => ?_)
  refine lv_istore (lv' := [(4, .int r2), (0, .ref (ad 0)), (1, .int a1), (2, .int a2), (3, .int a3)]) hx hb dX6_turnChannel_10 hl (by decide) rfl (fun ls hl => ?_)
  refine lv_iload hx hb dX6_turnChannel_12 (lv_at hl 0 rfl) ?_
  refine lv_iconst (v := -1) hx hb dX6_turnChannel_14 (by decide) ?_
  refine lv_icmp_ne (tgt := 21) hx hb dX6_turnChannel_15 (by decide) (fun c4 => ?_) (fun c4 => ?_)
  · have hf := it_f c4 hf
    refine lv_aload_n hx hb dX6_turnChannel_21 rfl (lv_at hl 1 rfl) ?_
    refine gfX6_12 hC hP dX6_turnChannel_22 ?_
    refine lv_iload hx hb dX6_turnChannel_25 (lv_at hl 0 rfl) ?_
    obtain ⟨r6, x5, e7, hf⟩ := bd_some hf
    refine gVv (As := [.int r2]) (rest := []) (k := (7 * 0 + 1)) hC hP hS (kX2_turn l D cy tX tY ad A hC.2.2.2.2.2.2.2.2.1 F (j := 0) (by decide) x1 r2 e7) glX6_243 ⟨rfl, rfl⟩ hdX2_turn ⟨Nat.le_of_ble_eq_true rfl, Nat.le_of_ble_eq_true rfl⟩ (by omega) (eX_S (by decide) cy ad _ _) rfl rfl hl.1 rfl (Nat.le_of_ble_eq_true rfl) dX6_turnChannel_27 ⟨Nat.zero_le _, Nat.zero_le _⟩ (fun H locs hP hS => ?_)
    refine lv_aload_n hx hb dX6_turnChannel_30 rfl (lv_at hl 1 rfl) ?_
    refine gfX6_12 hC hP dX6_turnChannel_31 ?_
    refine lv_iload hx hb dX6_turnChannel_34 (lv_at hl 0 rfl) ?_
    obtain ⟨r9, x8, e10, hf⟩ := bd_some hf
    refine gVi (As := [.int r2]) (rest := []) (k := (7 * 0 + 1)) hC hP hS (kX2_isDown l D cy tX tY ad A hC.2.2.2.2.2.2.2.2.1 F (j := 0) (by decide) x5 r2 e10) glX6_200 ⟨rfl, rfl⟩ hdX2_isDown ⟨Nat.le_of_ble_eq_true rfl, Nat.le_of_ble_eq_true rfl⟩ (by omega) (eX_S (by decide) cy ad _ _) rfl rfl hl.1 rfl (Nat.le_of_ble_eq_true rfl) dX6_turnChannel_36 ⟨Nat.zero_le _, Nat.zero_le _⟩ (fun H locs hP hS => ?_)
    refine lv_if_eq (tgt := 46) hx hb dX6_turnChannel_39 (by decide) (fun c11 => ?_) (fun c11 => ?_)
    · have hf := it_t c11 hf
      refine lv_iconst (v := 1) hx hb dX6_turnChannel_46 (by decide) ?_
      exact gIret hC hP hS hf dX6_turnChannel_47
    · have hf := it_f c11 hf
      refine lv_iconst (v := 0) hx hb dX6_turnChannel_42 (by decide) ?_
      refine lv_goto (tgt := 47) hx hb dX6_turnChannel_43 (by decide) ?_
      exact gIret hC hP hS hf dX6_turnChannel_47
  · have hf := it_t c4 hf
    refine lv_bipush (v := -2) hx hb dX6_turnChannel_18 (by decide) ?_
    exact gIret hC hP hS hf dX6_turnChannel_20
set_option maxHeartbeats 4000000 in
set_option maxRecDepth 100000 in
theorem kX6_turns (l : Launch) (D : va_G) (cy : Nat → ClassId) (tX tY : Nat) (ad : Nat → Nat) (A : Nat → Prop) (hA : apart ad A 93) (F : Nat) (x : HT) (a1 : Int32) (a2 : Int32) (a3 : Int32) {z : Int32 × HT} (hf : fX6_turns F x a1 a2 a3 = some z) : Met l yX6_turns (Cond.code yX6_turns cX6_turns 4 (some .int) :: wAll) { frames := 4, cells := 0, slots := 0, locals := 111 } (cPc (eX cy ad) 93 ad D cy tX tY A [.ref (ad 0), .int a1, .int a2, .int a3] x) (cQi (eX cy ad) 93 ad D A z) 0 0 A := by
  refine gMet hA (by decide) (Nat.le_of_ble_eq_true rfl) (fun p e s m below meth c hC H locs ls hP hS hl => ?_)
  have hC : Cf p s m _ meth c cX6_turns 4 RX6 (some .int) D cy tX tY ad A 93 := hC
  have hl : lv_has ls 4 [(0, .ref (ad 0)), (1, .int a1), (2, .int a2), (3, .int a3)] := hl
  obtain ⟨hx, hb, -⟩ := id hC
  refine lv_aload_n hx hb dX6_turns_0 rfl (lv_at hl 0 rfl) ?_
  refine gfX6_16 hC hP dX6_turns_1 ?_
  refine lv_aload_n hx hb dX6_turns_4 rfl (lv_at hl 0 rfl) ?_
  refine gfX6_12 hC hP dX6_turns_5 ?_
  obtain ⟨r2, x1, e3, hf⟩ := bd_some hf
  refine gVv (As := [.ref (ad (7 * 0 + 1))]) (rest := []) (k := (7 * 1 + 1)) hC hP hS (kX2_copyFrom l D cy tX tY ad A hC.2.2.2.2.2.2.2.2.1 F (j := 1) (j2 := 0) (by decide) (by decide) x e3) glX6_64 ⟨rfl, rfl⟩ hdX2_copyFrom ⟨Nat.le_of_ble_eq_true rfl, Nat.le_of_ble_eq_true rfl⟩ (by omega) (eX_S (by decide) cy ad _ _) rfl rfl hl.1 rfl (Nat.le_of_ble_eq_true rfl) dX6_turns_8 ⟨Nat.zero_le _, Nat.zero_le _⟩ (fun H locs hP hS => ?_)
  refine lv_aload_n hx hb dX6_turns_11 rfl (lv_at hl 0 rfl) ?_
  refine lv_aload_n hx hb dX6_turns_12 rfl (lv_at hl 0 rfl) ?_
  refine lv_iload_n hx hb dX6_turns_13 rfl (lv_at hl 1 rfl) ?_
  refine lv_iload_n hx hb dX6_turns_14 rfl (lv_at hl 2 rfl) ?_
  refine lv_iload_n hx hb dX6_turns_15 rfl (lv_at hl 3 rfl) ?_
  obtain ⟨r5, x4, e6, hf⟩ := bd_some hf
  refine gVi (As := [.int a1, .int a2, .int a3]) (rest := [.ref (ad 0)]) (k := 0) hC hP hS (kX6_turnChannel l D cy tX tY ad A hC.2.2.2.2.2.2.2.2.1 F x1 a1 a2 a3 e6) glX6_83 ⟨rfl, rfl⟩ hdX6_turnChannel ⟨Nat.le_of_ble_eq_true rfl, Nat.le_of_ble_eq_true rfl⟩ (by decide) (eX_0 cy ad _ _) rfl rfl hl.1 rfl (Nat.le_of_ble_eq_true rfl) dX6_turns_16 ⟨Nat.zero_le _, Nat.zero_le _⟩ (fun H locs hP hS => ?_)
  obtain ⟨r8, x7, e9, hf⟩ := bd_some hf
  refine gVi (As := [.int r5]) (rest := []) (k := 0) hC hP hS (kX6_settle l D cy tX tY ad A hC.2.2.2.2.2.2.2.2.1 F x4 r5 e9) glX6_72 ⟨rfl, rfl⟩ hdX6_settle ⟨Nat.le_of_ble_eq_true rfl, Nat.le_of_ble_eq_true rfl⟩ (by decide) (eX_0 cy ad _ _) rfl rfl hl.1 rfl (Nat.le_of_ble_eq_true rfl) dX6_turns_19 ⟨Nat.zero_le _, Nat.zero_le _⟩ (fun H locs hP hS => ?_)
  exact gIret hC hP hS hf dX6_turns_22
set_option maxHeartbeats 4000000 in
set_option maxRecDepth 100000 in
theorem kX2_worms (l : Launch) (D : va_G) (cy : Nat → ClassId) (tX tY : Nat) (ad : Nat → Nat) (A : Nat → Prop) (hA : apart ad A 93) (F : Nat) {j : Nat} (hj : j < 8) (x : HT) {z : Int32 × HT} (hf : fX2_worms F j x = some z) : Met l yX2_worms (Cond.code yX2_worms cX2_worms 1 (some .int) :: wAll) { frames := 0, cells := 0, slots := 0, locals := 0 } (cPc (eX cy ad) 93 ad D cy tX tY A [.ref (ad (7 * j + 1))] x) (cQi (eX cy ad) 93 ad D A z) 0 0 A := by
  refine gMet hA (by decide) (Nat.le_of_ble_eq_true rfl) (fun p e s m below meth c hC H locs ls hP hS hl => ?_)
  have hC : Cf p s m _ meth c cX2_worms 1 RX2 (some .int) D cy tX tY ad A 93 := hC
  have hl : lv_has ls 1 [(0, .ref (ad (7 * j + 1)))] := hl
  obtain ⟨hx, hb, -⟩ := id hC
  refine lv_aload_n hx hb dX2_worms_0 rfl (lv_at hl 0 rfl) ?_
  refine gfX2_38 hC hP hj dX2_worms_1 ?_
  refine lv_iconst (v := 2) hx hb dX2_worms_4 (by decide) ?_
  refine lv_imul hx hb dX2_worms_5 ?_
  exact gIret hC hP hS hf dX2_worms_6
set_option maxHeartbeats 4000000 in
set_option maxRecDepth 100000 in
theorem kX2_lengthOf (l : Launch) (D : va_G) (cy : Nat → ClassId) (tX tY : Nat) (ad : Nat → Nat) (A : Nat → Prop) (hA : apart ad A 93) (F : Nat) {j : Nat} (hj : j < 8) (x : HT) (a1 : Int32) {z : Int32 × HT} (hf : fX2_lengthOf F j x a1 = some z) : Met l yX2_lengthOf (Cond.code yX2_lengthOf cX2_lengthOf 2 (some .int) :: wAll) { frames := 0, cells := 0, slots := 0, locals := 0 } (cPc (eX cy ad) 93 ad D cy tX tY A [.ref (ad (7 * j + 1)), .int a1] x) (cQi (eX cy ad) 93 ad D A z) 0 0 A := by
  refine gMet hA (by decide) (Nat.le_of_ble_eq_true rfl) (fun p e s m below meth c hC H locs ls hP hS hl => ?_)
  have hC : Cf p s m _ meth c cX2_lengthOf 2 RX2 (some .int) D cy tX tY ad A 93 := hC
  have hl : lv_has ls 2 [(0, .ref (ad (7 * j + 1))), (1, .int a1)] := hl
  obtain ⟨hx, hb, -⟩ := id hC
  refine lv_aload_n hx hb dX2_lengthOf_0 rfl (lv_at hl 0 rfl) ?_
  refine gfX2_18 hC hP hj dX2_lengthOf_1 ?_
  refine lv_iload_n hx hb dX2_lengthOf_4 rfl (lv_at hl 1 rfl) ?_
  refine lv_iconst (v := 1) hx hb dX2_lengthOf_5 (by decide) ?_
  refine lv_ishr hx hb dX2_lengthOf_6 ?_
  obtain ⟨h1, hf⟩ := ck_some hf
  refine gIal hC hP (7 * j + 4) (by omega) (eX_S3 hj cy ad _ _) h1 dX2_lengthOf_7 ?_
  exact gIret hC hP hS hf dX2_lengthOf_8
set_option maxHeartbeats 4000000 in
set_option maxRecDepth 100000 in
theorem kX5_tailOf (l : Launch) (D : va_G) (cy : Nat → ClassId) (tX tY : Nat) (ad : Nat → Nat) (A : Nat → Prop) (hA : apart ad A 93) (F : Nat) {j : Nat} (hj : j < 8) (x : HT) (a2 : Int32) {z : Int32 × HT} (hf : fX5_tailOf F j x a2 = some z) : Met l yX5_tailOf (Cond.code yX5_tailOf cX5_tailOf 3 (some .int) :: wAll) { frames := 1, cells := 0, slots := 0, locals := 21 } (cPc (eX cy ad) 93 ad D cy tX tY A [.ref (ad 63), .ref (ad (7 * j + 1)), .int a2] x) (cQi (eX cy ad) 93 ad D A z) 0 0 A := by
  refine gMet hA (by decide) (Nat.le_of_ble_eq_true rfl) (fun p e s m below meth c hC H locs ls hP hS hl => ?_)
  have hC : Cf p s m _ meth c cX5_tailOf 3 RX5 (some .int) D cy tX tY ad A 93 := hC
  have hl : lv_has ls 3 [(0, .ref (ad 63)), (1, .ref (ad (7 * j + 1))), (2, .int a2)] := hl
  obtain ⟨hx, hb, -⟩ := id hC
  refine lv_iconst (v := 0) hx hb dX5_tailOf_0 (by decide) ?_
  refine lv_aload_n hx hb dX5_tailOf_1 rfl (lv_at hl 1 rfl) ?_
  refine gfX5_50 hC hP hj dX5_tailOf_2 ?_
  refine lv_iload_n hx hb dX5_tailOf_5 rfl (lv_at hl 2 rfl) ?_
  obtain ⟨h1, hf⟩ := ck_some hf
  refine gIal hC hP (7 * j + 6) (by omega) (eX_S5 hj cy ad _ _) h1 dX5_tailOf_6 ?_
  refine lv_aload_n hx hb dX5_tailOf_7 rfl (lv_at hl 1 rfl) ?_
  refine lv_iload_n hx hb dX5_tailOf_8 rfl (lv_at hl 2 rfl) ?_
  obtain ⟨r3, x2, e4, hf⟩ := bd_some hf
  refine gVi (As := [.int a2]) (rest := [.int (x.1 (7 * j + 6) a2.toNatClampNeg), .int (0 : Int32)]) (k := (7 * j + 1)) hC hP hS (kX2_lengthOf l D cy tX tY ad A hC.2.2.2.2.2.2.2.2.1 F (j := j) hj x a2 e4) glX5_58 ⟨rfl, rfl⟩ hdX2_lengthOf ⟨Nat.le_of_ble_eq_true rfl, Nat.le_of_ble_eq_true rfl⟩ (by omega) (eX_S hj cy ad _ _) rfl rfl hl.1 rfl (Nat.le_of_ble_eq_true rfl) dX5_tailOf_9 ⟨Nat.zero_le _, Nat.zero_le _⟩ (fun H locs hP hS => ?_)
  refine lv_isub hx hb dX5_tailOf_12 ?_
  refine gmX5_61 hC hl.1 (Nat.le_of_ble_eq_true rfl) (Nat.le_of_ble_eq_true rfl) dX5_tailOf_13 ?_
  exact gIret hC hP hS hf dX5_tailOf_16
set_option maxHeartbeats 4000000 in
set_option maxRecDepth 100000 in
theorem kX5_headOf (l : Launch) (D : va_G) (cy : Nat → ClassId) (tX tY : Nat) (ad : Nat → Nat) (A : Nat → Prop) (hA : apart ad A 93) (F : Nat) {j : Nat} (hj : j < 8) (x : HT) (a2 : Int32) {z : Int32 × HT} (hf : fX5_headOf F j x a2 = some z) : Met l yX5_headOf (Cond.code yX5_headOf cX5_headOf 3 (some .int) :: wAll) { frames := 1, cells := 0, slots := 0, locals := 21 } (cPc (eX cy ad) 93 ad D cy tX tY A [.ref (ad 63), .ref (ad (7 * j + 1)), .int a2] x) (cQi (eX cy ad) 93 ad D A z) 0 0 A := by
  refine gMet hA (by decide) (Nat.le_of_ble_eq_true rfl) (fun p e s m below meth c hC H locs ls hP hS hl => ?_)
  have hC : Cf p s m _ meth c cX5_headOf 3 RX5 (some .int) D cy tX tY ad A 93 := hC
  have hl : lv_has ls 3 [(0, .ref (ad 63)), (1, .ref (ad (7 * j + 1))), (2, .int a2)] := hl
  obtain ⟨hx, hb, -⟩ := id hC
  refine lv_aload_n hx hb dX5_headOf_0 rfl (lv_at hl 1 rfl) ?_
  refine gfX5_50 hC hP hj dX5_headOf_1 ?_
  refine lv_iload_n hx hb dX5_headOf_4 rfl (lv_at hl 2 rfl) ?_
  obtain ⟨h1, hf⟩ := ck_some hf
  refine gIal hC hP (7 * j + 6) (by omega) (eX_S5 hj cy ad _ _) h1 dX5_headOf_5 ?_
  refine lv_aload_n hx hb dX5_headOf_6 rfl (lv_at hl 0 rfl) ?_
  refine gfX5_9 hC hP dX5_headOf_7 ?_
  refine lv_iload_n hx hb dX5_headOf_10 rfl (lv_at hl 2 rfl) ?_
  obtain ⟨h2, hf⟩ := ck_some hf
  refine gIal hC hP 64 (by decide) (eX_64 cy ad _ _) h2 dX5_headOf_11 ?_
  refine gmX5_53 hC hl.1 (Nat.le_of_ble_eq_true rfl) (Nat.le_of_ble_eq_true rfl) dX5_headOf_12 ?_
  exact gIret hC hP hS hf dX5_headOf_15
set_option maxHeartbeats 4000000 in
set_option maxRecDepth 100000 in
theorem kX5_channelOf (l : Launch) (D : va_G) (cy : Nat → ClassId) (tX tY : Nat) (ad : Nat → Nat) (A : Nat → Prop) (hA : apart ad A 93) (F : Nat) (x : HT) (a1 : Int32) (a2 : Int32) {z : Int32 × HT} (hf : fX5_channelOf F x a1 a2 = some z) : Met l yX5_channelOf (Cond.code yX5_channelOf cX5_channelOf 3 (some .int) :: wAll) { frames := 0, cells := 0, slots := 0, locals := 0 } (cPc (eX cy ad) 93 ad D cy tX tY A [.ref (ad 63), .int a1, .int a2] x) (cQi (eX cy ad) 93 ad D A z) 0 0 A := by
  refine gMet hA (by decide) (Nat.le_of_ble_eq_true rfl) (fun p e s m below meth c hC H locs ls hP hS hl => ?_)
  have hC : Cf p s m _ meth c cX5_channelOf 3 RX5 (some .int) D cy tX tY ad A 93 := hC
  have hl : lv_has ls 3 [(0, .ref (ad 63)), (1, .int a1), (2, .int a2)] := hl
  obtain ⟨hx, hb, -⟩ := id hC
  refine lv_aload_n hx hb dX5_channelOf_0 rfl (lv_at hl 0 rfl) ?_
  refine gfX5_20 hC hP dX5_channelOf_1 ?_
  refine lv_iload_n hx hb dX5_channelOf_4 rfl (lv_at hl 1 rfl) ?_
  obtain ⟨h1, hf⟩ := ck_some hf
  refine gRow hC hP 66 77 (by decide) (eX_66 cy ad _ _) h1 dX5_channelOf_5 ?_
  have hw2 := inb_lt h1
  refine lv_iload_n hx hb dX5_channelOf_6 rfl (lv_at hl 2 rfl) ?_
  obtain ⟨h3, hf⟩ := ck_some hf
  refine gIal hC hP (77 + a1.toNatClampNeg) (by omega) (eX_Q hw2 cy ad _ _) h3 dX5_channelOf_7 ?_
  exact gIret hC hP hS hf dX5_channelOf_8
set_option maxHeartbeats 4000000 in
set_option maxRecDepth 100000 in
theorem kX4_mark (l : Launch) (D : va_G) (cy : Nat → ClassId) (tX tY : Nat) (ad : Nat → Nat) (A : Nat → Prop) (hA : apart ad A 93) (F : Nat) (x : HT) (a1 : Int32) (a2 : Int32) {z : Unit × HT} (hf : fX4_mark F x a1 a2 = some z) : Met l yX4_mark (Cond.code yX4_mark cX4_mark 3 none :: wAll) { frames := 0, cells := 0, slots := 0, locals := 0 } (cPc (eX cy ad) 93 ad D cy tX tY A [.ref (ad 87), .int a1, .int a2] x) (cQv (eX cy ad) 93 ad D A z) 0 0 A := by
  refine gMet hA (by decide) (Nat.le_of_ble_eq_true rfl) (fun p e s m below meth c hC H locs ls hP hS hl => ?_)
  have hC : Cf p s m _ meth c cX4_mark 3 RX4 none D cy tX tY ad A 93 := hC
  have hl : lv_has ls 3 [(0, .ref (ad 87)), (1, .int a1), (2, .int a2)] := hl
  obtain ⟨hx, hb, -⟩ := id hC
  refine lv_iload_n hx hb dX4_mark_0 rfl (lv_at hl 1 rfl) ?_
  refine lv_if_lt (tgt := 18) hx hb dX4_mark_1 (by decide) (fun c1 => ?_) (fun c1 => ?_)
  · have hf := it_t c1 hf
    exact gVret hC hP hS hf dX4_mark_18
  · have hf := it_f c1 hf
    refine lv_iload_n hx hb dX4_mark_4 rfl (lv_at hl 1 rfl) ?_
    refine lv_sipush (v := 144) hx hb dX4_mark_5 (by decide) ?_
    refine lv_icmp_ge (tgt := 18) hx hb dX4_mark_8 (by decide) (fun c2 => ?_) (fun c2 => ?_)
    · have hf := it_t c2 hf
      exact gVret hC hP hS hf dX4_mark_18
    · have hf := it_f c2 hf
      refine lv_aload_n hx hb dX4_mark_11 rfl (lv_at hl 0 rfl) ?_
      refine gfX4_9 hC hP dX4_mark_12 ?_
      refine lv_iload_n hx hb dX4_mark_15 rfl (lv_at hl 1 rfl) ?_
      refine lv_iload_n hx hb dX4_mark_16 rfl (lv_at hl 2 rfl) ?_
      obtain ⟨h3, hf⟩ := ck_some hf
      refine gZas hC hP hS 88 (by decide) (fun g9 => eX_88 cy ad g9 _) h3 dX4_mark_17 (fun H locs hP hS => ?_)
      obtain ⟨x4, e5, hf⟩ := lt_some hf
      have hP : va_P D vwCl (wG (eX cy ad) 93 ad x4) H := by rw [e5]; exact hP
      exact gVret hC hP hS hf dX4_mark_18
set_option maxHeartbeats 4000000 in
set_option maxRecDepth 100000 in
theorem tX4_enter_40b (hC : Cf p s m args meth c cX4_enter 5 RX4 none D cy tX tY ad A 93) (F : Nat) {z : Unit × HT} {j : Nat} (hj : j < 8) (rec24 : HT → Int32 → Option (Unit × HT)) (hrec24 : ∀ (x : HT) (a3 : Int32), rec24 x a3 = some z → Wd p l e { frames := 2, cells := 0, slots := 0, locals := 43 } s m args below meth c D (eX cy ad) 93 ad A (cQv (eX cy ad) 93 ad D A z) 5 24 [(0, .ref (ad 87)), (1, .ref (ad 63)), (2, .ref (ad (7 * j + 1))), (3, .int a3)] [] x) (rec40 : HT → Int32 → Int32 → Option (Unit × HT)) (hrec40 : ∀ (x : HT) (a3 : Int32) (a4 : Int32), rec40 x a3 a4 = some z → Wd p l e { frames := 2, cells := 0, slots := 0, locals := 43 } s m args below meth c D (eX cy ad) 93 ad A (cQv (eX cy ad) 93 ad D A z) 5 40 [(0, .ref (ad 87)), (1, .ref (ad 63)), (2, .ref (ad (7 * j + 1))), (3, .int a3), (4, .int a4)] [] x) : ∀ (x : HT) (a3 : Int32) (a4 : Int32), fX4_enter_40b F rec24 rec40 j x a3 a4 = some z → Wd p l e { frames := 2, cells := 0, slots := 0, locals := 43 } s m args below meth c D (eX cy ad) 93 ad A (cQv (eX cy ad) 93 ad D A z) 5 40 [(0, .ref (ad 87)), (1, .ref (ad 63)), (2, .ref (ad (7 * j + 1))), (3, .int a3), (4, .int a4)] [] x := by
  intro x a3 a4 hf H locs ls hP hS hl
  obtain ⟨hx, hb, -⟩ := id hC
  refine lv_iload hx hb dX4_enter_40 (lv_at hl 4 rfl) ?_
  refine lv_aload_n hx hb dX4_enter_42 rfl (lv_at hl 1 rfl) ?_
  refine lv_aload_n hx hb dX4_enter_43 rfl (lv_at hl 2 rfl) ?_
  refine lv_iload_n hx hb dX4_enter_44 rfl (lv_at hl 3 rfl) ?_
  obtain ⟨r15, x14, e16, hf⟩ := bd_some hf
  refine gVi (As := [.ref (ad (7 * j + 1)), .int a3]) (rest := [.int a4]) (k := 63) hC hP hS (kX5_headOf l D cy tX tY ad A hC.2.2.2.2.2.2.2.2.1 F (j := j) hj x a3 e16) glX4_27 ⟨rfl, rfl⟩ hdX5_headOf ⟨Nat.le_of_ble_eq_true rfl, Nat.le_of_ble_eq_true rfl⟩ (by decide) (eX_63 cy ad _ _) rfl rfl hl.1 rfl (Nat.le_of_ble_eq_true rfl) dX4_enter_45 ⟨Nat.zero_le _, Nat.zero_le _⟩ (fun H locs hP hS => ?_)
  refine lv_icmp_ge (tgt := 69) hx hb dX4_enter_48 (by decide) (fun c17 => ?_) (fun c17 => ?_)
  · have hf := it_t c17 hf
    obtain ⟨b18, e19, hf⟩ := lt_some hf
    refine lv_iinc (v := b18) (lv' := [(3, .int b18), (0, .ref (ad 87)), (1, .ref (ad 63)), (2, .ref (ad (7 * j + 1))), (4, .int a4)]) hx hb dX4_enter_69 hl (k := 3) rfl (by rw [e19]; rfl) (by decide) rfl (fun ls hl => ?_)
    refine lv_goto (tgt := 24) hx hb dX4_enter_72 (by decide) ?_
    exact hrec24 x14 b18 hf H locs ls hP hS (lv_sub hl [1, 2, 3, 0] rfl)
  · have hf := it_f c17 hf
    refine lv_aload_n hx hb dX4_enter_51 rfl (lv_at hl 0 rfl) ?_
    refine lv_aload_n hx hb dX4_enter_52 rfl (lv_at hl 1 rfl) ?_
    refine lv_iload_n hx hb dX4_enter_53 rfl (lv_at hl 3 rfl) ?_
    refine lv_iload hx hb dX4_enter_54 (lv_at hl 4 rfl) ?_
    obtain ⟨r21, x20, e22, hf⟩ := bd_some hf
    refine gVi (As := [.int a3, .int a4]) (rest := [.ref (ad 87)]) (k := 63) hC hP hS (kX5_channelOf l D cy tX tY ad A hC.2.2.2.2.2.2.2.2.1 F x14 a3 a4 e22) glX4_30 ⟨rfl, rfl⟩ hdX5_channelOf ⟨Nat.le_of_ble_eq_true rfl, Nat.le_of_ble_eq_true rfl⟩ (by decide) (eX_63 cy ad _ _) rfl rfl hl.1 rfl (Nat.le_of_ble_eq_true rfl) dX4_enter_56 ⟨Nat.zero_le _, Nat.zero_le _⟩ (fun H locs hP hS => ?_)
    refine lv_iconst (v := 1) hx hb dX4_enter_59 (by decide) ?_
    obtain ⟨r24, x23, e25, hf⟩ := bd_some hf
    refine gVv (As := [.int r21, .int (1 : Int32)]) (rest := []) (k := 87) hC hP hS (kX4_mark l D cy tX tY ad A hC.2.2.2.2.2.2.2.2.1 F x20 r21 (1 : Int32) e25) glX4_34 ⟨rfl, rfl⟩ hdX4_mark ⟨Nat.le_of_ble_eq_true rfl, Nat.le_of_ble_eq_true rfl⟩ (by decide) (eX_87 cy ad _ _) rfl rfl hl.1 rfl (Nat.le_of_ble_eq_true rfl) dX4_enter_60 ⟨Nat.zero_le _, Nat.zero_le _⟩ (fun H locs hP hS => ?_)
    obtain ⟨b26, e27, hf⟩ := lt_some hf
    refine lv_iinc (v := b26) (lv' := [(4, .int b26), (0, .ref (ad 87)), (1, .ref (ad 63)), (2, .ref (ad (7 * j + 1))), (3, .int a3)]) hx hb dX4_enter_63 hl (k := 4) rfl (by rw [e27]; rfl) (by decide) rfl (fun ls hl => ?_)
    refine lv_goto (tgt := 40) hx hb dX4_enter_66 (by decide) ?_
    exact hrec40 x23 a3 b26 hf H locs ls hP hS (lv_sub hl [1, 2, 3, 4, 0] rfl)
theorem tX4_enter_40 (hC : Cf p s m args meth c cX4_enter 5 RX4 none D cy tX tY ad A 93) (F : Nat) {z : Unit × HT} {j : Nat} (hj : j < 8) (rec24 : HT → Int32 → Option (Unit × HT)) (hrec24 : ∀ (x : HT) (a3 : Int32), rec24 x a3 = some z → Wd p l e { frames := 2, cells := 0, slots := 0, locals := 43 } s m args below meth c D (eX cy ad) 93 ad A (cQv (eX cy ad) 93 ad D A z) 5 24 [(0, .ref (ad 87)), (1, .ref (ad 63)), (2, .ref (ad (7 * j + 1))), (3, .int a3)] [] x) : ∀ (n9 : Nat) (x : HT) (a3 : Int32) (a4 : Int32), fX4_enter_40 F rec24 j n9 x a3 a4 = some z → Wd p l e { frames := 2, cells := 0, slots := 0, locals := 43 } s m args below meth c D (eX cy ad) 93 ad A (cQv (eX cy ad) 93 ad D A z) 5 40 [(0, .ref (ad 87)), (1, .ref (ad 63)), (2, .ref (ad (7 * j + 1))), (3, .int a3), (4, .int a4)] [] x := by
  intro n9
  induction n9 with
  | zero => intro x a3 a4 hf; cases hf
  | succ n9 ih => intro x a3 a4 hf; exact tX4_enter_40b hC F hj rec24 hrec24 (fX4_enter_40 F rec24 j n9) ih x a3 a4 hf
set_option maxHeartbeats 4000000 in
set_option maxRecDepth 100000 in
theorem tX4_enter_24b (hC : Cf p s m args meth c cX4_enter 5 RX4 none D cy tX tY ad A 93) (F : Nat) {z : Unit × HT} {j : Nat} (hj : j < 8) (rec24 : HT → Int32 → Option (Unit × HT)) (hrec24 : ∀ (x : HT) (a3 : Int32), rec24 x a3 = some z → Wd p l e { frames := 2, cells := 0, slots := 0, locals := 43 } s m args below meth c D (eX cy ad) 93 ad A (cQv (eX cy ad) 93 ad D A z) 5 24 [(0, .ref (ad 87)), (1, .ref (ad 63)), (2, .ref (ad (7 * j + 1))), (3, .int a3)] [] x) : ∀ (x : HT) (a3 : Int32), fX4_enter_24b F rec24 j x a3 = some z → Wd p l e { frames := 2, cells := 0, slots := 0, locals := 43 } s m args below meth c D (eX cy ad) 93 ad A (cQv (eX cy ad) 93 ad D A z) 5 24 [(0, .ref (ad 87)), (1, .ref (ad 63)), (2, .ref (ad (7 * j + 1))), (3, .int a3)] [] x := by
  intro x a3 hf H locs ls hP hS hl
  obtain ⟨hx, hb, -⟩ := id hC
  refine lv_iload_n hx hb dX4_enter_24 rfl (lv_at hl 3 rfl) ?_
  refine lv_aload_n hx hb dX4_enter_25 rfl (lv_at hl 2 rfl) ?_
  obtain ⟨r8, x7, e9, hf⟩ := bd_some hf
  refine gVi (As := []) (rest := [.int a3]) (k := (7 * j + 1)) hC hP hS (kX2_worms l D cy tX tY ad A hC.2.2.2.2.2.2.2.2.1 F (j := j) hj x e9) glX4_15 ⟨rfl, rfl⟩ hdX2_worms ⟨Nat.le_of_ble_eq_true rfl, Nat.le_of_ble_eq_true rfl⟩ (by omega) (eX_S hj cy ad _ _) rfl rfl hl.1 rfl (Nat.le_of_ble_eq_true rfl) dX4_enter_26 ⟨Nat.zero_le _, Nat.zero_le _⟩ (fun H locs hP hS => ?_)
  refine lv_icmp_ge (tgt := 75) hx hb dX4_enter_29 (by decide) (fun c10 => ?_) (fun c10 => ?_)
  · have hf := it_t c10 hf
    exact gVret hC hP hS hf dX4_enter_75
  · have hf := it_f c10 hf
    refine lv_aload_n hx hb dX4_enter_32 rfl (lv_at hl 1 rfl) ?_
    refine lv_aload_n hx hb dX4_enter_33 rfl (lv_at hl 2 rfl) ?_
    refine lv_iload_n hx hb dX4_enter_34 rfl (lv_at hl 3 rfl) ?_
    obtain ⟨r12, x11, e13, hf⟩ := bd_some hf
    refine gVi (As := [.ref (ad (7 * j + 1)), .int a3]) (rest := []) (k := 63) hC hP hS (kX5_tailOf l D cy tX tY ad A hC.2.2.2.2.2.2.2.2.1 F (j := j) hj x7 a3 e13) glX4_21 ⟨rfl, rfl⟩ hdX5_tailOf ⟨Nat.le_of_ble_eq_true rfl, Nat.le_of_ble_eq_true rfl⟩ (by decide) (eX_63 cy ad _ _) rfl rfl hl.1 rfl (Nat.le_of_ble_eq_true rfl) dX4_enter_35 ⟨Nat.zero_le _, Nat.zero_le _⟩ (fun H locs hP hS => ?_)
    refine lv_istore (lv' := [(4, .int r12), (0, .ref (ad 87)), (1, .ref (ad 63)), (2, .ref (ad (7 * j + 1))), (3, .int a3)]) hx hb dX4_enter_38 hl (by decide) rfl (fun ls hl => ?_)
    exact tX4_enter_40 hC F hj rec24 hrec24 F x11 a3 r12 hf H locs ls hP hS (lv_sub hl [1, 2, 3, 4, 0] rfl)
theorem tX4_enter_24 (hC : Cf p s m args meth c cX4_enter 5 RX4 none D cy tX tY ad A 93) (F : Nat) {z : Unit × HT} {j : Nat} (hj : j < 8) : ∀ (n9 : Nat) (x : HT) (a3 : Int32), fX4_enter_24 F j n9 x a3 = some z → Wd p l e { frames := 2, cells := 0, slots := 0, locals := 43 } s m args below meth c D (eX cy ad) 93 ad A (cQv (eX cy ad) 93 ad D A z) 5 24 [(0, .ref (ad 87)), (1, .ref (ad 63)), (2, .ref (ad (7 * j + 1))), (3, .int a3)] [] x := by
  intro n9
  induction n9 with
  | zero => intro x a3 hf; cases hf
  | succ n9 ih => intro x a3 hf; exact tX4_enter_24b hC F hj (fX4_enter_24 F j n9) ih x a3 hf
set_option maxHeartbeats 4000000 in
set_option maxRecDepth 100000 in
theorem tX4_enter_2b (hC : Cf p s m args meth c cX4_enter 5 RX4 none D cy tX tY ad A 93) (F : Nat) {z : Unit × HT} {j : Nat} (hj : j < 8) (rec2 : HT → Int32 → Option (Unit × HT)) (hrec2 : ∀ (x : HT) (a3 : Int32), rec2 x a3 = some z → Wd p l e { frames := 2, cells := 0, slots := 0, locals := 43 } s m args below meth c D (eX cy ad) 93 ad A (cQv (eX cy ad) 93 ad D A z) 5 2 [(0, .ref (ad 87)), (1, .ref (ad 63)), (2, .ref (ad (7 * j + 1))), (3, .int a3)] [] x) : ∀ (x : HT) (a3 : Int32), fX4_enter_2b F rec2 j x a3 = some z → Wd p l e { frames := 2, cells := 0, slots := 0, locals := 43 } s m args below meth c D (eX cy ad) 93 ad A (cQv (eX cy ad) 93 ad D A z) 5 2 [(0, .ref (ad 87)), (1, .ref (ad 63)), (2, .ref (ad (7 * j + 1))), (3, .int a3)] [] x := by
  intro x a3 hf H locs ls hP hS hl
  obtain ⟨hx, hb, -⟩ := id hC
  refine lv_iload_n hx hb dX4_enter_2 rfl (lv_at hl 3 rfl) ?_
  refine lv_sipush (v := 144) hx hb dX4_enter_3 (by decide) ?_
  refine lv_icmp_ge (tgt := 22) hx hb dX4_enter_6 (by decide) (fun c1 => ?_) (fun c1 => ?_)
  · have hf := it_t c1 hf
    refine lv_iconst (v := 0) hx hb dX4_enter_22 (by decide) ?_
    refine lv_istore_n (lv' := [(3, .int (0 : Int32)), (0, .ref (ad 87)), (1, .ref (ad 63)), (2, .ref (ad (7 * j + 1)))]) hx hb dX4_enter_23 rfl hl (by decide) rfl (fun ls hl => ?_)
    exact tX4_enter_24 hC F hj F x (0 : Int32) hf H locs ls hP hS (lv_sub hl [1, 2, 3, 0] rfl)
  · have hf := it_f c1 hf
    refine lv_aload_n hx hb dX4_enter_9 rfl (lv_at hl 0 rfl) ?_
    refine gfX4_9 hC hP dX4_enter_10 ?_
    refine lv_iload_n hx hb dX4_enter_13 rfl (lv_at hl 3 rfl) ?_
    refine lv_iconst (v := 0) hx hb dX4_enter_14 (by decide) ?_
    obtain ⟨h2, hf⟩ := ck_some hf
    refine gZas hC hP hS 88 (by decide) (fun g9 => eX_88 cy ad g9 _) h2 dX4_enter_15 (fun H locs hP hS => ?_)
    obtain ⟨x3, e4, hf⟩ := lt_some hf
    have hP : va_P D vwCl (wG (eX cy ad) 93 ad x3) H := by rw [e4]; exact hP
    obtain ⟨b5, e6, hf⟩ := lt_some hf
    refine lv_iinc (v := b5) (lv' := [(3, .int b5), (0, .ref (ad 87)), (1, .ref (ad 63)), (2, .ref (ad (7 * j + 1)))]) hx hb dX4_enter_16 hl (k := 3) rfl (by rw [e6]; rfl) (by decide) rfl (fun ls hl => ?_)
    refine lv_goto (tgt := 2) hx hb dX4_enter_19 (by decide) ?_
    exact hrec2 x3 b5 hf H locs ls hP hS (lv_sub hl [1, 2, 3, 0] rfl)
theorem tX4_enter_2 (hC : Cf p s m args meth c cX4_enter 5 RX4 none D cy tX tY ad A 93) (F : Nat) {z : Unit × HT} {j : Nat} (hj : j < 8) : ∀ (n9 : Nat) (x : HT) (a3 : Int32), fX4_enter_2 F j n9 x a3 = some z → Wd p l e { frames := 2, cells := 0, slots := 0, locals := 43 } s m args below meth c D (eX cy ad) 93 ad A (cQv (eX cy ad) 93 ad D A z) 5 2 [(0, .ref (ad 87)), (1, .ref (ad 63)), (2, .ref (ad (7 * j + 1))), (3, .int a3)] [] x := by
  intro n9
  induction n9 with
  | zero => intro x a3 hf; cases hf
  | succ n9 ih => intro x a3 hf; exact tX4_enter_2b hC F hj (fX4_enter_2 F j n9) ih x a3 hf
set_option maxHeartbeats 4000000 in
set_option maxRecDepth 100000 in
theorem kX4_enter (l : Launch) (D : va_G) (cy : Nat → ClassId) (tX tY : Nat) (ad : Nat → Nat) (A : Nat → Prop) (hA : apart ad A 93) (F : Nat) {j : Nat} (hj : j < 8) (x : HT) {z : Unit × HT} (hf : fX4_enter F j x = some z) : Met l yX4_enter (Cond.code yX4_enter cX4_enter 5 none :: wAll) { frames := 2, cells := 0, slots := 0, locals := 43 } (cPc (eX cy ad) 93 ad D cy tX tY A [.ref (ad 87), .ref (ad 63), .ref (ad (7 * j + 1))] x) (cQv (eX cy ad) 93 ad D A z) 0 0 A := by
  refine gMet hA (by decide) (Nat.le_of_ble_eq_true rfl) (fun p e s m below meth c hC H locs ls hP hS hl => ?_)
  have hC : Cf p s m _ meth c cX4_enter 5 RX4 none D cy tX tY ad A 93 := hC
  have hl : lv_has ls 5 [(0, .ref (ad 87)), (1, .ref (ad 63)), (2, .ref (ad (7 * j + 1)))] := hl
  obtain ⟨hx, hb, -⟩ := id hC
  refine lv_iconst (v := 0) hx hb dX4_enter_0 (by decide) ?_
  refine lv_istore_n (lv' := [(3, .int (0 : Int32)), (0, .ref (ad 87)), (1, .ref (ad 63)), (2, .ref (ad (7 * j + 1)))]) hx hb dX4_enter_1 rfl hl (by decide) rfl (fun ls hl => ?_)
  exact tX4_enter_2 hC F hj F x (0 : Int32) hf H locs ls hP hS (lv_sub hl [1, 2, 3, 0] rfl)
set_option maxHeartbeats 4000000 in
set_option maxRecDepth 100000 in
theorem tX5_isDone_30 (hC : Cf p s m args meth c cX5_isDone 3 RX5 (some .boolean) D cy tX tY ad A 93) (F : Nat) {z : Int32 × HT} {j : Nat} (hj : j < 8) : ∀ (x : HT), fX5_isDone_30 F j x = some z → Wd p l e { frames := 1, cells := 0, slots := 0, locals := 21 } s m args below meth c D (eX cy ad) 93 ad A (cQi (eX cy ad) 93 ad D A z) 3 30 [] [] x := by
  intro x hf H locs ls hP hS hl
  obtain ⟨hx, hb, -⟩ := id hC
  refine lv_iconst (v := 1) hx hb dX5_isDone_30 (by decide) ?_
  refine lv_goto (tgt := 35) hx hb dX5_isDone_31 (by decide) ?_
  exact gZret hC hP hS rfl hf dX5_isDone_35
set_option maxHeartbeats 4000000 in
set_option maxRecDepth 100000 in
theorem kX5_isDone (l : Launch) (D : va_G) (cy : Nat → ClassId) (tX tY : Nat) (ad : Nat → Nat) (A : Nat → Prop) (hA : apart ad A 93) (F : Nat) {j : Nat} (hj : j < 8) (x : HT) (a2 : Int32) {z : Int32 × HT} (hf : fX5_isDone F j x a2 = some z) : Met l yX5_isDone (Cond.code yX5_isDone cX5_isDone 3 (some .boolean) :: wAll) { frames := 1, cells := 0, slots := 0, locals := 21 } (cPc (eX cy ad) 93 ad D cy tX tY A [.ref (ad 63), .ref (ad (7 * j + 1)), .int a2] x) (cQi (eX cy ad) 93 ad D A z) 0 0 A := by
  refine gMet hA (by decide) (Nat.le_of_ble_eq_true rfl) (fun p e s m below meth c hC H locs ls hP hS hl => ?_)
  have hC : Cf p s m _ meth c cX5_isDone 3 RX5 (some .boolean) D cy tX tY ad A 93 := hC
  have hl : lv_has ls 3 [(0, .ref (ad 63)), (1, .ref (ad (7 * j + 1))), (2, .int a2)] := hl
  obtain ⟨hx, hb, -⟩ := id hC
  refine lv_aload_n hx hb dX5_isDone_0 rfl (lv_at hl 0 rfl) ?_
  refine gfX5_9 hC hP dX5_isDone_1 ?_
  refine lv_iload_n hx hb dX5_isDone_4 rfl (lv_at hl 2 rfl) ?_
  obtain ⟨h1, hf⟩ := ck_some hf
  refine gIal hC hP 64 (by decide) (eX_64 cy ad _ _) h1 dX5_isDone_5 ?_
  refine lv_if_eq (tgt := 30) hx hb dX5_isDone_6 (by decide) (fun c2 => ?_) (fun c2 => ?_)
  · have hf := it_t c2 hf
    exact tX5_isDone_30 hC F hj x hf H locs ls hP hS (lv_sub hl [] rfl)
  · have hf := it_f c2 hf
    refine lv_aload_n hx hb dX5_isDone_9 rfl (lv_at hl 1 rfl) ?_
    refine gfX5_50 hC hP hj dX5_isDone_10 ?_
    refine lv_iload_n hx hb dX5_isDone_13 rfl (lv_at hl 2 rfl) ?_
    obtain ⟨h3, hf⟩ := ck_some hf
    refine gIal hC hP (7 * j + 6) (by omega) (eX_S5 hj cy ad _ _) h3 dX5_isDone_14 ?_
    refine lv_aload_n hx hb dX5_isDone_15 rfl (lv_at hl 0 rfl) ?_
    refine gfX5_9 hC hP dX5_isDone_16 ?_
    refine lv_iload_n hx hb dX5_isDone_19 rfl (lv_at hl 2 rfl) ?_
    obtain ⟨h4, hf⟩ := ck_some hf
    refine gIal hC hP 64 (by decide) (eX_64 cy ad _ _) h4 dX5_isDone_20 ?_
    refine lv_aload_n hx hb dX5_isDone_21 rfl (lv_at hl 1 rfl) ?_
    refine lv_iload_n hx hb dX5_isDone_22 rfl (lv_at hl 2 rfl) ?_
    obtain ⟨r6, x5, e7, hf⟩ := bd_some hf
    refine gVi (As := [.int a2]) (rest := [.int (x.1 64 a2.toNatClampNeg), .int (x.1 (7 * j + 6) a2.toNatClampNeg)]) (k := (7 * j + 1)) hC hP hS (kX2_lengthOf l D cy tX tY ad A hC.2.2.2.2.2.2.2.2.1 F (j := j) hj x a2 e7) glX5_58 ⟨rfl, rfl⟩ hdX2_lengthOf ⟨Nat.le_of_ble_eq_true rfl, Nat.le_of_ble_eq_true rfl⟩ (by omega) (eX_S hj cy ad _ _) rfl rfl hl.1 rfl (Nat.le_of_ble_eq_true rfl) dX5_isDone_23 ⟨Nat.zero_le _, Nat.zero_le _⟩ (fun H locs hP hS => ?_)
    refine lv_iadd hx hb dX5_isDone_26 ?_
    refine lv_icmp_lt (tgt := 34) hx hb dX5_isDone_27 (by decide) (fun c8 => ?_) (fun c8 => ?_)
    · have hf := it_t c8 hf
      refine lv_iconst (v := 0) hx hb dX5_isDone_34 (by decide) ?_
      exact gZret hC hP hS rfl hf dX5_isDone_35
    · have hf := it_f c8 hf
      exact tX5_isDone_30 hC F hj x5 hf H locs ls hP hS (lv_sub hl [] rfl)
set_option maxHeartbeats 4000000 in
set_option maxRecDepth 100000 in
theorem kX5_channelsOf (l : Launch) (D : va_G) (cy : Nat → ClassId) (tX tY : Nat) (ad : Nat → Nat) (A : Nat → Prop) (hA : apart ad A 93) (F : Nat) (x : HT) (a1 : Int32) {z : Int32 × HT} (hf : fX5_channelsOf F x a1 = some z) : Met l yX5_channelsOf (Cond.code yX5_channelsOf cX5_channelsOf 2 (some .int) :: wAll) { frames := 0, cells := 0, slots := 0, locals := 0 } (cPc (eX cy ad) 93 ad D cy tX tY A [.ref (ad 63), .int a1] x) (cQi (eX cy ad) 93 ad D A z) 0 0 A := by
  refine gMet hA (by decide) (Nat.le_of_ble_eq_true rfl) (fun p e s m below meth c hC H locs ls hP hS hl => ?_)
  have hC : Cf p s m _ meth c cX5_channelsOf 2 RX5 (some .int) D cy tX tY ad A 93 := hC
  have hl : lv_has ls 2 [(0, .ref (ad 63)), (1, .int a1)] := hl
  obtain ⟨hx, hb, -⟩ := id hC
  refine lv_aload_n hx hb dX5_channelsOf_0 rfl (lv_at hl 0 rfl) ?_
  refine gfX5_9 hC hP dX5_channelsOf_1 ?_
  refine lv_iload_n hx hb dX5_channelsOf_4 rfl (lv_at hl 1 rfl) ?_
  obtain ⟨h1, hf⟩ := ck_some hf
  refine gIal hC hP 64 (by decide) (eX_64 cy ad _ _) h1 dX5_channelsOf_5 ?_
  exact gIret hC hP hS hf dX5_channelsOf_6
set_option maxHeartbeats 4000000 in
set_option maxRecDepth 100000 in
theorem tX4_isTaken_24 (hC : Cf p s m args meth c cX4_isTaken 2 RX4 (some .boolean) D cy tX tY ad A 93) (F : Nat) {z : Int32 × HT} : ∀ (x : HT), fX4_isTaken_24 F x = some z → Wd p l e { frames := 0, cells := 0, slots := 0, locals := 0 } s m args below meth c D (eX cy ad) 93 ad A (cQi (eX cy ad) 93 ad D A z) 2 24 [] [] x := by
  intro x hf H locs ls hP hS hl
  obtain ⟨hx, hb, -⟩ := id hC
  refine lv_iconst (v := 0) hx hb dX4_isTaken_24 (by decide) ?_
  exact gZret hC hP hS rfl hf dX4_isTaken_25
set_option maxHeartbeats 4000000 in
set_option maxRecDepth 100000 in
theorem kX4_isTaken (l : Launch) (D : va_G) (cy : Nat → ClassId) (tX tY : Nat) (ad : Nat → Nat) (A : Nat → Prop) (hA : apart ad A 93) (F : Nat) (x : HT) (a1 : Int32) {z : Int32 × HT} (hf : fX4_isTaken F x a1 = some z) : Met l yX4_isTaken (Cond.code yX4_isTaken cX4_isTaken 2 (some .boolean) :: wAll) { frames := 0, cells := 0, slots := 0, locals := 0 } (cPc (eX cy ad) 93 ad D cy tX tY A [.ref (ad 87), .int a1] x) (cQi (eX cy ad) 93 ad D A z) 0 0 A := by
  refine gMet hA (by decide) (Nat.le_of_ble_eq_true rfl) (fun p e s m below meth c hC H locs ls hP hS hl => ?_)
  have hC : Cf p s m _ meth c cX4_isTaken 2 RX4 (some .boolean) D cy tX tY ad A 93 := hC
  have hl : lv_has ls 2 [(0, .ref (ad 87)), (1, .int a1)] := hl
  obtain ⟨hx, hb, -⟩ := id hC
  refine lv_iload_n hx hb dX4_isTaken_0 rfl (lv_at hl 1 rfl) ?_
  refine lv_if_lt (tgt := 24) hx hb dX4_isTaken_1 (by decide) (fun c1 => ?_) (fun c1 => ?_)
  · have hf := it_t c1 hf
    exact tX4_isTaken_24 hC F x hf H locs ls hP hS (lv_sub hl [] rfl)
  · have hf := it_f c1 hf
    refine lv_iload_n hx hb dX4_isTaken_4 rfl (lv_at hl 1 rfl) ?_
    refine lv_sipush (v := 144) hx hb dX4_isTaken_5 (by decide) ?_
    refine lv_icmp_ge (tgt := 24) hx hb dX4_isTaken_8 (by decide) (fun c2 => ?_) (fun c2 => ?_)
    · have hf := it_t c2 hf
      exact tX4_isTaken_24 hC F x hf H locs ls hP hS (lv_sub hl [] rfl)
    · have hf := it_f c2 hf
      refine lv_aload_n hx hb dX4_isTaken_11 rfl (lv_at hl 0 rfl) ?_
      refine gfX4_9 hC hP dX4_isTaken_12 ?_
      refine lv_iload_n hx hb dX4_isTaken_15 rfl (lv_at hl 1 rfl) ?_
      obtain ⟨h3, hf⟩ := ck_some hf
      refine gZal hC hP 88 (by decide) (eX_88 cy ad _ _) h3 dX4_isTaken_16 ?_
      refine lv_if_eq (tgt := 24) hx hb dX4_isTaken_17 (by decide) (fun c4 => ?_) (fun c4 => ?_)
      · have hf := it_t c4 hf
        exact tX4_isTaken_24 hC F x hf H locs ls hP hS (lv_sub hl [] rfl)
      · have hf := it_f c4 hf
        refine lv_iconst (v := 1) hx hb dX4_isTaken_20 (by decide) ?_
        refine lv_goto (tgt := 25) hx hb dX4_isTaken_21 (by decide) ?_
        exact gZret hC hP hS rfl hf dX4_isTaken_25
set_option maxHeartbeats 4000000 in
set_option maxRecDepth 100000 in
theorem tX4_isStopped_47 (hC : Cf p s m args meth c cX4_isStopped 6 RX4 (some .boolean) D cy tX tY ad A 93) (F : Nat) {z : Int32 × HT} {j : Nat} (hj : j < 8) : ∀ (x : HT), fX4_isStopped_47 F j x = some z → Wd p l e { frames := 1, cells := 0, slots := 0, locals := 22 } s m args below meth c D (eX cy ad) 93 ad A (cQi (eX cy ad) 93 ad D A z) 6 47 [] [] x := by
  intro x hf H locs ls hP hS hl
  obtain ⟨hx, hb, -⟩ := id hC
  refine lv_iconst (v := 1) hx hb dX4_isStopped_47 (by decide) ?_
  refine lv_goto (tgt := 52) hx hb dX4_isStopped_48 (by decide) ?_
  exact gZret hC hP hS rfl hf dX4_isStopped_52
set_option maxHeartbeats 4000000 in
set_option maxRecDepth 100000 in
theorem kX4_isStopped (l : Launch) (D : va_G) (cy : Nat → ClassId) (tX tY : Nat) (ad : Nat → Nat) (A : Nat → Prop) (hA : apart ad A 93) (F : Nat) {j : Nat} (hj : j < 8) (x : HT) (a3 : Int32) {z : Int32 × HT} (hf : fX4_isStopped F j x a3 = some z) : Met l yX4_isStopped (Cond.code yX4_isStopped cX4_isStopped 6 (some .boolean) :: wAll) { frames := 1, cells := 0, slots := 0, locals := 22 } (cPc (eX cy ad) 93 ad D cy tX tY A [.ref (ad 87), .ref (ad 63), .ref (ad (7 * j + 1)), .int a3] x) (cQi (eX cy ad) 93 ad D A z) 0 0 A := by
  refine gMet hA (by decide) (Nat.le_of_ble_eq_true rfl) (fun p e s m below meth c hC H locs ls hP hS hl => ?_)
  have hC : Cf p s m _ meth c cX4_isStopped 6 RX4 (some .boolean) D cy tX tY ad A 93 := hC
  have hl : lv_has ls 6 [(0, .ref (ad 87)), (1, .ref (ad 63)), (2, .ref (ad (7 * j + 1))), (3, .int a3)] := hl
  obtain ⟨hx, hb, -⟩ := id hC
  refine lv_aload_n hx hb dX4_isStopped_0 rfl (lv_at hl 2 rfl) ?_
  refine gfX4_65 hC hP hj dX4_isStopped_1 ?_
  refine lv_iload_n hx hb dX4_isStopped_4 rfl (lv_at hl 3 rfl) ?_
  obtain ⟨h1, hf⟩ := ck_some hf
  refine gIal hC hP (7 * j + 6) (by omega) (eX_S5 hj cy ad _ _) h1 dX4_isStopped_5 ?_
  refine lv_topi (fun b2 e3 => ?_)
  have hf := lt_use e3 hf
  refine lv_istore (lv' := [(4, .int b2), (0, .ref (ad 87)), (1, .ref (ad 63)), (2, .ref (ad (7 * j + 1))), (3, .int a3)]) hx hb dX4_isStopped_6 hl (by decide) rfl (fun ls hl => ?_)
  refine lv_iload hx hb dX4_isStopped_8 (lv_at hl 0 rfl) ?_
  refine lv_aload_n hx hb dX4_isStopped_10 rfl (lv_at hl 2 rfl) ?_
  refine lv_iload_n hx hb dX4_isStopped_11 rfl (lv_at hl 4 rfl) ?_
  obtain ⟨r5, x4, e6, hf⟩ := bd_some hf
  refine gVi (As := [.int a3]) (rest := [.int b2]) (k := 63) hC hP hS (kX5_channelsOf l D cy tX tY ad A hC.2.2.2.2.2.2.2.2.1 F x a3 e6) glX4_68 ⟨rfl, rfl⟩ hdX5_channelsOf ⟨Nat.le_of_ble_eq_true rfl, Nat.le_of_ble_eq_true rfl⟩ (by decide) (eX_63 cy ad _ _) rfl rfl hl.1 rfl (Nat.le_of_ble_eq_true rfl) dX4_isStopped_12 ⟨Nat.zero_le _, Nat.zero_le _⟩ (fun H locs hP hS => ?_)
  refine lv_icmp_lt (tgt := 20) hx hb dX4_isStopped_15 (by decide) (fun c7 => ?_) (fun c7 => ?_)
  · have hf := it_t c7 hf
    refine lv_aload_n hx hb dX4_isStopped_20 rfl (lv_at hl 2 rfl) ?_
    refine lv_iload_n hx hb dX4_isStopped_21 rfl (lv_at hl 4 rfl) ?_
    refine lv_iload hx hb dX4_isStopped_22 (lv_at hl 0 rfl) ?_
    obtain ⟨r9, x8, e10, hf⟩ := bd_some hf
    refine gVi (As := [.int a3, .int b2]) (rest := []) (k := 63) hC hP hS (kX5_channelOf l D cy tX tY ad A hC.2.2.2.2.2.2.2.2.1 F x4 a3 b2 e10) glX4_30 ⟨rfl, rfl⟩ hdX5_channelOf ⟨Nat.le_of_ble_eq_true rfl, Nat.le_of_ble_eq_true rfl⟩ (by decide) (eX_63 cy ad _ _) rfl rfl hl.1 rfl (Nat.le_of_ble_eq_true rfl) dX4_isStopped_24 ⟨Nat.zero_le _, Nat.zero_le _⟩ (fun H locs hP hS => ?_)
    refine lv_istore (lv' := [(5, .int r9), (4, .int b2), (0, .ref (ad 87)), (1, .ref (ad 63)), (2, .ref (ad (7 * j + 1))), (3, .int a3)]) hx hb dX4_isStopped_27 hl (by decide) rfl (fun ls hl => ?_)
    refine lv_aload_n hx hb dX4_isStopped_29 rfl (lv_at hl 4 rfl) ?_
    refine lv_iload hx hb dX4_isStopped_30 (lv_at hl 0 rfl) ?_
    obtain ⟨r12, x11, e13, hf⟩ := bd_some hf
    refine gVi (As := [.int r9]) (rest := []) (k := (7 * j + 1)) hC hP hS (kX2_isDown l D cy tX tY ad A hC.2.2.2.2.2.2.2.2.1 F (j := j) hj x8 r9 e13) glX4_72 ⟨rfl, rfl⟩ hdX2_isDown ⟨Nat.le_of_ble_eq_true rfl, Nat.le_of_ble_eq_true rfl⟩ (by omega) (eX_S hj cy ad _ _) rfl rfl hl.1 rfl (Nat.le_of_ble_eq_true rfl) dX4_isStopped_32 ⟨Nat.zero_le _, Nat.zero_le _⟩ (fun H locs hP hS => ?_)
    refine lv_if_ne (tgt := 47) hx hb dX4_isStopped_35 (by decide) (fun c14 => ?_) (fun c14 => ?_)
    · have hf := it_f c14 hf
      exact tX4_isStopped_47 hC F hj x11 hf H locs ls hP hS (lv_sub hl [] rfl)
    · have hf := it_t c14 hf
      refine lv_aload_n hx hb dX4_isStopped_38 rfl (lv_at hl 2 rfl) ?_
      refine lv_iload hx hb dX4_isStopped_39 (lv_at hl 0 rfl) ?_
      obtain ⟨r16, x15, e17, hf⟩ := bd_some hf
      refine gVi (As := [.int r9]) (rest := []) (k := 87) hC hP hS (kX4_isTaken l D cy tX tY ad A hC.2.2.2.2.2.2.2.2.1 F x11 r9 e17) glX4_76 ⟨rfl, rfl⟩ hdX4_isTaken ⟨Nat.le_of_ble_eq_true rfl, Nat.le_of_ble_eq_true rfl⟩ (by decide) (eX_87 cy ad _ _) rfl rfl hl.1 rfl (Nat.le_of_ble_eq_true rfl) dX4_isStopped_41 ⟨Nat.zero_le _, Nat.zero_le _⟩ (fun H locs hP hS => ?_)
      refine lv_if_eq (tgt := 51) hx hb dX4_isStopped_44 (by decide) (fun c18 => ?_) (fun c18 => ?_)
      · have hf := it_t c18 hf
        refine lv_iconst (v := 0) hx hb dX4_isStopped_51 (by decide) ?_
        exact gZret hC hP hS rfl hf dX4_isStopped_52
      · have hf := it_f c18 hf
        exact tX4_isStopped_47 hC F hj x15 hf H locs ls hP hS (lv_sub hl [] rfl)
  · have hf := it_f c7 hf
    refine lv_iconst (v := 0) hx hb dX4_isStopped_18 (by decide) ?_
    exact gZret hC hP hS rfl hf dX4_isStopped_19
set_option maxHeartbeats 4000000 in
set_option maxRecDepth 100000 in
theorem tX4_moveOn_67 (hC : Cf p s m args meth c cX4_moveOn 6 RX4 none D cy tX tY ad A 93) (F : Nat) {z : Unit × HT} {j : Nat} (hj : j < 8) : ∀ (x : HT) (a3 : Int32) (a4 : Int32), fX4_moveOn_67 F j x a3 a4 = some z → Wd p l e { frames := 1, cells := 0, slots := 0, locals := 22 } s m args below meth c D (eX cy ad) 93 ad A (cQv (eX cy ad) 93 ad D A z) 6 67 [(2, .ref (ad (7 * j + 1))), (3, .int a3), (4, .int a4)] [] x := by
  intro x a3 a4 hf H locs ls hP hS hl
  obtain ⟨hx, hb, -⟩ := id hC
  refine lv_aload_n hx hb dX4_moveOn_67 rfl (lv_at hl 0 rfl) ?_
  refine gfX4_65 hC hP hj dX4_moveOn_68 ?_
  refine lv_iload_n hx hb dX4_moveOn_71 rfl (lv_at hl 1 rfl) ?_
  refine lv_iload hx hb dX4_moveOn_72 (lv_at hl 2 rfl) ?_
  refine lv_iconst (v := 1) hx hb dX4_moveOn_74 (by decide) ?_
  refine lv_iadd hx hb dX4_moveOn_75 ?_
  obtain ⟨h30, hf⟩ := ck_some hf
  refine gIas hC hP hS (7 * j + 6) (by omega) (fun g9 => eX_S5 hj cy ad g9 _) h30 dX4_moveOn_76 (fun H locs hP hS => ?_)
  obtain ⟨x31, e32, hf⟩ := lt_some hf
  have hP : va_P D vwCl (wG (eX cy ad) 93 ad x31) H := by rw [e32]; exact hP
  exact gVret hC hP hS hf dX4_moveOn_77
set_option maxHeartbeats 4000000 in
set_option maxRecDepth 100000 in
theorem tX4_moveOn_40 (hC : Cf p s m args meth c cX4_moveOn 6 RX4 none D cy tX tY ad A 93) (F : Nat) {z : Unit × HT} {j : Nat} (hj : j < 8) : ∀ (x : HT) (a3 : Int32) (a4 : Int32) (a5 : Int32), fX4_moveOn_40 F j x a3 a4 a5 = some z → Wd p l e { frames := 1, cells := 0, slots := 0, locals := 22 } s m args below meth c D (eX cy ad) 93 ad A (cQv (eX cy ad) 93 ad D A z) 6 40 [(0, .ref (ad 87)), (1, .ref (ad 63)), (2, .ref (ad (7 * j + 1))), (3, .int a3), (4, .int a4), (5, .int a5)] [] x := by
  intro x a3 a4 a5 hf H locs ls hP hS hl
  obtain ⟨hx, hb, -⟩ := id hC
  refine lv_iload hx hb dX4_moveOn_40 (lv_at hl 5 rfl) ?_
  refine lv_if_lt (tgt := 67) hx hb dX4_moveOn_42 (by decide) (fun c19 => ?_) (fun c19 => ?_)
  · have hf := it_t c19 hf
    exact tX4_moveOn_67 hC F hj x a3 a4 hf H locs ls hP hS (lv_sub hl [2, 3, 4] rfl)
  · have hf := it_f c19 hf
    refine lv_iload hx hb dX4_moveOn_45 (lv_at hl 5 rfl) ?_
    refine lv_aload_n hx hb dX4_moveOn_47 rfl (lv_at hl 1 rfl) ?_
    refine lv_iload_n hx hb dX4_moveOn_48 rfl (lv_at hl 3 rfl) ?_
    obtain ⟨r21, x20, e22, hf⟩ := bd_some hf
    refine gVi (As := [.int a3]) (rest := [.int a5]) (k := 63) hC hP hS (kX5_channelsOf l D cy tX tY ad A hC.2.2.2.2.2.2.2.2.1 F x a3 e22) glX4_68 ⟨rfl, rfl⟩ hdX5_channelsOf ⟨Nat.le_of_ble_eq_true rfl, Nat.le_of_ble_eq_true rfl⟩ (by decide) (eX_63 cy ad _ _) rfl rfl hl.1 rfl (Nat.le_of_ble_eq_true rfl) dX4_moveOn_49 ⟨Nat.zero_le _, Nat.zero_le _⟩ (fun H locs hP hS => ?_)
    refine lv_icmp_ge (tgt := 67) hx hb dX4_moveOn_52 (by decide) (fun c23 => ?_) (fun c23 => ?_)
    · have hf := it_t c23 hf
      exact tX4_moveOn_67 hC F hj x20 a3 a4 hf H locs ls hP hS (lv_sub hl [2, 3, 4] rfl)
    · have hf := it_f c23 hf
      refine lv_aload_n hx hb dX4_moveOn_55 rfl (lv_at hl 0 rfl) ?_
      refine lv_aload_n hx hb dX4_moveOn_56 rfl (lv_at hl 1 rfl) ?_
      refine lv_iload_n hx hb dX4_moveOn_57 rfl (lv_at hl 3 rfl) ?_
      refine lv_iload hx hb dX4_moveOn_58 (lv_at hl 5 rfl) ?_
      obtain ⟨r25, x24, e26, hf⟩ := bd_some hf
      refine gVi (As := [.int a3, .int a5]) (rest := [.ref (ad 87)]) (k := 63) hC hP hS (kX5_channelOf l D cy tX tY ad A hC.2.2.2.2.2.2.2.2.1 F x20 a3 a5 e26) glX4_30 ⟨rfl, rfl⟩ hdX5_channelOf ⟨Nat.le_of_ble_eq_true rfl, Nat.le_of_ble_eq_true rfl⟩ (by decide) (eX_63 cy ad _ _) rfl rfl hl.1 rfl (Nat.le_of_ble_eq_true rfl) dX4_moveOn_60 ⟨Nat.zero_le _, Nat.zero_le _⟩ (fun H locs hP hS => ?_)
      refine lv_iconst (v := 0) hx hb dX4_moveOn_63 (by decide) ?_
      obtain ⟨r28, x27, e29, hf⟩ := bd_some hf
      refine gVv (As := [.int r25, .int (0 : Int32)]) (rest := []) (k := 87) hC hP hS (kX4_mark l D cy tX tY ad A hC.2.2.2.2.2.2.2.2.1 F x24 r25 (0 : Int32) e29) glX4_34 ⟨rfl, rfl⟩ hdX4_mark ⟨Nat.le_of_ble_eq_true rfl, Nat.le_of_ble_eq_true rfl⟩ (by decide) (eX_87 cy ad _ _) rfl rfl hl.1 rfl (Nat.le_of_ble_eq_true rfl) dX4_moveOn_64 ⟨Nat.zero_le _, Nat.zero_le _⟩ (fun H locs hP hS => ?_)
      exact tX4_moveOn_67 hC F hj x27 a3 a4 hf H locs ls hP hS (lv_sub hl [2, 3, 4] rfl)
set_option maxHeartbeats 4000000 in
set_option maxRecDepth 100000 in
theorem kX4_moveOn (l : Launch) (D : va_G) (cy : Nat → ClassId) (tX tY : Nat) (ad : Nat → Nat) (A : Nat → Prop) (hA : apart ad A 93) (F : Nat) {j : Nat} (hj : j < 8) (x : HT) (a3 : Int32) {z : Unit × HT} (hf : fX4_moveOn F j x a3 = some z) : Met l yX4_moveOn (Cond.code yX4_moveOn cX4_moveOn 6 none :: wAll) { frames := 1, cells := 0, slots := 0, locals := 22 } (cPc (eX cy ad) 93 ad D cy tX tY A [.ref (ad 87), .ref (ad 63), .ref (ad (7 * j + 1)), .int a3] x) (cQv (eX cy ad) 93 ad D A z) 0 0 A := by
  refine gMet hA (by decide) (Nat.le_of_ble_eq_true rfl) (fun p e s m below meth c hC H locs ls hP hS hl => ?_)
  have hC : Cf p s m _ meth c cX4_moveOn 6 RX4 none D cy tX tY ad A 93 := hC
  have hl : lv_has ls 6 [(0, .ref (ad 87)), (1, .ref (ad 63)), (2, .ref (ad (7 * j + 1))), (3, .int a3)] := hl
  obtain ⟨hx, hb, -⟩ := id hC
  refine lv_aload_n hx hb dX4_moveOn_0 rfl (lv_at hl 2 rfl) ?_
  refine gfX4_65 hC hP hj dX4_moveOn_1 ?_
  refine lv_iload_n hx hb dX4_moveOn_4 rfl (lv_at hl 3 rfl) ?_
  obtain ⟨h1, hf⟩ := ck_some hf
  refine gIal hC hP (7 * j + 6) (by omega) (eX_S5 hj cy ad _ _) h1 dX4_moveOn_5 ?_
  refine lv_topi (fun b2 e3 => ?_)
  have hf := lt_use e3 hf
  refine lv_istore (lv' := [(4, .int b2), (0, .ref (ad 87)), (1, .ref (ad 63)), (2, .ref (ad (7 * j + 1))), (3, .int a3)]) hx hb dX4_moveOn_6 hl (by decide) rfl (fun ls hl => ?_)
  refine lv_iload hx hb dX4_moveOn_8 (lv_at hl 0 rfl) ?_
  refine lv_aload_n hx hb dX4_moveOn_10 rfl (lv_at hl 3 rfl) ?_
  refine lv_iload_n hx hb dX4_moveOn_11 rfl (lv_at hl 4 rfl) ?_
  obtain ⟨r5, x4, e6, hf⟩ := bd_some hf
  refine gVi (As := [.int a3]) (rest := [.int b2]) (k := (7 * j + 1)) hC hP hS (kX2_lengthOf l D cy tX tY ad A hC.2.2.2.2.2.2.2.2.1 F (j := j) hj x a3 e6) glX4_79 ⟨rfl, rfl⟩ hdX2_lengthOf ⟨Nat.le_of_ble_eq_true rfl, Nat.le_of_ble_eq_true rfl⟩ (by omega) (eX_S hj cy ad _ _) rfl rfl hl.1 rfl (Nat.le_of_ble_eq_true rfl) dX4_moveOn_12 ⟨Nat.zero_le _, Nat.zero_le _⟩ (fun H locs hP hS => ?_)
  refine lv_isub hx hb dX4_moveOn_15 ?_
  refine lv_topi (fun b7 e8 => ?_)
  have hf := lt_use e8 hf
  refine lv_istore (lv' := [(5, .int b7), (4, .int b2), (0, .ref (ad 87)), (1, .ref (ad 63)), (2, .ref (ad (7 * j + 1))), (3, .int a3)]) hx hb dX4_moveOn_16 hl (by decide) rfl (fun ls hl => ?_)
  refine lv_iload hx hb dX4_moveOn_18 (lv_at hl 1 rfl) ?_
  refine lv_aload_n hx hb dX4_moveOn_20 rfl (lv_at hl 3 rfl) ?_
  refine lv_iload_n hx hb dX4_moveOn_21 rfl (lv_at hl 5 rfl) ?_
  obtain ⟨r10, x9, e11, hf⟩ := bd_some hf
  refine gVi (As := [.int a3]) (rest := [.int b2]) (k := 63) hC hP hS (kX5_channelsOf l D cy tX tY ad A hC.2.2.2.2.2.2.2.2.1 F x4 a3 e11) glX4_68 ⟨rfl, rfl⟩ hdX5_channelsOf ⟨Nat.le_of_ble_eq_true rfl, Nat.le_of_ble_eq_true rfl⟩ (by decide) (eX_63 cy ad _ _) rfl rfl hl.1 rfl (Nat.le_of_ble_eq_true rfl) dX4_moveOn_22 ⟨Nat.zero_le _, Nat.zero_le _⟩ (fun H locs hP hS => ?_)
  refine lv_icmp_ge (tgt := 40) hx hb dX4_moveOn_25 (by decide) (fun c12 => ?_) (fun c12 => ?_)
  · have hf := it_t c12 hf
    exact tX4_moveOn_40 hC F hj x9 a3 b2 b7 hf H locs ls hP hS (lv_sub hl [2, 3, 4, 5, 1, 0] rfl)
  · have hf := it_f c12 hf
    refine lv_aload_n hx hb dX4_moveOn_28 rfl (lv_at hl 2 rfl) ?_
    refine lv_aload_n hx hb dX4_moveOn_29 rfl (lv_at hl 3 rfl) ?_
    refine lv_iload_n hx hb dX4_moveOn_30 rfl (lv_at hl 5 rfl) ?_
    refine lv_iload hx hb dX4_moveOn_31 (lv_at hl 1 rfl) ?_
    obtain ⟨r14, x13, e15, hf⟩ := bd_some hf
    refine gVi (As := [.int a3, .int b2]) (rest := [.ref (ad 87)]) (k := 63) hC hP hS (kX5_channelOf l D cy tX tY ad A hC.2.2.2.2.2.2.2.2.1 F x9 a3 b2 e15) glX4_30 ⟨rfl, rfl⟩ hdX5_channelOf ⟨Nat.le_of_ble_eq_true rfl, Nat.le_of_ble_eq_true rfl⟩ (by decide) (eX_63 cy ad _ _) rfl rfl hl.1 rfl (Nat.le_of_ble_eq_true rfl) dX4_moveOn_33 ⟨Nat.zero_le _, Nat.zero_le _⟩ (fun H locs hP hS => ?_)
    refine lv_iconst (v := 1) hx hb dX4_moveOn_36 (by decide) ?_
    obtain ⟨r17, x16, e18, hf⟩ := bd_some hf
    refine gVv (As := [.int r14, .int (1 : Int32)]) (rest := []) (k := 87) hC hP hS (kX4_mark l D cy tX tY ad A hC.2.2.2.2.2.2.2.2.1 F x13 r14 (1 : Int32) e18) glX4_34 ⟨rfl, rfl⟩ hdX4_mark ⟨Nat.le_of_ble_eq_true rfl, Nat.le_of_ble_eq_true rfl⟩ (by decide) (eX_87 cy ad _ _) rfl rfl hl.1 rfl (Nat.le_of_ble_eq_true rfl) dX4_moveOn_37 ⟨Nat.zero_le _, Nat.zero_le _⟩ (fun H locs hP hS => ?_)
    exact tX4_moveOn_40 hC F hj x16 a3 b2 b7 hf H locs ls hP hS (lv_sub hl [2, 3, 4, 5, 1, 0] rfl)
set_option maxHeartbeats 4000000 in
set_option maxRecDepth 100000 in
theorem tX4_stepOnce_62 (hC : Cf p s m args meth c cX4_stepOnce 5 RX4 (some .boolean) D cy tX tY ad A 93) (F : Nat) {z : Int32 × HT} {j : Nat} (hj : j < 8) (rec5 : HT → Int32 → Int32 → Option (Int32 × HT)) (hrec5 : ∀ (x : HT) (a3 : Int32) (a4 : Int32), rec5 x a3 a4 = some z → Wd p l e { frames := 2, cells := 0, slots := 0, locals := 47 } s m args below meth c D (eX cy ad) 93 ad A (cQi (eX cy ad) 93 ad D A z) 5 5 [(0, .ref (ad 87)), (1, .ref (ad 63)), (2, .ref (ad (7 * j + 1))), (3, .int a3), (4, .int a4)] [] x) : ∀ (x : HT) (a3 : Int32) (a4 : Int32), fX4_stepOnce_62 F rec5 j x a3 a4 = some z → Wd p l e { frames := 2, cells := 0, slots := 0, locals := 47 } s m args below meth c D (eX cy ad) 93 ad A (cQi (eX cy ad) 93 ad D A z) 5 62 [(0, .ref (ad 87)), (1, .ref (ad 63)), (2, .ref (ad (7 * j + 1))), (3, .int a3), (4, .int a4)] [] x := by
  intro x a3 a4 hf H locs ls hP hS hl
  obtain ⟨hx, hb, -⟩ := id hC
  obtain ⟨b23, e24, hf⟩ := lt_some hf
  refine lv_iinc (v := b23) (lv' := [(4, .int b23), (0, .ref (ad 87)), (1, .ref (ad 63)), (2, .ref (ad (7 * j + 1))), (3, .int a3)]) hx hb dX4_stepOnce_62 hl (k := 4) rfl (by rw [e24]; rfl) (by decide) rfl (fun ls hl => ?_)
  refine lv_goto (tgt := 5) hx hb dX4_stepOnce_65 (by decide) ?_
  exact hrec5 x a3 b23 hf H locs ls hP hS (lv_sub hl [1, 2, 3, 4, 0] rfl)
set_option maxHeartbeats 4000000 in
set_option maxRecDepth 100000 in
theorem tX4_stepOnce_5b (hC : Cf p s m args meth c cX4_stepOnce 5 RX4 (some .boolean) D cy tX tY ad A 93) (F : Nat) {z : Int32 × HT} {j : Nat} (hj : j < 8) (rec5 : HT → Int32 → Int32 → Option (Int32 × HT)) (hrec5 : ∀ (x : HT) (a3 : Int32) (a4 : Int32), rec5 x a3 a4 = some z → Wd p l e { frames := 2, cells := 0, slots := 0, locals := 47 } s m args below meth c D (eX cy ad) 93 ad A (cQi (eX cy ad) 93 ad D A z) 5 5 [(0, .ref (ad 87)), (1, .ref (ad 63)), (2, .ref (ad (7 * j + 1))), (3, .int a3), (4, .int a4)] [] x) : ∀ (x : HT) (a3 : Int32) (a4 : Int32), fX4_stepOnce_5b F rec5 j x a3 a4 = some z → Wd p l e { frames := 2, cells := 0, slots := 0, locals := 47 } s m args below meth c D (eX cy ad) 93 ad A (cQi (eX cy ad) 93 ad D A z) 5 5 [(0, .ref (ad 87)), (1, .ref (ad 63)), (2, .ref (ad (7 * j + 1))), (3, .int a3), (4, .int a4)] [] x := by
  intro x a3 a4 hf H locs ls hP hS hl
  obtain ⟨hx, hb, -⟩ := id hC
  refine lv_iload hx hb dX4_stepOnce_5 (lv_at hl 4 rfl) ?_
  refine lv_aload_n hx hb dX4_stepOnce_7 rfl (lv_at hl 2 rfl) ?_
  obtain ⟨r2, x1, e3, hf⟩ := bd_some hf
  refine gVi (As := []) (rest := [.int a4]) (k := (7 * j + 1)) hC hP hS (kX2_worms l D cy tX tY ad A hC.2.2.2.2.2.2.2.2.1 F (j := j) hj x e3) glX4_15 ⟨rfl, rfl⟩ hdX2_worms ⟨Nat.le_of_ble_eq_true rfl, Nat.le_of_ble_eq_true rfl⟩ (by omega) (eX_S hj cy ad _ _) rfl rfl hl.1 rfl (Nat.le_of_ble_eq_true rfl) dX4_stepOnce_8 ⟨Nat.zero_le _, Nat.zero_le _⟩ (fun H locs hP hS => ?_)
  refine lv_icmp_ge (tgt := 68) hx hb dX4_stepOnce_11 (by decide) (fun c4 => ?_) (fun c4 => ?_)
  · have hf := it_t c4 hf
    refine lv_aload_n hx hb dX4_stepOnce_68 rfl (lv_at hl 2 rfl) ?_
    refine lv_dup hx hb dX4_stepOnce_69 rfl ?_
    refine gfX4_61 hC hP hj dX4_stepOnce_70 ?_
    refine lv_iconst (v := 1) hx hb dX4_stepOnce_73 (by decide) ?_
    refine lv_iadd hx hb dX4_stepOnce_74 ?_
    refine pfX4_61 hC hP hS hj dX4_stepOnce_75 (fun H locs hP hS => ?_)
    obtain ⟨x5, e6, hf⟩ := lt_some hf
    have hP : va_P D vwCl (wG (eX cy ad) 93 ad x5) H := by rw [e6]; exact hP
    refine lv_iload_n hx hb dX4_stepOnce_78 rfl (lv_at hl 3 rfl) ?_
    obtain ⟨h7, hf⟩ := ck_some hf
    exact gZret hC hP hS h7 hf dX4_stepOnce_79
  · have hf := it_f c4 hf
    refine lv_aload_n hx hb dX4_stepOnce_14 rfl (lv_at hl 1 rfl) ?_
    refine lv_aload_n hx hb dX4_stepOnce_15 rfl (lv_at hl 2 rfl) ?_
    refine lv_iload hx hb dX4_stepOnce_16 (lv_at hl 4 rfl) ?_
    obtain ⟨r9, x8, e10, hf⟩ := bd_some hf
    refine gVi (As := [.ref (ad (7 * j + 1)), .int a4]) (rest := []) (k := 63) hC hP hS (kX5_isDone l D cy tX tY ad A hC.2.2.2.2.2.2.2.2.1 F (j := j) hj x1 a4 e10) glX4_46 ⟨rfl, rfl⟩ hdX5_isDone ⟨Nat.le_of_ble_eq_true rfl, Nat.le_of_ble_eq_true rfl⟩ (by decide) (eX_63 cy ad _ _) rfl rfl hl.1 rfl (Nat.le_of_ble_eq_true rfl) dX4_stepOnce_18 ⟨Nat.zero_le _, Nat.zero_le _⟩ (fun H locs hP hS => ?_)
    refine lv_if_eq (tgt := 27) hx hb dX4_stepOnce_21 (by decide) (fun c11 => ?_) (fun c11 => ?_)
    · have hf := it_t c11 hf
      refine lv_aload_n hx hb dX4_stepOnce_27 rfl (lv_at hl 0 rfl) ?_
      refine lv_aload_n hx hb dX4_stepOnce_28 rfl (lv_at hl 1 rfl) ?_
      refine lv_aload_n hx hb dX4_stepOnce_29 rfl (lv_at hl 2 rfl) ?_
      refine lv_iload hx hb dX4_stepOnce_30 (lv_at hl 4 rfl) ?_
      obtain ⟨r13, x12, e14, hf⟩ := bd_some hf
      refine gVi (As := [.ref (ad 63), .ref (ad (7 * j + 1)), .int a4]) (rest := []) (k := 87) hC hP hS (kX4_isStopped l D cy tX tY ad A hC.2.2.2.2.2.2.2.2.1 F (j := j) hj x8 a4 e14) glX4_50 ⟨rfl, rfl⟩ hdX4_isStopped ⟨Nat.le_of_ble_eq_true rfl, Nat.le_of_ble_eq_true rfl⟩ (by decide) (eX_87 cy ad _ _) rfl rfl hl.1 rfl (Nat.le_of_ble_eq_true rfl) dX4_stepOnce_32 ⟨Nat.zero_le _, Nat.zero_le _⟩ (fun H locs hP hS => ?_)
      refine lv_if_eq (tgt := 52) hx hb dX4_stepOnce_35 (by decide) (fun c15 => ?_) (fun c15 => ?_)
      · have hf := it_t c15 hf
        refine lv_aload_n hx hb dX4_stepOnce_52 rfl (lv_at hl 0 rfl) ?_
        refine lv_aload_n hx hb dX4_stepOnce_53 rfl (lv_at hl 1 rfl) ?_
        refine lv_aload_n hx hb dX4_stepOnce_54 rfl (lv_at hl 2 rfl) ?_
        refine lv_iload hx hb dX4_stepOnce_55 (lv_at hl 4 rfl) ?_
        obtain ⟨r17, x16, e18, hf⟩ := bd_some hf
        refine gVv (As := [.ref (ad 63), .ref (ad (7 * j + 1)), .int a4]) (rest := []) (k := 87) hC hP hS (kX4_moveOn l D cy tX tY ad A hC.2.2.2.2.2.2.2.2.1 F (j := j) hj x12 a4 e18) glX4_58 ⟨rfl, rfl⟩ hdX4_moveOn ⟨Nat.le_of_ble_eq_true rfl, Nat.le_of_ble_eq_true rfl⟩ (by decide) (eX_87 cy ad _ _) rfl rfl hl.1 rfl (Nat.le_of_ble_eq_true rfl) dX4_stepOnce_57 ⟨Nat.zero_le _, Nat.zero_le _⟩ (fun H locs hP hS => ?_)
        refine lv_iconst (v := 1) hx hb dX4_stepOnce_60 (by decide) ?_
        refine lv_istore_n (lv' := [(3, .int (1 : Int32)), (0, .ref (ad 87)), (1, .ref (ad 63)), (2, .ref (ad (7 * j + 1))), (4, .int a4)]) hx hb dX4_stepOnce_61 rfl hl (by decide) rfl (fun ls hl => ?_)
        exact tX4_stepOnce_62 hC F hj rec5 hrec5 x16 (1 : Int32) a4 hf H locs ls hP hS (lv_sub hl [1, 2, 3, 0, 4] rfl)
      · have hf := it_f c15 hf
        refine lv_aload_n hx hb dX4_stepOnce_38 rfl (lv_at hl 2 rfl) ?_
        refine gfX4_54 hC hP hj dX4_stepOnce_39 ?_
        refine lv_iload hx hb dX4_stepOnce_42 (lv_at hl 4 rfl) ?_
        refine lv_dup2_11 hx hb dX4_stepOnce_44 rfl rfl ?_
        obtain ⟨h19, hf⟩ := ck_some hf
        refine gIal hC hP (7 * j + 7) (by omega) (eX_S6 hj cy ad _ _) h19 dX4_stepOnce_45 ?_
        refine lv_iconst (v := 1) hx hb dX4_stepOnce_46 (by decide) ?_
        refine lv_iadd hx hb dX4_stepOnce_47 ?_
        obtain ⟨h20, hf⟩ := ck_some hf
        refine gIas hC hP hS (7 * j + 7) (by omega) (fun g9 => eX_S6 hj cy ad g9 _) h20 dX4_stepOnce_48 (fun H locs hP hS => ?_)
        obtain ⟨x21, e22, hf⟩ := lt_some hf
        have hP : va_P D vwCl (wG (eX cy ad) 93 ad x21) H := by rw [e22]; exact hP
        refine lv_goto (tgt := 62) hx hb dX4_stepOnce_49 (by decide) ?_
        exact tX4_stepOnce_62 hC F hj rec5 hrec5 x21 a3 a4 hf H locs ls hP hS (lv_sub hl [0, 1, 2, 3, 4] rfl)
    · have hf := it_f c11 hf
      refine lv_goto (tgt := 62) hx hb dX4_stepOnce_24 (by decide) ?_
      exact tX4_stepOnce_62 hC F hj rec5 hrec5 x8 a3 a4 hf H locs ls hP hS (lv_sub hl [0, 1, 2, 3, 4] rfl)
theorem tX4_stepOnce_5 (hC : Cf p s m args meth c cX4_stepOnce 5 RX4 (some .boolean) D cy tX tY ad A 93) (F : Nat) {z : Int32 × HT} {j : Nat} (hj : j < 8) : ∀ (n9 : Nat) (x : HT) (a3 : Int32) (a4 : Int32), fX4_stepOnce_5 F j n9 x a3 a4 = some z → Wd p l e { frames := 2, cells := 0, slots := 0, locals := 47 } s m args below meth c D (eX cy ad) 93 ad A (cQi (eX cy ad) 93 ad D A z) 5 5 [(0, .ref (ad 87)), (1, .ref (ad 63)), (2, .ref (ad (7 * j + 1))), (3, .int a3), (4, .int a4)] [] x := by
  intro n9
  induction n9 with
  | zero => intro x a3 a4 hf; cases hf
  | succ n9 ih => intro x a3 a4 hf; exact tX4_stepOnce_5b hC F hj (fX4_stepOnce_5 F j n9) ih x a3 a4 hf
set_option maxHeartbeats 4000000 in
set_option maxRecDepth 100000 in
theorem kX4_stepOnce (l : Launch) (D : va_G) (cy : Nat → ClassId) (tX tY : Nat) (ad : Nat → Nat) (A : Nat → Prop) (hA : apart ad A 93) (F : Nat) {j : Nat} (hj : j < 8) (x : HT) {z : Int32 × HT} (hf : fX4_stepOnce F j x = some z) : Met l yX4_stepOnce (Cond.code yX4_stepOnce cX4_stepOnce 5 (some .boolean) :: wAll) { frames := 2, cells := 0, slots := 0, locals := 47 } (cPc (eX cy ad) 93 ad D cy tX tY A [.ref (ad 87), .ref (ad 63), .ref (ad (7 * j + 1))] x) (cQi (eX cy ad) 93 ad D A z) 0 0 A := by
  refine gMet hA (by decide) (Nat.le_of_ble_eq_true rfl) (fun p e s m below meth c hC H locs ls hP hS hl => ?_)
  have hC : Cf p s m _ meth c cX4_stepOnce 5 RX4 (some .boolean) D cy tX tY ad A 93 := hC
  have hl : lv_has ls 5 [(0, .ref (ad 87)), (1, .ref (ad 63)), (2, .ref (ad (7 * j + 1)))] := hl
  obtain ⟨hx, hb, -⟩ := id hC
  refine lv_iconst (v := 0) hx hb dX4_stepOnce_0 (by decide) ?_
  refine lv_istore_n (lv' := [(3, .int (0 : Int32)), (0, .ref (ad 87)), (1, .ref (ad 63)), (2, .ref (ad (7 * j + 1)))]) hx hb dX4_stepOnce_1 rfl hl (by decide) rfl (fun ls hl => ?_)
  refine lv_iconst (v := 0) hx hb dX4_stepOnce_2 (by decide) ?_
  refine lv_istore (lv' := [(4, .int (0 : Int32)), (3, .int (0 : Int32)), (0, .ref (ad 87)), (1, .ref (ad 63)), (2, .ref (ad (7 * j + 1)))]) hx hb dX4_stepOnce_3 hl (by decide) rfl (fun ls hl => ?_)
  exact tX4_stepOnce_5 hC F hj F x (0 : Int32) (0 : Int32) hf H locs ls hP hS (lv_sub hl [2, 3, 4, 1, 0] rfl)
set_option maxHeartbeats 4000000 in
set_option maxRecDepth 100000 in
theorem tX4_waitFor_43 (hC : Cf p s m args meth c cX4_waitFor 5 RX4 none D cy tX tY ad A 93) (F : Nat) {z : Unit × HT} {j : Nat} (hj : j < 8) (rec13 : HT → Int32 → Int32 → Option (Unit × HT)) (hrec13 : ∀ (x : HT) (a3 : Int32) (a4 : Int32), rec13 x a3 a4 = some z → Wd p l e { frames := 2, cells := 0, slots := 0, locals := 43 } s m args below meth c D (eX cy ad) 93 ad A (cQv (eX cy ad) 93 ad D A z) 5 13 [(1, .ref (ad 63)), (2, .ref (ad (7 * j + 1))), (3, .int a3), (4, .int a4)] [] x) : ∀ (x : HT) (a3 : Int32) (a4 : Int32), fX4_waitFor_43 F rec13 j x a3 a4 = some z → Wd p l e { frames := 2, cells := 0, slots := 0, locals := 43 } s m args below meth c D (eX cy ad) 93 ad A (cQv (eX cy ad) 93 ad D A z) 5 43 [(1, .ref (ad 63)), (2, .ref (ad (7 * j + 1))), (3, .int a3), (4, .int a4)] [] x := by
  intro x a3 a4 hf H locs ls hP hS hl
  obtain ⟨hx, hb, -⟩ := id hC
  obtain ⟨b15, e16, hf⟩ := lt_some hf
  refine lv_iinc (v := b15) (lv' := [(4, .int b15), (1, .ref (ad 63)), (2, .ref (ad (7 * j + 1))), (3, .int a3)]) hx hb dX4_waitFor_43 hl (k := 3) rfl (by rw [e16]; rfl) (by decide) rfl (fun ls hl => ?_)
  refine lv_goto (tgt := 13) hx hb dX4_waitFor_46 (by decide) ?_
  exact hrec13 x a3 b15 hf H locs ls hP hS (lv_sub hl [1, 2, 3, 0] rfl)
set_option maxHeartbeats 4000000 in
set_option maxRecDepth 100000 in
theorem tX4_waitFor_13b (hC : Cf p s m args meth c cX4_waitFor 5 RX4 none D cy tX tY ad A 93) (F : Nat) {z : Unit × HT} {j : Nat} (hj : j < 8) (rec13 : HT → Int32 → Int32 → Option (Unit × HT)) (hrec13 : ∀ (x : HT) (a3 : Int32) (a4 : Int32), rec13 x a3 a4 = some z → Wd p l e { frames := 2, cells := 0, slots := 0, locals := 43 } s m args below meth c D (eX cy ad) 93 ad A (cQv (eX cy ad) 93 ad D A z) 5 13 [(1, .ref (ad 63)), (2, .ref (ad (7 * j + 1))), (3, .int a3), (4, .int a4)] [] x) : ∀ (x : HT) (a3 : Int32) (a4 : Int32), fX4_waitFor_13b F rec13 j x a3 a4 = some z → Wd p l e { frames := 2, cells := 0, slots := 0, locals := 43 } s m args below meth c D (eX cy ad) 93 ad A (cQv (eX cy ad) 93 ad D A z) 5 13 [(1, .ref (ad 63)), (2, .ref (ad (7 * j + 1))), (3, .int a3), (4, .int a4)] [] x := by
  intro x a3 a4 hf H locs ls hP hS hl
  obtain ⟨hx, hb, -⟩ := id hC
  refine lv_iload hx hb dX4_waitFor_13 (lv_at hl 3 rfl) ?_
  refine lv_aload_n hx hb dX4_waitFor_15 rfl (lv_at hl 1 rfl) ?_
  obtain ⟨r4, x3, e5, hf⟩ := bd_some hf
  refine gVi (As := []) (rest := [.int a4]) (k := (7 * j + 1)) hC hP hS (kX2_worms l D cy tX tY ad A hC.2.2.2.2.2.2.2.2.1 F (j := j) hj x e5) glX4_15 ⟨rfl, rfl⟩ hdX2_worms ⟨Nat.le_of_ble_eq_true rfl, Nat.le_of_ble_eq_true rfl⟩ (by omega) (eX_S hj cy ad _ _) rfl rfl hl.1 rfl (Nat.le_of_ble_eq_true rfl) dX4_waitFor_16 ⟨Nat.zero_le _, Nat.zero_le _⟩ (fun H locs hP hS => ?_)
  refine lv_icmp_ge (tgt := 49) hx hb dX4_waitFor_19 (by decide) (fun c6 => ?_) (fun c6 => ?_)
  · have hf := it_t c6 hf
    exact gVret hC hP hS hf dX4_waitFor_49
  · have hf := it_f c6 hf
    refine lv_aload_n hx hb dX4_waitFor_22 rfl (lv_at hl 0 rfl) ?_
    refine lv_aload_n hx hb dX4_waitFor_23 rfl (lv_at hl 1 rfl) ?_
    refine lv_iload hx hb dX4_waitFor_24 (lv_at hl 3 rfl) ?_
    obtain ⟨r8, x7, e9, hf⟩ := bd_some hf
    refine gVi (As := [.ref (ad (7 * j + 1)), .int a4]) (rest := []) (k := 63) hC hP hS (kX5_isDone l D cy tX tY ad A hC.2.2.2.2.2.2.2.2.1 F (j := j) hj x3 a4 e9) glX4_46 ⟨rfl, rfl⟩ hdX5_isDone ⟨Nat.le_of_ble_eq_true rfl, Nat.le_of_ble_eq_true rfl⟩ (by decide) (eX_63 cy ad _ _) rfl rfl hl.1 rfl (Nat.le_of_ble_eq_true rfl) dX4_waitFor_26 ⟨Nat.zero_le _, Nat.zero_le _⟩ (fun H locs hP hS => ?_)
    refine lv_if_ne (tgt := 43) hx hb dX4_waitFor_29 (by decide) (fun c10 => ?_) (fun c10 => ?_)
    · have hf := it_f c10 hf
      exact tX4_waitFor_43 hC F hj rec13 hrec13 x7 a3 a4 hf H locs ls hP hS (lv_sub hl [0, 1, 2, 3] rfl)
    · have hf := it_t c10 hf
      refine lv_aload_n hx hb dX4_waitFor_32 rfl (lv_at hl 1 rfl) ?_
      refine gfX4_54 hC hP hj dX4_waitFor_33 ?_
      refine lv_iload hx hb dX4_waitFor_36 (lv_at hl 3 rfl) ?_
      refine lv_dup2_11 hx hb dX4_waitFor_38 rfl rfl ?_
      obtain ⟨h11, hf⟩ := ck_some hf
      refine gIal hC hP (7 * j + 7) (by omega) (eX_S6 hj cy ad _ _) h11 dX4_waitFor_39 ?_
      refine lv_iload_n hx hb dX4_waitFor_40 rfl (lv_at hl 2 rfl) ?_
      refine lv_iadd hx hb dX4_waitFor_41 ?_
      obtain ⟨h12, hf⟩ := ck_some hf
      refine gIas hC hP hS (7 * j + 7) (by omega) (fun g9 => eX_S6 hj cy ad g9 _) h12 dX4_waitFor_42 (fun H locs hP hS => ?_)
      obtain ⟨x13, e14, hf⟩ := lt_some hf
      have hP : va_P D vwCl (wG (eX cy ad) 93 ad x13) H := by rw [e14]; exact hP
      exact tX4_waitFor_43 hC F hj rec13 hrec13 x13 a3 a4 hf H locs ls hP hS (lv_sub hl [0, 1, 2, 3] rfl)
theorem tX4_waitFor_13 (hC : Cf p s m args meth c cX4_waitFor 5 RX4 none D cy tX tY ad A 93) (F : Nat) {z : Unit × HT} {j : Nat} (hj : j < 8) : ∀ (n9 : Nat) (x : HT) (a3 : Int32) (a4 : Int32), fX4_waitFor_13 F j n9 x a3 a4 = some z → Wd p l e { frames := 2, cells := 0, slots := 0, locals := 43 } s m args below meth c D (eX cy ad) 93 ad A (cQv (eX cy ad) 93 ad D A z) 5 13 [(1, .ref (ad 63)), (2, .ref (ad (7 * j + 1))), (3, .int a3), (4, .int a4)] [] x := by
  intro n9
  induction n9 with
  | zero => intro x a3 a4 hf; cases hf
  | succ n9 ih => intro x a3 a4 hf; exact tX4_waitFor_13b hC F hj (fX4_waitFor_13 F j n9) ih x a3 a4 hf
set_option maxHeartbeats 4000000 in
set_option maxRecDepth 100000 in
theorem kX4_waitFor (l : Launch) (D : va_G) (cy : Nat → ClassId) (tX tY : Nat) (ad : Nat → Nat) (A : Nat → Prop) (hA : apart ad A 93) (F : Nat) {j : Nat} (hj : j < 8) (x : HT) (a3 : Int32) {z : Unit × HT} (hf : fX4_waitFor F j x a3 = some z) : Met l yX4_waitFor (Cond.code yX4_waitFor cX4_waitFor 5 none :: wAll) { frames := 2, cells := 0, slots := 0, locals := 43 } (cPc (eX cy ad) 93 ad D cy tX tY A [.ref (ad 87), .ref (ad 63), .ref (ad (7 * j + 1)), .int a3] x) (cQv (eX cy ad) 93 ad D A z) 0 0 A := by
  refine gMet hA (by decide) (Nat.le_of_ble_eq_true rfl) (fun p e s m below meth c hC H locs ls hP hS hl => ?_)
  have hC : Cf p s m _ meth c cX4_waitFor 5 RX4 none D cy tX tY ad A 93 := hC
  have hl : lv_has ls 5 [(0, .ref (ad 87)), (1, .ref (ad 63)), (2, .ref (ad (7 * j + 1))), (3, .int a3)] := hl
  obtain ⟨hx, hb, -⟩ := id hC
  refine lv_aload_n hx hb dX4_waitFor_0 rfl (lv_at hl 2 rfl) ?_
  refine lv_dup hx hb dX4_waitFor_1 rfl ?_
  refine gfX4_61 hC hP hj dX4_waitFor_2 ?_
  refine lv_iload_n hx hb dX4_waitFor_5 rfl (lv_at hl 3 rfl) ?_
  refine lv_iadd hx hb dX4_waitFor_6 ?_
  refine pfX4_61 hC hP hS hj dX4_waitFor_7 (fun H locs hP hS => ?_)
  obtain ⟨x1, e2, hf⟩ := lt_some hf
  have hP : va_P D vwCl (wG (eX cy ad) 93 ad x1) H := by rw [e2]; exact hP
  refine lv_iconst (v := 0) hx hb dX4_waitFor_10 (by decide) ?_
  refine lv_istore (lv' := [(4, .int (0 : Int32)), (0, .ref (ad 87)), (1, .ref (ad 63)), (2, .ref (ad (7 * j + 1))), (3, .int a3)]) hx hb dX4_waitFor_11 hl (by decide) rfl (fun ls hl => ?_)
  exact tX4_waitFor_13 hC F hj F x1 a3 (0 : Int32) hf H locs ls hP hS (lv_sub hl [2, 3, 4, 0] rfl)
set_option maxHeartbeats 4000000 in
set_option maxRecDepth 100000 in
theorem tX4_run_5b (hC : Cf p s m args meth c cX4_run 5 RX4 none D cy tX tY ad A 93) (F : Nat) {z : Unit × HT} {j : Nat} (hj : j < 8) (rec5 : HT → Int32 → Option (Unit × HT)) (hrec5 : ∀ (x : HT) (a4 : Int32), rec5 x a4 = some z → Wd p l e { frames := 3, cells := 0, slots := 0, locals := 71 } s m args below meth c D (eX cy ad) 93 ad A (cQv (eX cy ad) 93 ad D A z) 5 5 [(0, .ref (ad 87)), (1, .ref (ad 63)), (2, .ref (ad (7 * j + 1))), (4, .int a4)] [] x) : ∀ (x : HT) (a4 : Int32), fX4_run_5b F rec5 j x a4 = some z → Wd p l e { frames := 3, cells := 0, slots := 0, locals := 71 } s m args below meth c D (eX cy ad) 93 ad A (cQv (eX cy ad) 93 ad D A z) 5 5 [(0, .ref (ad 87)), (1, .ref (ad 63)), (2, .ref (ad (7 * j + 1))), (4, .int a4)] [] x := by
  intro x a4 hf H locs ls hP hS hl
  obtain ⟨hx, hb, -⟩ := id hC
  refine lv_iload hx hb dX4_run_5 (lv_at hl 3 rfl) ?_
  refine lv_if_lt (tgt := 34) hx hb dX4_run_7 (by decide) (fun c3 => ?_) (fun c3 => ?_)
  · have hf := it_t c3 hf
    exact gVret hC hP hS hf dX4_run_34
  · have hf := it_f c3 hf
    refine lv_aload_n hx hb dX4_run_10 rfl (lv_at hl 0 rfl) ?_
    refine lv_aload_n hx hb dX4_run_11 rfl (lv_at hl 1 rfl) ?_
    refine lv_aload_n hx hb dX4_run_12 rfl (lv_at hl 2 rfl) ?_
    obtain ⟨r5, x4, e6, hf⟩ := bd_some hf
    refine gVi (As := [.ref (ad 63), .ref (ad (7 * j + 1))]) (rest := []) (k := 87) hC hP hS (kX4_stepOnce l D cy tX tY ad A hC.2.2.2.2.2.2.2.2.1 F (j := j) hj x e6) glX4_38 ⟨rfl, rfl⟩ hdX4_stepOnce ⟨Nat.le_of_ble_eq_true rfl, Nat.le_of_ble_eq_true rfl⟩ (by decide) (eX_87 cy ad _ _) rfl rfl hl.1 rfl (Nat.le_of_ble_eq_true rfl) dX4_run_13 ⟨Nat.zero_le _, Nat.zero_le _⟩ (fun H locs hP hS => ?_)
    refine lv_if_ne (tgt := 28) hx hb dX4_run_16 (by decide) (fun c7 => ?_) (fun c7 => ?_)
    · have hf := it_f c7 hf
      obtain ⟨b8, e9, hf⟩ := lt_some hf
      refine lv_iinc (v := b8) (lv' := [(4, .int b8), (0, .ref (ad 87)), (1, .ref (ad 63)), (2, .ref (ad (7 * j + 1)))]) hx hb dX4_run_28 hl (k := 3) rfl (by rw [e9]; rfl) (by decide) rfl (fun ls hl => ?_)
      refine lv_goto (tgt := 5) hx hb dX4_run_31 (by decide) ?_
      exact hrec5 x4 b8 hf H locs ls hP hS (lv_sub hl [1, 2, 3, 0] rfl)
    · have hf := it_t c7 hf
      refine lv_aload_n hx hb dX4_run_19 rfl (lv_at hl 0 rfl) ?_
      refine lv_aload_n hx hb dX4_run_20 rfl (lv_at hl 1 rfl) ?_
      refine lv_aload_n hx hb dX4_run_21 rfl (lv_at hl 2 rfl) ?_
      refine lv_iload hx hb dX4_run_22 (lv_at hl 3 rfl) ?_
      obtain ⟨r11, x10, e12, hf⟩ := bd_some hf
      refine gVv (As := [.ref (ad 63), .ref (ad (7 * j + 1)), .int a4]) (rest := []) (k := 87) hC hP hS (kX4_waitFor l D cy tX tY ad A hC.2.2.2.2.2.2.2.2.1 F (j := j) hj x4 a4 e12) glX4_42 ⟨rfl, rfl⟩ hdX4_waitFor ⟨Nat.le_of_ble_eq_true rfl, Nat.le_of_ble_eq_true rfl⟩ (by decide) (eX_87 cy ad _ _) rfl rfl hl.1 rfl (Nat.le_of_ble_eq_true rfl) dX4_run_24 ⟨Nat.zero_le _, Nat.zero_le _⟩ (fun H locs hP hS => ?_)
      exact gVret hC hP hS hf dX4_run_27
theorem tX4_run_5 (hC : Cf p s m args meth c cX4_run 5 RX4 none D cy tX tY ad A 93) (F : Nat) {z : Unit × HT} {j : Nat} (hj : j < 8) : ∀ (n9 : Nat) (x : HT) (a4 : Int32), fX4_run_5 F j n9 x a4 = some z → Wd p l e { frames := 3, cells := 0, slots := 0, locals := 71 } s m args below meth c D (eX cy ad) 93 ad A (cQv (eX cy ad) 93 ad D A z) 5 5 [(0, .ref (ad 87)), (1, .ref (ad 63)), (2, .ref (ad (7 * j + 1))), (4, .int a4)] [] x := by
  intro n9
  induction n9 with
  | zero => intro x a4 hf; cases hf
  | succ n9 ih => intro x a4 hf; exact tX4_run_5b hC F hj (fX4_run_5 F j n9) ih x a4 hf
set_option maxHeartbeats 4000000 in
set_option maxRecDepth 100000 in
theorem kX4_run (l : Launch) (D : va_G) (cy : Nat → ClassId) (tX tY : Nat) (ad : Nat → Nat) (A : Nat → Prop) (hA : apart ad A 93) (F : Nat) {j : Nat} (hj : j < 8) (x : HT) (a3 : Int32) {z : Unit × HT} (hf : fX4_run F j x a3 = some z) : Met l yX4_run (Cond.code yX4_run cX4_run 5 none :: wAll) { frames := 3, cells := 0, slots := 0, locals := 71 } (cPc (eX cy ad) 93 ad D cy tX tY A [.ref (ad 87), .ref (ad 63), .ref (ad (7 * j + 1)), .int a3] x) (cQv (eX cy ad) 93 ad D A z) 0 0 A := by
  refine gMet hA (by decide) (Nat.le_of_ble_eq_true rfl) (fun p e s m below meth c hC H locs ls hP hS hl => ?_)
  have hC : Cf p s m _ meth c cX4_run 5 RX4 none D cy tX tY ad A 93 := hC
  have hl : lv_has ls 5 [(0, .ref (ad 87)), (1, .ref (ad 63)), (2, .ref (ad (7 * j + 1))), (3, .int a3)] := hl
  obtain ⟨hx, hb, -⟩ := id hC
  refine lv_iload_n hx hb dX4_run_0 rfl (lv_at hl 3 rfl) ?_
  refine lv_iconst (v := 1) hx hb dX4_run_1 (by decide) ?_
  refine lv_isub hx hb dX4_run_2 ?_
  refine lv_topi (fun b1 e2 => ?_)
  have hf := lt_use e2 hf
  refine lv_istore (lv' := [(4, .int b1), (0, .ref (ad 87)), (1, .ref (ad 63)), (2, .ref (ad (7 * j + 1))), (3, .int a3)]) hx hb dX4_run_3 hl (by decide) rfl (fun ls hl => ?_)
  exact tX4_run_5 hC F hj F x b1 hf H locs ls hP hS (lv_sub hl [1, 2, 3, 0] rfl)
set_option maxHeartbeats 4000000 in
set_option maxRecDepth 100000 in
theorem tX5_undone_56 (hC : Cf p s m args meth c cX5_undone 7 RX5 (some .int) D cy tX tY ad A 93) (F : Nat) {z : Int32 × HT} {j : Nat} (hj : j < 8) (rec36 : HT → Int32 → Int32 → Int32 → Option (Int32 × HT)) (hrec36 : ∀ (x : HT) (a4 : Int32) (a5 : Int32) (a6 : Int32), rec36 x a4 a5 a6 = some z → Wd p l e { frames := 2, cells := 0, slots := 0, locals := 43 } s m args below meth c D (eX cy ad) 93 ad A (cQi (eX cy ad) 93 ad D A z) 7 36 [(0, .ref (ad 63)), (1, .ref (ad (7 * j + 1))), (4, .int a4), (5, .int a5), (6, .int a6)] [] x) : ∀ (x : HT) (a4 : Int32) (a5 : Int32) (a6 : Int32), fX5_undone_56 F rec36 j x a4 a5 a6 = some z → Wd p l e { frames := 2, cells := 0, slots := 0, locals := 43 } s m args below meth c D (eX cy ad) 93 ad A (cQi (eX cy ad) 93 ad D A z) 7 56 [(0, .ref (ad 63)), (1, .ref (ad (7 * j + 1))), (4, .int a4), (5, .int a5), (6, .int a6)] [] x := by
  intro x a4 a5 a6 hf H locs ls hP hS hl
  obtain ⟨hx, hb, -⟩ := id hC
  obtain ⟨b13, e14, hf⟩ := lt_some hf
  refine lv_iinc (v := b13) (lv' := [(6, .int b13), (0, .ref (ad 63)), (1, .ref (ad (7 * j + 1))), (4, .int a4), (5, .int a5)]) hx hb dX5_undone_56 hl (k := 4) rfl (by rw [e14]; rfl) (by decide) rfl (fun ls hl => ?_)
  refine lv_goto (tgt := 36) hx hb dX5_undone_59 (by decide) ?_
  exact hrec36 x a4 a5 b13 hf H locs ls hP hS (lv_sub hl [1, 2, 3, 4, 0] rfl)
set_option maxHeartbeats 4000000 in
set_option maxRecDepth 100000 in
theorem tX5_undone_36b (hC : Cf p s m args meth c cX5_undone 7 RX5 (some .int) D cy tX tY ad A 93) (F : Nat) {z : Int32 × HT} {j : Nat} (hj : j < 8) (rec36 : HT → Int32 → Int32 → Int32 → Option (Int32 × HT)) (hrec36 : ∀ (x : HT) (a4 : Int32) (a5 : Int32) (a6 : Int32), rec36 x a4 a5 a6 = some z → Wd p l e { frames := 2, cells := 0, slots := 0, locals := 43 } s m args below meth c D (eX cy ad) 93 ad A (cQi (eX cy ad) 93 ad D A z) 7 36 [(0, .ref (ad 63)), (1, .ref (ad (7 * j + 1))), (4, .int a4), (5, .int a5), (6, .int a6)] [] x) : ∀ (x : HT) (a4 : Int32) (a5 : Int32) (a6 : Int32), fX5_undone_36b F rec36 j x a4 a5 a6 = some z → Wd p l e { frames := 2, cells := 0, slots := 0, locals := 43 } s m args below meth c D (eX cy ad) 93 ad A (cQi (eX cy ad) 93 ad D A z) 7 36 [(0, .ref (ad 63)), (1, .ref (ad (7 * j + 1))), (4, .int a4), (5, .int a5), (6, .int a6)] [] x := by
  intro x a4 a5 a6 hf H locs ls hP hS hl
  obtain ⟨hx, hb, -⟩ := id hC
  refine lv_iload hx hb dX5_undone_36 (lv_at hl 4 rfl) ?_
  refine lv_iload hx hb dX5_undone_38 (lv_at hl 2 rfl) ?_
  refine lv_icmp_ge (tgt := 62) hx hb dX5_undone_40 (by decide) (fun c6 => ?_) (fun c6 => ?_)
  · have hf := it_t c6 hf
    refine lv_iload hx hb dX5_undone_62 (lv_at hl 3 rfl) ?_
    exact gIret hC hP hS hf dX5_undone_64
  · have hf := it_f c6 hf
    refine lv_aload_n hx hb dX5_undone_43 rfl (lv_at hl 0 rfl) ?_
    refine lv_aload_n hx hb dX5_undone_44 rfl (lv_at hl 1 rfl) ?_
    refine lv_iload hx hb dX5_undone_45 (lv_at hl 4 rfl) ?_
    obtain ⟨r8, x7, e9, hf⟩ := bd_some hf
    refine gVi (As := [.ref (ad (7 * j + 1)), .int a6]) (rest := []) (k := 63) hC hP hS (kX5_isDone l D cy tX tY ad A hC.2.2.2.2.2.2.2.2.1 F (j := j) hj x a6 e9) glX5_75 ⟨rfl, rfl⟩ hdX5_isDone ⟨Nat.le_of_ble_eq_true rfl, Nat.le_of_ble_eq_true rfl⟩ (by decide) (eX_63 cy ad _ _) rfl rfl hl.1 rfl (Nat.le_of_ble_eq_true rfl) dX5_undone_47 ⟨Nat.zero_le _, Nat.zero_le _⟩ (fun H locs hP hS => ?_)
    refine lv_if_ne (tgt := 56) hx hb dX5_undone_50 (by decide) (fun c10 => ?_) (fun c10 => ?_)
    · have hf := it_f c10 hf
      exact tX5_undone_56 hC F hj rec36 hrec36 x7 a4 a5 a6 hf H locs ls hP hS (lv_sub hl [0, 1, 2, 3, 4] rfl)
    · have hf := it_t c10 hf
      obtain ⟨b11, e12, hf⟩ := lt_some hf
      refine lv_iinc (v := b11) (lv' := [(5, .int b11), (0, .ref (ad 63)), (1, .ref (ad (7 * j + 1))), (4, .int a4), (6, .int a6)]) hx hb dX5_undone_53 hl (k := 3) rfl (by rw [e12]; rfl) (by decide) rfl (fun ls hl => ?_)
      exact tX5_undone_56 hC F hj rec36 hrec36 x7 a4 b11 a6 hf H locs ls hP hS (lv_sub hl [1, 2, 3, 0, 4] rfl)
theorem tX5_undone_36 (hC : Cf p s m args meth c cX5_undone 7 RX5 (some .int) D cy tX tY ad A 93) (F : Nat) {z : Int32 × HT} {j : Nat} (hj : j < 8) : ∀ (n9 : Nat) (x : HT) (a4 : Int32) (a5 : Int32) (a6 : Int32), fX5_undone_36 F j n9 x a4 a5 a6 = some z → Wd p l e { frames := 2, cells := 0, slots := 0, locals := 43 } s m args below meth c D (eX cy ad) 93 ad A (cQi (eX cy ad) 93 ad D A z) 7 36 [(0, .ref (ad 63)), (1, .ref (ad (7 * j + 1))), (4, .int a4), (5, .int a5), (6, .int a6)] [] x := by
  intro n9
  induction n9 with
  | zero => intro x a4 a5 a6 hf; cases hf
  | succ n9 ih => intro x a4 a5 a6 hf; exact tX5_undone_36b hC F hj (fX5_undone_36 F j n9) ih x a4 a5 a6 hf
set_option maxHeartbeats 4000000 in
set_option maxRecDepth 100000 in
theorem tX5_undone_28 (hC : Cf p s m args meth c cX5_undone 7 RX5 (some .int) D cy tX tY ad A 93) (F : Nat) {z : Int32 × HT} {j : Nat} (hj : j < 8) : ∀ (x : HT) (a3 : Int32) (t0 : Int32), fX5_undone_28 F j x a3 t0 = some z → Wd p l e { frames := 2, cells := 0, slots := 0, locals := 43 } s m args below meth c D (eX cy ad) 93 ad A (cQi (eX cy ad) 93 ad D A z) 7 28 [(0, .ref (ad 63)), (1, .ref (ad (7 * j + 1))), (3, .int a3)] [.int t0] x := by
  intro x a3 t0 hf H locs ls hP hS hl
  obtain ⟨hx, hb, -⟩ := id hC
  refine lv_istore (lv' := [(4, .int t0), (0, .ref (ad 63)), (1, .ref (ad (7 * j + 1))), (3, .int a3)]) hx hb dX5_undone_28 hl (by decide) rfl (fun ls hl => ?_)
  refine lv_iconst (v := 0) hx hb dX5_undone_30 (by decide) ?_
  refine lv_istore (lv' := [(5, .int (0 : Int32)), (4, .int t0), (0, .ref (ad 63)), (1, .ref (ad (7 * j + 1))), (3, .int a3)]) hx hb dX5_undone_31 hl (by decide) rfl (fun ls hl => ?_)
  refine lv_iload_n hx hb dX5_undone_33 rfl (lv_at hl 4 rfl) ?_
  refine lv_istore (lv' := [(6, .int a3), (5, .int (0 : Int32)), (4, .int t0), (0, .ref (ad 63)), (1, .ref (ad (7 * j + 1))), (3, .int a3)]) hx hb dX5_undone_34 hl (by decide) rfl (fun ls hl => ?_)
  exact tX5_undone_36 hC F hj F x t0 (0 : Int32) a3 hf H locs ls hP hS (lv_sub hl [3, 4, 2, 1, 0] rfl)
set_option maxHeartbeats 4000000 in
set_option maxRecDepth 100000 in
theorem tX5_undone_12 (hC : Cf p s m args meth c cX5_undone 7 RX5 (some .int) D cy tX tY ad A 93) (F : Nat) {z : Int32 × HT} {j : Nat} (hj : j < 8) : ∀ (x : HT) (a2 : Int32) (t0 : Int32), fX5_undone_12 F j x a2 t0 = some z → Wd p l e { frames := 2, cells := 0, slots := 0, locals := 43 } s m args below meth c D (eX cy ad) 93 ad A (cQi (eX cy ad) 93 ad D A z) 7 12 [(0, .ref (ad 63)), (1, .ref (ad (7 * j + 1))), (2, .int a2)] [.int t0] x := by
  intro x a2 t0 hf H locs ls hP hS hl
  obtain ⟨hx, hb, -⟩ := id hC
  refine lv_istore_n (lv' := [(3, .int t0), (0, .ref (ad 63)), (1, .ref (ad (7 * j + 1))), (2, .int a2)]) hx hb dX5_undone_12 rfl hl (by decide) rfl (fun ls hl => ?_)
  refine lv_iload_n hx hb dX5_undone_13 rfl (lv_at hl 3 rfl) ?_
  refine lv_iconst (v := -1) hx hb dX5_undone_14 (by decide) ?_
  refine lv_icmp_ne (tgt := 25) hx hb dX5_undone_15 (by decide) (fun c2 => ?_) (fun c2 => ?_)
  · have hf := it_f c2 hf
    refine lv_iload_n hx hb dX5_undone_25 rfl (lv_at hl 0 rfl) ?_
    refine lv_iconst (v := 2) hx hb dX5_undone_26 (by decide) ?_
    refine lv_iadd hx hb dX5_undone_27 ?_
    exact tX5_undone_28 hC F hj x t0 (t0 + (2 : Int32)) hf H locs ls hP hS (lv_sub hl [1, 2, 0] rfl)
  · have hf := it_t c2 hf
    refine lv_aload_n hx hb dX5_undone_18 rfl (lv_at hl 2 rfl) ?_
    obtain ⟨r4, x3, e5, hf⟩ := bd_some hf
    refine gVi (As := []) (rest := []) (k := (7 * j + 1)) hC hP hS (kX2_worms l D cy tX tY ad A hC.2.2.2.2.2.2.2.2.1 F (j := j) hj x e5) glX5_71 ⟨rfl, rfl⟩ hdX2_worms ⟨Nat.le_of_ble_eq_true rfl, Nat.le_of_ble_eq_true rfl⟩ (by omega) (eX_S hj cy ad _ _) rfl rfl hl.1 rfl (Nat.le_of_ble_eq_true rfl) dX5_undone_19 ⟨Nat.zero_le _, Nat.zero_le _⟩ (fun H locs hP hS => ?_)
    refine lv_goto (tgt := 28) hx hb dX5_undone_22 (by decide) ?_
    exact tX5_undone_28 hC F hj x3 t0 r4 hf H locs ls hP hS (lv_sub hl [1, 2, 0] rfl)
set_option maxHeartbeats 4000000 in
set_option maxRecDepth 100000 in
theorem kX5_undone (l : Launch) (D : va_G) (cy : Nat → ClassId) (tX tY : Nat) (ad : Nat → Nat) (A : Nat → Prop) (hA : apart ad A 93) (F : Nat) {j : Nat} (hj : j < 8) (x : HT) (a2 : Int32) {z : Int32 × HT} (hf : fX5_undone F j x a2 = some z) : Met l yX5_undone (Cond.code yX5_undone cX5_undone 7 (some .int) :: wAll) { frames := 2, cells := 0, slots := 0, locals := 43 } (cPc (eX cy ad) 93 ad D cy tX tY A [.ref (ad 63), .ref (ad (7 * j + 1)), .int a2] x) (cQi (eX cy ad) 93 ad D A z) 0 0 A := by
  refine gMet hA (by decide) (Nat.le_of_ble_eq_true rfl) (fun p e s m below meth c hC H locs ls hP hS hl => ?_)
  have hC : Cf p s m _ meth c cX5_undone 7 RX5 (some .int) D cy tX tY ad A 93 := hC
  have hl : lv_has ls 7 [(0, .ref (ad 63)), (1, .ref (ad (7 * j + 1))), (2, .int a2)] := hl
  obtain ⟨hx, hb, -⟩ := id hC
  refine lv_iload_n hx hb dX5_undone_0 rfl (lv_at hl 2 rfl) ?_
  refine lv_iconst (v := -1) hx hb dX5_undone_1 (by decide) ?_
  refine lv_icmp_ne (tgt := 9) hx hb dX5_undone_2 (by decide) (fun c1 => ?_) (fun c1 => ?_)
  · have hf := it_f c1 hf
    refine lv_iload_n hx hb dX5_undone_9 rfl (lv_at hl 2 rfl) ?_
    refine lv_iconst (v := 2) hx hb dX5_undone_10 (by decide) ?_
    refine lv_imul hx hb dX5_undone_11 ?_
    exact tX5_undone_12 hC F hj x a2 (a2 * (2 : Int32)) hf H locs ls hP hS (lv_sub hl [0, 1, 2] rfl)
  · have hf := it_t c1 hf
    refine lv_iconst (v := 0) hx hb dX5_undone_5 (by decide) ?_
    refine lv_goto (tgt := 12) hx hb dX5_undone_6 (by decide) ?_
    exact tX5_undone_12 hC F hj x a2 (0 : Int32) hf H locs ls hP hS (lv_sub hl [0, 1, 2] rfl)
set_option maxHeartbeats 4000000 in
set_option maxRecDepth 100000 in
theorem tX6_goSteps_12 (hC : Cf p s m args meth c cX6_goSteps 2 RX6 (some .int) D cy tX tY ad A 93) (F : Nat) {z : Int32 × HT} : ∀ (x : HT), fX6_goSteps_12 F x = some z → Wd p l e { frames := 4, cells := 0, slots := 0, locals := 95 } s m args below meth c D (eX cy ad) 93 ad A (cQi (eX cy ad) 93 ad D A z) 2 12 [] [] x := by
  intro x hf H locs ls hP hS hl
  obtain ⟨hx, hb, -⟩ := id hC
  refine lv_bipush (v := -2) hx hb dX6_goSteps_12 (by decide) ?_
  exact gIret hC hP hS hf dX6_goSteps_14
set_option maxHeartbeats 4000000 in
set_option maxRecDepth 100000 in
theorem kX6_goSteps (l : Launch) (D : va_G) (cy : Nat → ClassId) (tX tY : Nat) (ad : Nat → Nat) (A : Nat → Prop) (hA : apart ad A 93) (F : Nat) (x : HT) (a1 : Int32) {z : Int32 × HT} (hf : fX6_goSteps F x a1 = some z) : Met l yX6_goSteps (Cond.code yX6_goSteps cX6_goSteps 2 (some .int) :: wAll) { frames := 4, cells := 0, slots := 0, locals := 95 } (cPc (eX cy ad) 93 ad D cy tX tY A [.ref (ad 0), .int a1] x) (cQi (eX cy ad) 93 ad D A z) 0 0 A := by
  refine gMet hA (by decide) (Nat.le_of_ble_eq_true rfl) (fun p e s m below meth c hC H locs ls hP hS hl => ?_)
  have hC : Cf p s m _ meth c cX6_goSteps 2 RX6 (some .int) D cy tX tY ad A 93 := hC
  have hl : lv_has ls 2 [(0, .ref (ad 0)), (1, .int a1)] := hl
  obtain ⟨hx, hb, -⟩ := id hC
  refine lv_iload_n hx hb dX6_goSteps_0 rfl (lv_at hl 1 rfl) ?_
  refine lv_iconst (v := 1) hx hb dX6_goSteps_1 (by decide) ?_
  refine lv_icmp_lt (tgt := 12) hx hb dX6_goSteps_2 (by decide) (fun c1 => ?_) (fun c1 => ?_)
  · have hf := it_t c1 hf
    exact tX6_goSteps_12 hC F x hf H locs ls hP hS (lv_sub hl [] rfl)
  · have hf := it_f c1 hf
    refine lv_iload_n hx hb dX6_goSteps_5 rfl (lv_at hl 1 rfl) ?_
    refine lv_sipush (v := 200) hx hb dX6_goSteps_6 (by decide) ?_
    refine lv_icmp_le (tgt := 15) hx hb dX6_goSteps_9 (by decide) (fun c2 => ?_) (fun c2 => ?_)
    · have hf := it_t c2 hf
      refine lv_aload_n hx hb dX6_goSteps_15 rfl (lv_at hl 0 rfl) ?_
      refine gfX6_46 hC hP dX6_goSteps_16 ?_
      refine lv_aload_n hx hb dX6_goSteps_19 rfl (lv_at hl 0 rfl) ?_
      refine gfX6_39 hC hP dX6_goSteps_20 ?_
      refine lv_aload_n hx hb dX6_goSteps_23 rfl (lv_at hl 0 rfl) ?_
      refine gfX6_12 hC hP dX6_goSteps_24 ?_
      obtain ⟨r4, x3, e5, hf⟩ := bd_some hf
      refine gVv (As := [.ref (ad 63), .ref (ad (7 * 0 + 1))]) (rest := []) (k := 87) hC hP hS (kX4_enter l D cy tX tY ad A hC.2.2.2.2.2.2.2.2.1 F (j := 0) (by decide) x e5) glX6_246 ⟨rfl, rfl⟩ hdX4_enter ⟨Nat.le_of_ble_eq_true rfl, Nat.le_of_ble_eq_true rfl⟩ (by decide) (eX_87 cy ad _ _) rfl rfl hl.1 rfl (Nat.le_of_ble_eq_true rfl) dX6_goSteps_27 ⟨Nat.zero_le _, Nat.zero_le _⟩ (fun H locs hP hS => ?_)
      refine lv_aload_n hx hb dX6_goSteps_30 rfl (lv_at hl 0 rfl) ?_
      refine gfX6_46 hC hP dX6_goSteps_31 ?_
      refine lv_aload_n hx hb dX6_goSteps_34 rfl (lv_at hl 0 rfl) ?_
      refine gfX6_39 hC hP dX6_goSteps_35 ?_
      refine lv_aload_n hx hb dX6_goSteps_38 rfl (lv_at hl 0 rfl) ?_
      refine gfX6_12 hC hP dX6_goSteps_39 ?_
      refine lv_iload_n hx hb dX6_goSteps_42 rfl (lv_at hl 1 rfl) ?_
      obtain ⟨r7, x6, e8, hf⟩ := bd_some hf
      refine gVv (As := [.ref (ad 63), .ref (ad (7 * 0 + 1)), .int a1]) (rest := []) (k := 87) hC hP hS (kX4_run l D cy tX tY ad A hC.2.2.2.2.2.2.2.2.1 F (j := 0) (by decide) x3 a1 e8) glX6_250 ⟨rfl, rfl⟩ hdX4_run ⟨Nat.le_of_ble_eq_true rfl, Nat.le_of_ble_eq_true rfl⟩ (by decide) (eX_87 cy ad _ _) rfl rfl hl.1 rfl (Nat.le_of_ble_eq_true rfl) dX6_goSteps_43 ⟨Nat.zero_le _, Nat.zero_le _⟩ (fun H locs hP hS => ?_)
      refine lv_aload_n hx hb dX6_goSteps_46 rfl (lv_at hl 0 rfl) ?_
      refine gfX6_39 hC hP dX6_goSteps_47 ?_
      refine lv_aload_n hx hb dX6_goSteps_50 rfl (lv_at hl 0 rfl) ?_
      refine gfX6_12 hC hP dX6_goSteps_51 ?_
      refine lv_iconst (v := -1) hx hb dX6_goSteps_54 (by decide) ?_
      obtain ⟨r10, x9, e11, hf⟩ := bd_some hf
      refine gVi (As := [.ref (ad (7 * 0 + 1)), .int (-1 : Int32)]) (rest := []) (k := 63) hC hP hS (kX5_undone l D cy tX tY ad A hC.2.2.2.2.2.2.2.2.1 F (j := 0) (by decide) x6 (-1 : Int32) e11) glX6_254 ⟨rfl, rfl⟩ hdX5_undone ⟨Nat.le_of_ble_eq_true rfl, Nat.le_of_ble_eq_true rfl⟩ (by decide) (eX_63 cy ad _ _) rfl rfl hl.1 rfl (Nat.le_of_ble_eq_true rfl) dX6_goSteps_55 ⟨Nat.zero_le _, Nat.zero_le _⟩ (fun H locs hP hS => ?_)
      exact gIret hC hP hS hf dX6_goSteps_58
    · have hf := it_f c2 hf
      exact tX6_goSteps_12 hC F x hf H locs ls hP hS (lv_sub hl [] rfl)
