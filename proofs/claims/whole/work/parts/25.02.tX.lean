variable {p : Program} {l : Launch} {e : Env} {s : State} {m : MethodId} {args : Array Value} {below : List Frame} {meth : Method} {c : Code} {D : va_G} {cy : Nat → ClassId} {tX tY : Nat} {ad : Nat → Nat} {A : Nat → Prop}
set_option maxHeartbeats 4000000 in
set_option maxRecDepth 100000 in
theorem kX6_steps (l : Launch) (D : va_G) (cy : Nat → ClassId) (tX tY : Nat) (ad : Nat → Nat) (A : Nat → Prop) (hA : apart ad A 93) (F : Nat) (x : HT) (a1 : Int32) {z : Int32 × HT} (hf : fX6_steps F x a1 = some z) : Met l yX6_steps (Cond.code yX6_steps cX6_steps 2 (some .int) :: wAll) { frames := 5, cells := 0, slots := 0, locals := 116 } (cPc (eX cy ad) 93 ad D cy tX tY A [.ref (ad 0), .int a1] x) (cQi (eX cy ad) 93 ad D A z) 0 0 A := by
  refine gMet hA (by decide) (Nat.le_of_ble_eq_true rfl) (fun p e s m below meth c hC H locs ls hP hS hl => ?_)
  have hC : Cf p s m _ meth c cX6_steps 2 RX6 (some .int) D cy tX tY ad A 93 := hC
  have hl : lv_has ls 2 [(0, .ref (ad 0)), (1, .int a1)] := hl
  obtain ⟨hx, hb, -⟩ := id hC
  refine lv_aload_n hx hb dX6_steps_0 rfl (lv_at hl 0 rfl) ?_
  refine gfX6_16 hC hP dX6_steps_1 ?_
  refine lv_aload_n hx hb dX6_steps_4 rfl (lv_at hl 0 rfl) ?_
  refine gfX6_12 hC hP dX6_steps_5 ?_
  obtain ⟨r2, x1, e3, hf⟩ := bd_some hf
  refine gVv (As := [.ref (ad (7 * 0 + 1))]) (rest := []) (k := (7 * 1 + 1)) hC hP hS (kX2_copyFrom l D cy tX tY ad A hC.2.2.2.2.2.2.2.2.1 F (j := 1) (j2 := 0) (by decide) (by decide) x e3) glX6_64 ⟨rfl, rfl⟩ hdX2_copyFrom ⟨Nat.le_of_ble_eq_true rfl, Nat.le_of_ble_eq_true rfl⟩ (by omega) (eX_S (by decide) cy ad _ _) rfl rfl hl.1 rfl (Nat.le_of_ble_eq_true rfl) dX6_steps_8 ⟨Nat.zero_le _, Nat.zero_le _⟩ (fun H locs hP hS => ?_)
  refine lv_aload_n hx hb dX6_steps_11 rfl (lv_at hl 0 rfl) ?_
  refine lv_aload_n hx hb dX6_steps_12 rfl (lv_at hl 0 rfl) ?_
  refine lv_iload_n hx hb dX6_steps_13 rfl (lv_at hl 1 rfl) ?_
  obtain ⟨r5, x4, e6, hf⟩ := bd_some hf
  refine gVi (As := [.int a1]) (rest := [.ref (ad 0)]) (k := 0) hC hP hS (kX6_goSteps l D cy tX tY ad A hC.2.2.2.2.2.2.2.2.1 F x1 a1 e6) glX6_86 ⟨rfl, rfl⟩ hdX6_goSteps ⟨Nat.le_of_ble_eq_true rfl, Nat.le_of_ble_eq_true rfl⟩ (by decide) (eX_0 cy ad _ _) rfl rfl hl.1 rfl (Nat.le_of_ble_eq_true rfl) dX6_steps_14 ⟨Nat.zero_le _, Nat.zero_le _⟩ (fun H locs hP hS => ?_)
  obtain ⟨r8, x7, e9, hf⟩ := bd_some hf
  refine gVi (As := [.int r5]) (rest := []) (k := 0) hC hP hS (kX6_settle l D cy tX tY ad A hC.2.2.2.2.2.2.2.2.1 F x4 r5 e9) glX6_72 ⟨rfl, rfl⟩ hdX6_settle ⟨Nat.le_of_ble_eq_true rfl, Nat.le_of_ble_eq_true rfl⟩ (by decide) (eX_0 cy ad _ _) rfl rfl hl.1 rfl (Nat.le_of_ble_eq_true rfl) dX6_steps_17 ⟨Nat.zero_le _, Nat.zero_le _⟩ (fun H locs hP hS => ?_)
  exact gIret hC hP hS hf dX6_steps_20
set_option maxHeartbeats 4000000 in
set_option maxRecDepth 100000 in
theorem kX6_startAgain (l : Launch) (D : va_G) (cy : Nat → ClassId) (tX tY : Nat) (ad : Nat → Nat) (A : Nat → Prop) (hA : apart ad A 93) (F : Nat) (x : HT) {z : Int32 × HT} (hf : fX6_startAgain F x = some z) : Met l yX6_startAgain (Cond.code yX6_startAgain cX6_startAgain 2 (some .int) :: wAll) { frames := 2, cells := 0, slots := 0, locals := 43 } (cPc (eX cy ad) 93 ad D cy tX tY A [.ref (ad 0)] x) (cQi (eX cy ad) 93 ad D A z) 0 0 A := by
  refine gMet hA (by decide) (Nat.le_of_ble_eq_true rfl) (fun p e s m below meth c hC H locs ls hP hS hl => ?_)
  have hC : Cf p s m _ meth c cX6_startAgain 2 RX6 (some .int) D cy tX tY ad A 93 := hC
  have hl : lv_has ls 2 [(0, .ref (ad 0))] := hl
  obtain ⟨hx, hb, -⟩ := id hC
  refine lv_aload_n hx hb dX6_startAgain_0 rfl (lv_at hl 0 rfl) ?_
  refine gfX6_12 hC hP dX6_startAgain_1 ?_
  refine gfX6_257 hC hP (by decide) dX6_startAgain_4 ?_
  refine lv_topi (fun b1 e2 => ?_)
  have hf := lt_use e2 hf
  refine lv_istore_n (lv' := [(1, .int b1), (0, .ref (ad 0))]) hx hb dX6_startAgain_7 rfl hl (by decide) rfl (fun ls hl => ?_)
  refine lv_aload_n hx hb dX6_startAgain_8 rfl (lv_at hl 1 rfl) ?_
  refine gfX6_12 hC hP dX6_startAgain_9 ?_
  obtain ⟨r4, x3, e5, hf⟩ := bd_some hf
  refine gVv (As := []) (rest := []) (k := (7 * 0 + 1)) hC hP hS (kX2_standStill l D cy tX tY ad A hC.2.2.2.2.2.2.2.2.1 F (j := 0) (by decide) x e5) glX6_260 ⟨rfl, rfl⟩ hdX2_standStill ⟨Nat.le_of_ble_eq_true rfl, Nat.le_of_ble_eq_true rfl⟩ (by omega) (eX_S (by decide) cy ad _ _) rfl rfl hl.1 rfl (Nat.le_of_ble_eq_true rfl) dX6_startAgain_12 ⟨Nat.zero_le _, Nat.zero_le _⟩ (fun H locs hP hS => ?_)
  refine lv_iload_n hx hb dX6_startAgain_15 rfl (lv_at hl 0 rfl) ?_
  exact gIret hC hP hS hf dX6_startAgain_16
set_option maxHeartbeats 4000000 in
set_option maxRecDepth 100000 in
theorem kX6_again (l : Launch) (D : va_G) (cy : Nat → ClassId) (tX tY : Nat) (ad : Nat → Nat) (A : Nat → Prop) (hA : apart ad A 93) (F : Nat) (x : HT) {z : Int32 × HT} (hf : fX6_again F x = some z) : Met l yX6_again (Cond.code yX6_again cX6_again 1 (some .int) :: wAll) { frames := 4, cells := 0, slots := 0, locals := 111 } (cPc (eX cy ad) 93 ad D cy tX tY A [.ref (ad 0)] x) (cQi (eX cy ad) 93 ad D A z) 0 0 A := by
  refine gMet hA (by decide) (Nat.le_of_ble_eq_true rfl) (fun p e s m below meth c hC H locs ls hP hS hl => ?_)
  have hC : Cf p s m _ meth c cX6_again 1 RX6 (some .int) D cy tX tY ad A 93 := hC
  have hl : lv_has ls 1 [(0, .ref (ad 0))] := hl
  obtain ⟨hx, hb, -⟩ := id hC
  refine lv_aload_n hx hb dX6_again_0 rfl (lv_at hl 0 rfl) ?_
  refine gfX6_16 hC hP dX6_again_1 ?_
  refine lv_aload_n hx hb dX6_again_4 rfl (lv_at hl 0 rfl) ?_
  refine gfX6_12 hC hP dX6_again_5 ?_
  obtain ⟨r2, x1, e3, hf⟩ := bd_some hf
  refine gVv (As := [.ref (ad (7 * 0 + 1))]) (rest := []) (k := (7 * 1 + 1)) hC hP hS (kX2_copyFrom l D cy tX tY ad A hC.2.2.2.2.2.2.2.2.1 F (j := 1) (j2 := 0) (by decide) (by decide) x e3) glX6_64 ⟨rfl, rfl⟩ hdX2_copyFrom ⟨Nat.le_of_ble_eq_true rfl, Nat.le_of_ble_eq_true rfl⟩ (by omega) (eX_S (by decide) cy ad _ _) rfl rfl hl.1 rfl (Nat.le_of_ble_eq_true rfl) dX6_again_8 ⟨Nat.zero_le _, Nat.zero_le _⟩ (fun H locs hP hS => ?_)
  refine lv_aload_n hx hb dX6_again_11 rfl (lv_at hl 0 rfl) ?_
  refine lv_aload_n hx hb dX6_again_12 rfl (lv_at hl 0 rfl) ?_
  obtain ⟨r5, x4, e6, hf⟩ := bd_some hf
  refine gVi (As := []) (rest := [.ref (ad 0)]) (k := 0) hC hP hS (kX6_startAgain l D cy tX tY ad A hC.2.2.2.2.2.2.2.2.1 F x1 e6) glX6_89 ⟨rfl, rfl⟩ hdX6_startAgain ⟨Nat.le_of_ble_eq_true rfl, Nat.le_of_ble_eq_true rfl⟩ (by decide) (eX_0 cy ad _ _) rfl rfl hl.1 rfl (Nat.le_of_ble_eq_true rfl) dX6_again_13 ⟨Nat.zero_le _, Nat.zero_le _⟩ (fun H locs hP hS => ?_)
  obtain ⟨r8, x7, e9, hf⟩ := bd_some hf
  refine gVi (As := [.int r5]) (rest := []) (k := 0) hC hP hS (kX6_settle l D cy tX tY ad A hC.2.2.2.2.2.2.2.2.1 F x4 r5 e9) glX6_72 ⟨rfl, rfl⟩ hdX6_settle ⟨Nat.le_of_ble_eq_true rfl, Nat.le_of_ble_eq_true rfl⟩ (by decide) (eX_0 cy ad _ _) rfl rfl hl.1 rfl (Nat.le_of_ble_eq_true rfl) dX6_again_16 ⟨Nat.zero_le _, Nat.zero_le _⟩ (fun H locs hP hS => ?_)
  exact gIret hC hP hS hf dX6_again_19
set_option maxHeartbeats 4000000 in
set_option maxRecDepth 100000 in
theorem kX6_label (l : Launch) (D : va_G) (cy : Nat → ClassId) (tX tY : Nat) (ad : Nat → Nat) (A : Nat → Prop) (hA : apart ad A 93) (F : Nat) (x : HT) (a1 : Int32) (a2 : Int32) {z : Int32 × HT} (hf : fX6_label F x a1 a2 = some z) : Met l yX6_label (Cond.code yX6_label cX6_label 3 (some .int) :: wAll) { frames := 1, cells := 0, slots := 0, locals := 22 } (cPc (eX cy ad) 93 ad D cy tX tY A [.ref (ad 0), .int a1, .int a2] x) (cQi (eX cy ad) 93 ad D A z) 0 0 A := by
  refine gMet hA (by decide) (Nat.le_of_ble_eq_true rfl) (fun p e s m below meth c hC H locs ls hP hS hl => ?_)
  have hC : Cf p s m _ meth c cX6_label 3 RX6 (some .int) D cy tX tY ad A 93 := hC
  have hl : lv_has ls 3 [(0, .ref (ad 0)), (1, .int a1), (2, .int a2)] := hl
  obtain ⟨hx, hb, -⟩ := id hC
  refine lv_aload_n hx hb dX6_label_0 rfl (lv_at hl 0 rfl) ?_
  refine gfX6_32 hC hP dX6_label_1 ?_
  refine lv_iload_n hx hb dX6_label_4 rfl (lv_at hl 1 rfl) ?_
  refine lv_iload_n hx hb dX6_label_5 rfl (lv_at hl 2 rfl) ?_
  obtain ⟨r2, x1, e3, hf⟩ := bd_some hf
  refine gVi (As := [.int a1, .int a2]) (rest := []) (k := 59) hC hP hS (kX0_has l D cy tX tY ad A hC.2.2.2.2.2.2.2.2.1 F x a1 a2 e3) glX6_93 ⟨rfl, rfl⟩ hdX0_has ⟨Nat.le_of_ble_eq_true rfl, Nat.le_of_ble_eq_true rfl⟩ (by decide) (eX_59 cy ad _ _) rfl rfl hl.1 rfl (Nat.le_of_ble_eq_true rfl) dX6_label_6 ⟨Nat.zero_le _, Nat.zero_le _⟩ (fun H locs hP hS => ?_)
  refine lv_if_eq (tgt := 24) hx hb dX6_label_9 (by decide) (fun c4 => ?_) (fun c4 => ?_)
  · have hf := it_t c4 hf
    refine lv_aload_n hx hb dX6_label_24 rfl (lv_at hl 0 rfl) ?_
    refine lv_bipush (v := -2) hx hb dX6_label_25 (by decide) ?_
    obtain ⟨r6, x5, e7, hf⟩ := bd_some hf
    refine gVi (As := [.int (-2 : Int32)]) (rest := []) (k := 0) hC hP hS (kX6_refuse l D cy tX tY ad A hC.2.2.2.2.2.2.2.2.1 F x1 (-2 : Int32) e7) glX6_100 ⟨rfl, rfl⟩ hdX6_refuse ⟨Nat.le_of_ble_eq_true rfl, Nat.le_of_ble_eq_true rfl⟩ (by decide) (eX_0 cy ad _ _) rfl rfl hl.1 rfl (Nat.le_of_ble_eq_true rfl) dX6_label_27 ⟨Nat.zero_le _, Nat.zero_le _⟩ (fun H locs hP hS => ?_)
    exact gIret hC hP hS hf dX6_label_30
  · have hf := it_f c4 hf
    refine lv_aload_n hx hb dX6_label_12 rfl (lv_at hl 0 rfl) ?_
    refine gfX6_32 hC hP dX6_label_13 ?_
    refine lv_iload_n hx hb dX6_label_16 rfl (lv_at hl 1 rfl) ?_
    refine lv_iload_n hx hb dX6_label_17 rfl (lv_at hl 2 rfl) ?_
    obtain ⟨r9, x8, e10, hf⟩ := bd_some hf
    refine gVi (As := [.int a1, .int a2]) (rest := []) (k := 59) hC hP hS (kX0_labelAt l D cy tX tY ad A hC.2.2.2.2.2.2.2.2.1 F x1 a1 a2 e10) glX6_97 ⟨rfl, rfl⟩ hdX0_labelAt ⟨Nat.le_of_ble_eq_true rfl, Nat.le_of_ble_eq_true rfl⟩ (by decide) (eX_59 cy ad _ _) rfl rfl hl.1 rfl (Nat.le_of_ble_eq_true rfl) dX6_label_18 ⟨Nat.zero_le _, Nat.zero_le _⟩ (fun H locs hP hS => ?_)
    refine lv_goto (tgt := 30) hx hb dX6_label_21 (by decide) ?_
    exact gIret hC hP hS hf dX6_label_30
set_option maxHeartbeats 4000000 in
set_option maxRecDepth 100000 in
theorem tX0_hasLabel_16 (hC : Cf p s m args meth c cX0_hasLabel 2 RX0 (some .boolean) D cy tX tY ad A 93) (F : Nat) {z : Int32 × HT} : ∀ (x : HT), fX0_hasLabel_16 F x = some z → Wd p l e { frames := 1, cells := 0, slots := 0, locals := 20 } s m args below meth c D (eX cy ad) 93 ad A (cQi (eX cy ad) 93 ad D A z) 2 16 [] [] x := by
  intro x hf H locs ls hP hS hl
  obtain ⟨hx, hb, -⟩ := id hC
  refine lv_iconst (v := 0) hx hb dX0_hasLabel_16 (by decide) ?_
  exact gZret hC hP hS rfl hf dX0_hasLabel_17
set_option maxHeartbeats 4000000 in
set_option maxRecDepth 100000 in
theorem kX0_hasLabel (l : Launch) (D : va_G) (cy : Nat → ClassId) (tX tY : Nat) (ad : Nat → Nat) (A : Nat → Prop) (hA : apart ad A 93) (F : Nat) (x : HT) (a1 : Int32) {z : Int32 × HT} (hf : fX0_hasLabel F x a1 = some z) : Met l yX0_hasLabel (Cond.code yX0_hasLabel cX0_hasLabel 2 (some .boolean) :: wAll) { frames := 1, cells := 0, slots := 0, locals := 20 } (cPc (eX cy ad) 93 ad D cy tX tY A [.ref (ad 59), .int a1] x) (cQi (eX cy ad) 93 ad D A z) 0 0 A := by
  refine gMet hA (by decide) (Nat.le_of_ble_eq_true rfl) (fun p e s m below meth c hC H locs ls hP hS hl => ?_)
  have hC : Cf p s m _ meth c cX0_hasLabel 2 RX0 (some .boolean) D cy tX tY ad A 93 := hC
  have hl : lv_has ls 2 [(0, .ref (ad 59)), (1, .int a1)] := hl
  obtain ⟨hx, hb, -⟩ := id hC
  refine lv_iload_n hx hb dX0_hasLabel_0 rfl (lv_at hl 1 rfl) ?_
  refine lv_if_lt (tgt := 16) hx hb dX0_hasLabel_1 (by decide) (fun c1 => ?_) (fun c1 => ?_)
  · have hf := it_t c1 hf
    exact tX0_hasLabel_16 hC F x hf H locs ls hP hS (lv_sub hl [] rfl)
  · have hf := it_f c1 hf
    refine lv_iload_n hx hb dX0_hasLabel_4 rfl (lv_at hl 1 rfl) ?_
    refine lv_aload_n hx hb dX0_hasLabel_5 rfl (lv_at hl 0 rfl) ?_
    obtain ⟨r3, x2, e4, hf⟩ := bd_some hf
    refine gVi (As := []) (rest := [.int a1]) (k := 59) hC hP hS (kX0_places l D cy tX tY ad A hC.2.2.2.2.2.2.2.2.1 F x e4) glX0_46 ⟨rfl, rfl⟩ hdX0_places ⟨Nat.le_of_ble_eq_true rfl, Nat.le_of_ble_eq_true rfl⟩ (by decide) (eX_59 cy ad _ _) rfl rfl hl.1 rfl (Nat.le_of_ble_eq_true rfl) dX0_hasLabel_6 ⟨Nat.zero_le _, Nat.zero_le _⟩ (fun H locs hP hS => ?_)
    refine lv_icmp_ge (tgt := 16) hx hb dX0_hasLabel_9 (by decide) (fun c5 => ?_) (fun c5 => ?_)
    · have hf := it_t c5 hf
      exact tX0_hasLabel_16 hC F x2 hf H locs ls hP hS (lv_sub hl [] rfl)
    · have hf := it_f c5 hf
      refine lv_iconst (v := 1) hx hb dX0_hasLabel_12 (by decide) ?_
      refine lv_goto (tgt := 17) hx hb dX0_hasLabel_13 (by decide) ?_
      exact gZret hC hP hS rfl hf dX0_hasLabel_17
set_option maxHeartbeats 4000000 in
set_option maxRecDepth 100000 in
theorem kX0_tell (l : Launch) (D : va_G) (cy : Nat → ClassId) (tX tY : Nat) (ad : Nat → Nat) (A : Nat → Prop) (hA : apart ad A 93) (F : Nat) (x : HT) (a1 : Int32) {z : Int32 × HT} (hf : fX0_tell F x a1 = some z) : Met l yX0_tell (Cond.code yX0_tell cX0_tell 2 (some .int) :: wAll) { frames := 2, cells := 0, slots := 0, locals := 41 } (cPc (eX cy ad) 93 ad D cy tX tY A [.ref (ad 59), .int a1] x) (cQi (eX cy ad) 93 ad D A z) 0 0 A := by
  refine gMet hA (by decide) (Nat.le_of_ble_eq_true rfl) (fun p e s m below meth c hC H locs ls hP hS hl => ?_)
  have hC : Cf p s m _ meth c cX0_tell 2 RX0 (some .int) D cy tX tY ad A 93 := hC
  have hl : lv_has ls 2 [(0, .ref (ad 59)), (1, .int a1)] := hl
  obtain ⟨hx, hb, -⟩ := id hC
  refine lv_aload_n hx hb dX0_tell_0 rfl (lv_at hl 0 rfl) ?_
  refine lv_iload_n hx hb dX0_tell_1 rfl (lv_at hl 1 rfl) ?_
  obtain ⟨r2, x1, e3, hf⟩ := bd_some hf
  refine gVi (As := [.int a1]) (rest := []) (k := 59) hC hP hS (kX0_hasLabel l D cy tX tY ad A hC.2.2.2.2.2.2.2.2.1 F x a1 e3) glX0_50 ⟨rfl, rfl⟩ hdX0_hasLabel ⟨Nat.le_of_ble_eq_true rfl, Nat.le_of_ble_eq_true rfl⟩ (by decide) (eX_59 cy ad _ _) rfl rfl hl.1 rfl (Nat.le_of_ble_eq_true rfl) dX0_tell_2 ⟨Nat.zero_le _, Nat.zero_le _⟩ (fun H locs hP hS => ?_)
  refine lv_if_eq (tgt := 27) hx hb dX0_tell_5 (by decide) (fun c4 => ?_) (fun c4 => ?_)
  · have hf := it_t c4 hf
    refine lv_iconst (v := -1) hx hb dX0_tell_27 (by decide) ?_
    exact gIret hC hP hS hf dX0_tell_28
  · have hf := it_f c4 hf
    refine lv_bipush (v := 10) hx hb dX0_tell_8 (by decide) ?_
    refine lv_aload_n hx hb dX0_tell_10 rfl (lv_at hl 0 rfl) ?_
    refine gfX0_9 hC hP dX0_tell_11 ?_
    refine lv_iload_n hx hb dX0_tell_14 rfl (lv_at hl 1 rfl) ?_
    obtain ⟨h5, hf⟩ := ck_some hf
    refine gIal hC hP 60 (by decide) (eX_60 cy ad _ _) h5 dX0_tell_15 ?_
    refine lv_imul hx hb dX0_tell_16 ?_
    refine lv_aload_n hx hb dX0_tell_17 rfl (lv_at hl 0 rfl) ?_
    refine gfX0_15 hC hP dX0_tell_18 ?_
    refine lv_iload_n hx hb dX0_tell_21 rfl (lv_at hl 1 rfl) ?_
    obtain ⟨h6, hf⟩ := ck_some hf
    refine gIal hC hP 61 (by decide) (eX_61 cy ad _ _) h6 dX0_tell_22 ?_
    refine lv_iadd hx hb dX0_tell_23 ?_
    refine lv_goto (tgt := 28) hx hb dX0_tell_24 (by decide) ?_
    exact gIret hC hP hS hf dX0_tell_28
set_option maxHeartbeats 4000000 in
set_option maxRecDepth 100000 in
theorem kX6_place (l : Launch) (D : va_G) (cy : Nat → ClassId) (tX tY : Nat) (ad : Nat → Nat) (A : Nat → Prop) (hA : apart ad A 93) (F : Nat) (x : HT) (a1 : Int32) {z : Int32 × HT} (hf : fX6_place F x a1 = some z) : Met l yX6_place (Cond.code yX6_place cX6_place 2 (some .int) :: wAll) { frames := 3, cells := 0, slots := 0, locals := 62 } (cPc (eX cy ad) 93 ad D cy tX tY A [.ref (ad 0), .int a1] x) (cQi (eX cy ad) 93 ad D A z) 0 0 A := by
  refine gMet hA (by decide) (Nat.le_of_ble_eq_true rfl) (fun p e s m below meth c hC H locs ls hP hS hl => ?_)
  have hC : Cf p s m _ meth c cX6_place 2 RX6 (some .int) D cy tX tY ad A 93 := hC
  have hl : lv_has ls 2 [(0, .ref (ad 0)), (1, .int a1)] := hl
  obtain ⟨hx, hb, -⟩ := id hC
  refine lv_aload_n hx hb dX6_place_0 rfl (lv_at hl 0 rfl) ?_
  refine gfX6_32 hC hP dX6_place_1 ?_
  refine lv_iload_n hx hb dX6_place_4 rfl (lv_at hl 1 rfl) ?_
  obtain ⟨r2, x1, e3, hf⟩ := bd_some hf
  refine gVi (As := [.int a1]) (rest := []) (k := 59) hC hP hS (kX0_hasLabel l D cy tX tY ad A hC.2.2.2.2.2.2.2.2.1 F x a1 e3) glX6_103 ⟨rfl, rfl⟩ hdX0_hasLabel ⟨Nat.le_of_ble_eq_true rfl, Nat.le_of_ble_eq_true rfl⟩ (by decide) (eX_59 cy ad _ _) rfl rfl hl.1 rfl (Nat.le_of_ble_eq_true rfl) dX6_place_5 ⟨Nat.zero_le _, Nat.zero_le _⟩ (fun H locs hP hS => ?_)
  refine lv_if_eq (tgt := 22) hx hb dX6_place_8 (by decide) (fun c4 => ?_) (fun c4 => ?_)
  · have hf := it_t c4 hf
    refine lv_aload_n hx hb dX6_place_22 rfl (lv_at hl 0 rfl) ?_
    refine lv_bipush (v := -2) hx hb dX6_place_23 (by decide) ?_
    obtain ⟨r6, x5, e7, hf⟩ := bd_some hf
    refine gVi (As := [.int (-2 : Int32)]) (rest := []) (k := 0) hC hP hS (kX6_refuse l D cy tX tY ad A hC.2.2.2.2.2.2.2.2.1 F x1 (-2 : Int32) e7) glX6_100 ⟨rfl, rfl⟩ hdX6_refuse ⟨Nat.le_of_ble_eq_true rfl, Nat.le_of_ble_eq_true rfl⟩ (by decide) (eX_0 cy ad _ _) rfl rfl hl.1 rfl (Nat.le_of_ble_eq_true rfl) dX6_place_25 ⟨Nat.zero_le _, Nat.zero_le _⟩ (fun H locs hP hS => ?_)
    exact gIret hC hP hS hf dX6_place_28
  · have hf := it_f c4 hf
    refine lv_aload_n hx hb dX6_place_11 rfl (lv_at hl 0 rfl) ?_
    refine gfX6_32 hC hP dX6_place_12 ?_
    refine lv_iload_n hx hb dX6_place_15 rfl (lv_at hl 1 rfl) ?_
    obtain ⟨r9, x8, e10, hf⟩ := bd_some hf
    refine gVi (As := [.int a1]) (rest := []) (k := 59) hC hP hS (kX0_tell l D cy tX tY ad A hC.2.2.2.2.2.2.2.2.1 F x1 a1 e10) glX6_107 ⟨rfl, rfl⟩ hdX0_tell ⟨Nat.le_of_ble_eq_true rfl, Nat.le_of_ble_eq_true rfl⟩ (by decide) (eX_59 cy ad _ _) rfl rfl hl.1 rfl (Nat.le_of_ble_eq_true rfl) dX6_place_16 ⟨Nat.zero_le _, Nat.zero_le _⟩ (fun H locs hP hS => ?_)
    refine lv_goto (tgt := 28) hx hb dX6_place_19 (by decide) ?_
    exact gIret hC hP hS hf dX6_place_28
set_option maxHeartbeats 4000000 in
set_option maxRecDepth 100000 in
theorem tX6_next_43 (hC : Cf p s m args meth c cX6_next 5 RX6 (some .int) D cy tX tY ad A 93) (F : Nat) {z : Int32 × HT} : ∀ (x : HT) (a1 : Int32) (a2 : Int32) (a3 : Int32) (a4 : Int32), fX6_next_43 F x a1 a2 a3 a4 = some z → Wd p l e { frames := 3, cells := 0, slots := 0, locals := 62 } s m args below meth c D (eX cy ad) 93 ad A (cQi (eX cy ad) 93 ad D A z) 5 43 [(0, .ref (ad 0)), (1, .int a1), (2, .int a2), (3, .int a3), (4, .int a4)] [] x := by
  intro x a1 a2 a3 a4 hf H locs ls hP hS hl
  obtain ⟨hx, hb, -⟩ := id hC
  refine lv_aload_n hx hb dX6_next_43 rfl (lv_at hl 0 rfl) ?_
  refine gfX6_32 hC hP dX6_next_44 ?_
  refine lv_aload_n hx hb dX6_next_47 rfl (lv_at hl 0 rfl) ?_
  refine gfX6_32 hC hP dX6_next_48 ?_
  refine lv_aload_n hx hb dX6_next_51 rfl (lv_at hl 0 rfl) ?_
  refine gfX6_32 hC hP dX6_next_52 ?_
  refine lv_aload_n hx hb dX6_next_55 rfl (lv_at hl 0 rfl) ?_
  refine gfX6_32 hC hP dX6_next_56 ?_
  refine lv_iload_n hx hb dX6_next_59 rfl (lv_at hl 1 rfl) ?_
  refine lv_iload_n hx hb dX6_next_60 rfl (lv_at hl 2 rfl) ?_
  obtain ⟨r12, x11, e13, hf⟩ := bd_some hf
  refine gVi (As := [.int a1, .int a2]) (rest := [.ref (ad 59), .ref (ad 59), .ref (ad 59)]) (k := 59) hC hP hS (kX0_labelAt l D cy tX tY ad A hC.2.2.2.2.2.2.2.2.1 F x a1 a2 e13) glX6_97 ⟨rfl, rfl⟩ hdX0_labelAt ⟨Nat.le_of_ble_eq_true rfl, Nat.le_of_ble_eq_true rfl⟩ (by decide) (eX_59 cy ad _ _) rfl rfl hl.1 rfl (Nat.le_of_ble_eq_true rfl) dX6_next_61 ⟨Nat.zero_le _, Nat.zero_le _⟩ (fun H locs hP hS => ?_)
  refine lv_aload_n hx hb dX6_next_64 rfl (lv_at hl 0 rfl) ?_
  refine gfX6_32 hC hP dX6_next_65 ?_
  refine lv_iload_n hx hb dX6_next_68 rfl (lv_at hl 3 rfl) ?_
  refine lv_iload hx hb dX6_next_69 (lv_at hl 4 rfl) ?_
  obtain ⟨r15, x14, e16, hf⟩ := bd_some hf
  refine gVi (As := [.int a3, .int a4]) (rest := [.int r12, .ref (ad 59), .ref (ad 59), .ref (ad 59)]) (k := 59) hC hP hS (kX0_labelAt l D cy tX tY ad A hC.2.2.2.2.2.2.2.2.1 F x11 a3 a4 e16) glX6_97 ⟨rfl, rfl⟩ hdX0_labelAt ⟨Nat.le_of_ble_eq_true rfl, Nat.le_of_ble_eq_true rfl⟩ (by decide) (eX_59 cy ad _ _) rfl rfl hl.1 rfl (Nat.le_of_ble_eq_true rfl) dX6_next_71 ⟨Nat.zero_le _, Nat.zero_le _⟩ (fun H locs hP hS => ?_)
  obtain ⟨r18, x17, e19, hf⟩ := bd_some hf
  refine gVi (As := [.int r12, .int r15]) (rest := [.ref (ad 59), .ref (ad 59)]) (k := 59) hC hP hS (kX0_channelTowards l D cy tX tY ad A hC.2.2.2.2.2.2.2.2.1 F x14 r12 r15 e19) glX6_110 ⟨rfl, rfl⟩ hdX0_channelTowards ⟨Nat.le_of_ble_eq_true rfl, Nat.le_of_ble_eq_true rfl⟩ (by decide) (eX_59 cy ad _ _) rfl rfl hl.1 rfl (Nat.le_of_ble_eq_true rfl) dX6_next_74 ⟨Nat.zero_le _, Nat.zero_le _⟩ (fun H locs hP hS => ?_)
  obtain ⟨r21, x20, e22, hf⟩ := bd_some hf
  refine gVi (As := [.int r18]) (rest := [.ref (ad 59)]) (k := 59) hC hP hS (kX0_endOf l D cy tX tY ad A hC.2.2.2.2.2.2.2.2.1 F x17 r18 e22) glX6_113 ⟨rfl, rfl⟩ hdX0_endOf ⟨Nat.le_of_ble_eq_true rfl, Nat.le_of_ble_eq_true rfl⟩ (by decide) (eX_59 cy ad _ _) rfl rfl hl.1 rfl (Nat.le_of_ble_eq_true rfl) dX6_next_77 ⟨Nat.zero_le _, Nat.zero_le _⟩ (fun H locs hP hS => ?_)
  obtain ⟨r24, x23, e25, hf⟩ := bd_some hf
  refine gVi (As := [.int r21]) (rest := []) (k := 59) hC hP hS (kX0_tell l D cy tX tY ad A hC.2.2.2.2.2.2.2.2.1 F x20 r21 e25) glX6_107 ⟨rfl, rfl⟩ hdX0_tell ⟨Nat.le_of_ble_eq_true rfl, Nat.le_of_ble_eq_true rfl⟩ (by decide) (eX_59 cy ad _ _) rfl rfl hl.1 rfl (Nat.le_of_ble_eq_true rfl) dX6_next_80 ⟨Nat.zero_le _, Nat.zero_le _⟩ (fun H locs hP hS => ?_)
  exact gIret hC hP hS hf dX6_next_83
set_option maxHeartbeats 4000000 in
set_option maxRecDepth 100000 in
theorem tX6_next_36 (hC : Cf p s m args meth c cX6_next 5 RX6 (some .int) D cy tX tY ad A 93) (F : Nat) {z : Int32 × HT} : ∀ (x : HT), fX6_next_36 F x = some z → Wd p l e { frames := 3, cells := 0, slots := 0, locals := 62 } s m args below meth c D (eX cy ad) 93 ad A (cQi (eX cy ad) 93 ad D A z) 5 36 [(0, .ref (ad 0))] [] x := by
  intro x hf H locs ls hP hS hl
  obtain ⟨hx, hb, -⟩ := id hC
  refine lv_aload_n hx hb dX6_next_36 rfl (lv_at hl 0 rfl) ?_
  refine lv_bipush (v := -2) hx hb dX6_next_37 (by decide) ?_
  obtain ⟨r27, x26, e28, hf⟩ := bd_some hf
  refine gVi (As := [.int (-2 : Int32)]) (rest := []) (k := 0) hC hP hS (kX6_refuse l D cy tX tY ad A hC.2.2.2.2.2.2.2.2.1 F x (-2 : Int32) e28) glX6_100 ⟨rfl, rfl⟩ hdX6_refuse ⟨Nat.le_of_ble_eq_true rfl, Nat.le_of_ble_eq_true rfl⟩ (by decide) (eX_0 cy ad _ _) rfl rfl hl.1 rfl (Nat.le_of_ble_eq_true rfl) dX6_next_39 ⟨Nat.zero_le _, Nat.zero_le _⟩ (fun H locs hP hS => ?_)
  exact gIret hC hP hS hf dX6_next_42
set_option maxHeartbeats 4000000 in
set_option maxRecDepth 100000 in
theorem kX6_next (l : Launch) (D : va_G) (cy : Nat → ClassId) (tX tY : Nat) (ad : Nat → Nat) (A : Nat → Prop) (hA : apart ad A 93) (F : Nat) (x : HT) (a1 : Int32) (a2 : Int32) (a3 : Int32) (a4 : Int32) {z : Int32 × HT} (hf : fX6_next F x a1 a2 a3 a4 = some z) : Met l yX6_next (Cond.code yX6_next cX6_next 5 (some .int) :: wAll) { frames := 3, cells := 0, slots := 0, locals := 62 } (cPc (eX cy ad) 93 ad D cy tX tY A [.ref (ad 0), .int a1, .int a2, .int a3, .int a4] x) (cQi (eX cy ad) 93 ad D A z) 0 0 A := by
  refine gMet hA (by decide) (Nat.le_of_ble_eq_true rfl) (fun p e s m below meth c hC H locs ls hP hS hl => ?_)
  have hC : Cf p s m _ meth c cX6_next 5 RX6 (some .int) D cy tX tY ad A 93 := hC
  have hl : lv_has ls 5 [(0, .ref (ad 0)), (1, .int a1), (2, .int a2), (3, .int a3), (4, .int a4)] := hl
  obtain ⟨hx, hb, -⟩ := id hC
  refine lv_aload_n hx hb dX6_next_0 rfl (lv_at hl 0 rfl) ?_
  refine gfX6_32 hC hP dX6_next_1 ?_
  refine lv_iload_n hx hb dX6_next_4 rfl (lv_at hl 1 rfl) ?_
  refine lv_iload_n hx hb dX6_next_5 rfl (lv_at hl 2 rfl) ?_
  obtain ⟨r2, x1, e3, hf⟩ := bd_some hf
  refine gVi (As := [.int a1, .int a2]) (rest := []) (k := 59) hC hP hS (kX0_has l D cy tX tY ad A hC.2.2.2.2.2.2.2.2.1 F x a1 a2 e3) glX6_93 ⟨rfl, rfl⟩ hdX0_has ⟨Nat.le_of_ble_eq_true rfl, Nat.le_of_ble_eq_true rfl⟩ (by decide) (eX_59 cy ad _ _) rfl rfl hl.1 rfl (Nat.le_of_ble_eq_true rfl) dX6_next_6 ⟨Nat.zero_le _, Nat.zero_le _⟩ (fun H locs hP hS => ?_)
  refine lv_if_eq (tgt := 36) hx hb dX6_next_9 (by decide) (fun c4 => ?_) (fun c4 => ?_)
  · have hf := it_t c4 hf
    exact tX6_next_36 hC F x1 hf H locs ls hP hS (lv_sub hl [0] rfl)
  · have hf := it_f c4 hf
    refine lv_aload_n hx hb dX6_next_12 rfl (lv_at hl 0 rfl) ?_
    refine gfX6_32 hC hP dX6_next_13 ?_
    refine lv_iload_n hx hb dX6_next_16 rfl (lv_at hl 3 rfl) ?_
    refine lv_iload hx hb dX6_next_17 (lv_at hl 4 rfl) ?_
    obtain ⟨r6, x5, e7, hf⟩ := bd_some hf
    refine gVi (As := [.int a3, .int a4]) (rest := []) (k := 59) hC hP hS (kX0_has l D cy tX tY ad A hC.2.2.2.2.2.2.2.2.1 F x1 a3 a4 e7) glX6_93 ⟨rfl, rfl⟩ hdX0_has ⟨Nat.le_of_ble_eq_true rfl, Nat.le_of_ble_eq_true rfl⟩ (by decide) (eX_59 cy ad _ _) rfl rfl hl.1 rfl (Nat.le_of_ble_eq_true rfl) dX6_next_19 ⟨Nat.zero_le _, Nat.zero_le _⟩ (fun H locs hP hS => ?_)
    refine lv_if_eq (tgt := 36) hx hb dX6_next_22 (by decide) (fun c8 => ?_) (fun c8 => ?_)
    · have hf := it_t c8 hf
      exact tX6_next_36 hC F x5 hf H locs ls hP hS (lv_sub hl [0] rfl)
    · have hf := it_f c8 hf
      refine lv_iload_n hx hb dX6_next_25 rfl (lv_at hl 1 rfl) ?_
      refine lv_iload_n hx hb dX6_next_26 rfl (lv_at hl 3 rfl) ?_
      refine lv_icmp_ne (tgt := 43) hx hb dX6_next_27 (by decide) (fun c9 => ?_) (fun c9 => ?_)
      · have hf := it_f c9 hf
        exact tX6_next_43 hC F x5 a1 a2 a3 a4 hf H locs ls hP hS (lv_sub hl [0, 1, 2, 3, 4] rfl)
      · have hf := it_t c9 hf
        refine lv_iload_n hx hb dX6_next_30 rfl (lv_at hl 2 rfl) ?_
        refine lv_iload hx hb dX6_next_31 (lv_at hl 4 rfl) ?_
        refine lv_icmp_ne (tgt := 43) hx hb dX6_next_33 (by decide) (fun c10 => ?_) (fun c10 => ?_)
        · have hf := it_f c10 hf
          exact tX6_next_43 hC F x5 a1 a2 a3 a4 hf H locs ls hP hS (lv_sub hl [0, 1, 2, 3, 4] rfl)
        · have hf := it_t c10 hf
          exact tX6_next_36 hC F x5 hf H locs ls hP hS (lv_sub hl [0] rfl)
set_option maxHeartbeats 4000000 in
set_option maxRecDepth 100000 in
theorem tX0_distance_34 (hC : Cf p s m args meth c cX0_distance 5 RX0 (some .int) D cy tX tY ad A 93) (F : Nat) {z : Int32 × HT} : ∀ (x : HT) (a4 : Int32), fX0_distance_34 F x a4 = some z → Wd p l e { frames := 1, cells := 0, slots := 0, locals := 27 } s m args below meth c D (eX cy ad) 93 ad A (cQi (eX cy ad) 93 ad D A z) 5 34 [(4, .int a4)] [] x := by
  intro x a4 hf H locs ls hP hS hl
  obtain ⟨hx, hb, -⟩ := id hC
  refine lv_iload hx hb dX0_distance_34 (lv_at hl 0 rfl) ?_
  exact gIret hC hP hS hf dX0_distance_36
set_option maxHeartbeats 4000000 in
set_option maxRecDepth 100000 in
theorem tX0_distance_5b (hC : Cf p s m args meth c cX0_distance 5 RX0 (some .int) D cy tX tY ad A 93) (F : Nat) {z : Int32 × HT} (rec5 : HT → Int32 → Int32 → Int32 → Option (Int32 × HT)) (hrec5 : ∀ (x : HT) (a2 : Int32) (a3 : Int32) (a4 : Int32), rec5 x a2 a3 a4 = some z → Wd p l e { frames := 1, cells := 0, slots := 0, locals := 27 } s m args below meth c D (eX cy ad) 93 ad A (cQi (eX cy ad) 93 ad D A z) 5 5 [(0, .ref (ad 59)), (2, .int a2), (3, .int a3), (4, .int a4)] [] x) : ∀ (x : HT) (a2 : Int32) (a3 : Int32) (a4 : Int32), fX0_distance_5b F rec5 x a2 a3 a4 = some z → Wd p l e { frames := 1, cells := 0, slots := 0, locals := 27 } s m args below meth c D (eX cy ad) 93 ad A (cQi (eX cy ad) 93 ad D A z) 5 5 [(0, .ref (ad 59)), (2, .int a2), (3, .int a3), (4, .int a4)] [] x := by
  intro x a2 a3 a4 hf H locs ls hP hS hl
  obtain ⟨hx, hb, -⟩ := id hC
  refine lv_iload_n hx hb dX0_distance_5 rfl (lv_at hl 2 rfl) ?_
  refine lv_iload_n hx hb dX0_distance_6 rfl (lv_at hl 1 rfl) ?_
  refine lv_icmp_eq (tgt := 34) hx hb dX0_distance_7 (by decide) (fun c1 => ?_) (fun c1 => ?_)
  · have hf := it_t c1 hf
    exact tX0_distance_34 hC F x a4 hf H locs ls hP hS (lv_sub hl [3] rfl)
  · have hf := it_f c1 hf
    refine lv_iload hx hb dX0_distance_10 (lv_at hl 3 rfl) ?_
    refine lv_bipush (v := 36) hx hb dX0_distance_12 (by decide) ?_
    refine lv_icmp_ge (tgt := 34) hx hb dX0_distance_14 (by decide) (fun c2 => ?_) (fun c2 => ?_)
    · have hf := it_t c2 hf
      exact tX0_distance_34 hC F x a4 hf H locs ls hP hS (lv_sub hl [3] rfl)
    · have hf := it_f c2 hf
      refine lv_aload_n hx hb dX0_distance_17 rfl (lv_at hl 0 rfl) ?_
      refine lv_aload_n hx hb dX0_distance_18 rfl (lv_at hl 0 rfl) ?_
      refine lv_iload_n hx hb dX0_distance_19 rfl (lv_at hl 2 rfl) ?_
      refine lv_iload_n hx hb dX0_distance_20 rfl (lv_at hl 1 rfl) ?_
      obtain ⟨r4, x3, e5, hf⟩ := bd_some hf
      refine gVi (As := [.int a3, .int a2]) (rest := [.ref (ad 59)]) (k := 59) hC hP hS (kX0_channelTowards l D cy tX tY ad A hC.2.2.2.2.2.2.2.2.1 F x a3 a2 e5) glX0_54 ⟨rfl, rfl⟩ hdX0_channelTowards ⟨Nat.le_of_ble_eq_true rfl, Nat.le_of_ble_eq_true rfl⟩ (by decide) (eX_59 cy ad _ _) rfl rfl hl.1 rfl (Nat.le_of_ble_eq_true rfl) dX0_distance_21 ⟨Nat.zero_le _, Nat.zero_le _⟩ (fun H locs hP hS => ?_)
      obtain ⟨r7, x6, e8, hf⟩ := bd_some hf
      refine gVi (As := [.int r4]) (rest := []) (k := 59) hC hP hS (kX0_endOf l D cy tX tY ad A hC.2.2.2.2.2.2.2.2.1 F x3 r4 e8) glX0_57 ⟨rfl, rfl⟩ hdX0_endOf ⟨Nat.le_of_ble_eq_true rfl, Nat.le_of_ble_eq_true rfl⟩ (by decide) (eX_59 cy ad _ _) rfl rfl hl.1 rfl (Nat.le_of_ble_eq_true rfl) dX0_distance_24 ⟨Nat.zero_le _, Nat.zero_le _⟩ (fun H locs hP hS => ?_)
      refine lv_istore_n (lv' := [(3, .int r7), (0, .ref (ad 59)), (2, .int a2), (4, .int a4)]) hx hb dX0_distance_27 rfl hl (by decide) rfl (fun ls hl => ?_)
      obtain ⟨b9, e10, hf⟩ := lt_some hf
      refine lv_iinc (v := b9) (lv' := [(4, .int b9), (3, .int r7), (0, .ref (ad 59)), (2, .int a2)]) hx hb dX0_distance_28 hl (k := 3) rfl (by rw [e10]; rfl) (by decide) rfl (fun ls hl => ?_)
      refine lv_goto (tgt := 5) hx hb dX0_distance_31 (by decide) ?_
      exact hrec5 x6 a2 r7 b9 hf H locs ls hP hS (lv_sub hl [2, 3, 1, 0] rfl)
theorem tX0_distance_5 (hC : Cf p s m args meth c cX0_distance 5 RX0 (some .int) D cy tX tY ad A 93) (F : Nat) {z : Int32 × HT} : ∀ (n9 : Nat) (x : HT) (a2 : Int32) (a3 : Int32) (a4 : Int32), fX0_distance_5 F n9 x a2 a3 a4 = some z → Wd p l e { frames := 1, cells := 0, slots := 0, locals := 27 } s m args below meth c D (eX cy ad) 93 ad A (cQi (eX cy ad) 93 ad D A z) 5 5 [(0, .ref (ad 59)), (2, .int a2), (3, .int a3), (4, .int a4)] [] x := by
  intro n9
  induction n9 with
  | zero => intro x a2 a3 a4 hf; cases hf
  | succ n9 ih => intro x a2 a3 a4 hf; exact tX0_distance_5b hC F (fX0_distance_5 F n9) ih x a2 a3 a4 hf
set_option maxHeartbeats 4000000 in
set_option maxRecDepth 100000 in
theorem kX0_distance (l : Launch) (D : va_G) (cy : Nat → ClassId) (tX tY : Nat) (ad : Nat → Nat) (A : Nat → Prop) (hA : apart ad A 93) (F : Nat) (x : HT) (a1 : Int32) (a2 : Int32) {z : Int32 × HT} (hf : fX0_distance F x a1 a2 = some z) : Met l yX0_distance (Cond.code yX0_distance cX0_distance 5 (some .int) :: wAll) { frames := 1, cells := 0, slots := 0, locals := 27 } (cPc (eX cy ad) 93 ad D cy tX tY A [.ref (ad 59), .int a1, .int a2] x) (cQi (eX cy ad) 93 ad D A z) 0 0 A := by
  refine gMet hA (by decide) (Nat.le_of_ble_eq_true rfl) (fun p e s m below meth c hC H locs ls hP hS hl => ?_)
  have hC : Cf p s m _ meth c cX0_distance 5 RX0 (some .int) D cy tX tY ad A 93 := hC
  have hl : lv_has ls 5 [(0, .ref (ad 59)), (1, .int a1), (2, .int a2)] := hl
  obtain ⟨hx, hb, -⟩ := id hC
  refine lv_iload_n hx hb dX0_distance_0 rfl (lv_at hl 1 rfl) ?_
  refine lv_istore_n (lv' := [(3, .int a1), (0, .ref (ad 59)), (1, .int a1), (2, .int a2)]) hx hb dX0_distance_1 rfl hl (by decide) rfl (fun ls hl => ?_)
  refine lv_iconst (v := 0) hx hb dX0_distance_2 (by decide) ?_
  refine lv_istore (lv' := [(4, .int (0 : Int32)), (3, .int a1), (0, .ref (ad 59)), (1, .int a1), (2, .int a2)]) hx hb dX0_distance_3 hl (by decide) rfl (fun ls hl => ?_)
  exact tX0_distance_5 hC F F x a2 a1 (0 : Int32) hf H locs ls hP hS (lv_sub hl [2, 4, 1, 0] rfl)
set_option maxHeartbeats 4000000 in
set_option maxRecDepth 100000 in
theorem tX6_far_25 (hC : Cf p s m args meth c cX6_far 5 RX6 (some .int) D cy tX tY ad A 93) (F : Nat) {z : Int32 × HT} : ∀ (x : HT), fX6_far_25 F x = some z → Wd p l e { frames := 2, cells := 0, slots := 0, locals := 51 } s m args below meth c D (eX cy ad) 93 ad A (cQi (eX cy ad) 93 ad D A z) 5 25 [(0, .ref (ad 0))] [] x := by
  intro x hf H locs ls hP hS hl
  obtain ⟨hx, hb, -⟩ := id hC
  refine lv_aload_n hx hb dX6_far_25 rfl (lv_at hl 0 rfl) ?_
  refine lv_bipush (v := -2) hx hb dX6_far_26 (by decide) ?_
  obtain ⟨r19, x18, e20, hf⟩ := bd_some hf
  refine gVi (As := [.int (-2 : Int32)]) (rest := []) (k := 0) hC hP hS (kX6_refuse l D cy tX tY ad A hC.2.2.2.2.2.2.2.2.1 F x (-2 : Int32) e20) glX6_100 ⟨rfl, rfl⟩ hdX6_refuse ⟨Nat.le_of_ble_eq_true rfl, Nat.le_of_ble_eq_true rfl⟩ (by decide) (eX_0 cy ad _ _) rfl rfl hl.1 rfl (Nat.le_of_ble_eq_true rfl) dX6_far_28 ⟨Nat.zero_le _, Nat.zero_le _⟩ (fun H locs hP hS => ?_)
  exact gIret hC hP hS hf dX6_far_31
set_option maxHeartbeats 4000000 in
set_option maxRecDepth 100000 in
theorem kX6_far (l : Launch) (D : va_G) (cy : Nat → ClassId) (tX tY : Nat) (ad : Nat → Nat) (A : Nat → Prop) (hA : apart ad A 93) (F : Nat) (x : HT) (a1 : Int32) (a2 : Int32) (a3 : Int32) (a4 : Int32) {z : Int32 × HT} (hf : fX6_far F x a1 a2 a3 a4 = some z) : Met l yX6_far (Cond.code yX6_far cX6_far 5 (some .int) :: wAll) { frames := 2, cells := 0, slots := 0, locals := 51 } (cPc (eX cy ad) 93 ad D cy tX tY A [.ref (ad 0), .int a1, .int a2, .int a3, .int a4] x) (cQi (eX cy ad) 93 ad D A z) 0 0 A := by
  refine gMet hA (by decide) (Nat.le_of_ble_eq_true rfl) (fun p e s m below meth c hC H locs ls hP hS hl => ?_)
  have hC : Cf p s m _ meth c cX6_far 5 RX6 (some .int) D cy tX tY ad A 93 := hC
  have hl : lv_has ls 5 [(0, .ref (ad 0)), (1, .int a1), (2, .int a2), (3, .int a3), (4, .int a4)] := hl
  obtain ⟨hx, hb, -⟩ := id hC
  refine lv_aload_n hx hb dX6_far_0 rfl (lv_at hl 0 rfl) ?_
  refine gfX6_32 hC hP dX6_far_1 ?_
  refine lv_iload_n hx hb dX6_far_4 rfl (lv_at hl 1 rfl) ?_
  refine lv_iload_n hx hb dX6_far_5 rfl (lv_at hl 2 rfl) ?_
  obtain ⟨r2, x1, e3, hf⟩ := bd_some hf
  refine gVi (As := [.int a1, .int a2]) (rest := []) (k := 59) hC hP hS (kX0_has l D cy tX tY ad A hC.2.2.2.2.2.2.2.2.1 F x a1 a2 e3) glX6_93 ⟨rfl, rfl⟩ hdX0_has ⟨Nat.le_of_ble_eq_true rfl, Nat.le_of_ble_eq_true rfl⟩ (by decide) (eX_59 cy ad _ _) rfl rfl hl.1 rfl (Nat.le_of_ble_eq_true rfl) dX6_far_6 ⟨Nat.zero_le _, Nat.zero_le _⟩ (fun H locs hP hS => ?_)
  refine lv_if_eq (tgt := 25) hx hb dX6_far_9 (by decide) (fun c4 => ?_) (fun c4 => ?_)
  · have hf := it_t c4 hf
    exact tX6_far_25 hC F x1 hf H locs ls hP hS (lv_sub hl [0] rfl)
  · have hf := it_f c4 hf
    refine lv_aload_n hx hb dX6_far_12 rfl (lv_at hl 0 rfl) ?_
    refine gfX6_32 hC hP dX6_far_13 ?_
    refine lv_iload_n hx hb dX6_far_16 rfl (lv_at hl 3 rfl) ?_
    refine lv_iload hx hb dX6_far_17 (lv_at hl 4 rfl) ?_
    obtain ⟨r6, x5, e7, hf⟩ := bd_some hf
    refine gVi (As := [.int a3, .int a4]) (rest := []) (k := 59) hC hP hS (kX0_has l D cy tX tY ad A hC.2.2.2.2.2.2.2.2.1 F x1 a3 a4 e7) glX6_93 ⟨rfl, rfl⟩ hdX0_has ⟨Nat.le_of_ble_eq_true rfl, Nat.le_of_ble_eq_true rfl⟩ (by decide) (eX_59 cy ad _ _) rfl rfl hl.1 rfl (Nat.le_of_ble_eq_true rfl) dX6_far_19 ⟨Nat.zero_le _, Nat.zero_le _⟩ (fun H locs hP hS => ?_)
    refine lv_if_ne (tgt := 32) hx hb dX6_far_22 (by decide) (fun c8 => ?_) (fun c8 => ?_)
    · have hf := it_f c8 hf
      refine lv_aload_n hx hb dX6_far_32 rfl (lv_at hl 0 rfl) ?_
      refine gfX6_32 hC hP dX6_far_33 ?_
      refine lv_aload_n hx hb dX6_far_36 rfl (lv_at hl 0 rfl) ?_
      refine gfX6_32 hC hP dX6_far_37 ?_
      refine lv_iload_n hx hb dX6_far_40 rfl (lv_at hl 1 rfl) ?_
      refine lv_iload_n hx hb dX6_far_41 rfl (lv_at hl 2 rfl) ?_
      obtain ⟨r10, x9, e11, hf⟩ := bd_some hf
      refine gVi (As := [.int a1, .int a2]) (rest := [.ref (ad 59)]) (k := 59) hC hP hS (kX0_labelAt l D cy tX tY ad A hC.2.2.2.2.2.2.2.2.1 F x5 a1 a2 e11) glX6_97 ⟨rfl, rfl⟩ hdX0_labelAt ⟨Nat.le_of_ble_eq_true rfl, Nat.le_of_ble_eq_true rfl⟩ (by decide) (eX_59 cy ad _ _) rfl rfl hl.1 rfl (Nat.le_of_ble_eq_true rfl) dX6_far_42 ⟨Nat.zero_le _, Nat.zero_le _⟩ (fun H locs hP hS => ?_)
      refine lv_aload_n hx hb dX6_far_45 rfl (lv_at hl 0 rfl) ?_
      refine gfX6_32 hC hP dX6_far_46 ?_
      refine lv_iload_n hx hb dX6_far_49 rfl (lv_at hl 3 rfl) ?_
      refine lv_iload hx hb dX6_far_50 (lv_at hl 4 rfl) ?_
      obtain ⟨r13, x12, e14, hf⟩ := bd_some hf
      refine gVi (As := [.int a3, .int a4]) (rest := [.int r10, .ref (ad 59)]) (k := 59) hC hP hS (kX0_labelAt l D cy tX tY ad A hC.2.2.2.2.2.2.2.2.1 F x9 a3 a4 e14) glX6_97 ⟨rfl, rfl⟩ hdX0_labelAt ⟨Nat.le_of_ble_eq_true rfl, Nat.le_of_ble_eq_true rfl⟩ (by decide) (eX_59 cy ad _ _) rfl rfl hl.1 rfl (Nat.le_of_ble_eq_true rfl) dX6_far_52 ⟨Nat.zero_le _, Nat.zero_le _⟩ (fun H locs hP hS => ?_)
      obtain ⟨r16, x15, e17, hf⟩ := bd_some hf
      refine gVi (As := [.int r10, .int r13]) (rest := []) (k := 59) hC hP hS (kX0_distance l D cy tX tY ad A hC.2.2.2.2.2.2.2.2.1 F x12 r10 r13 e17) glX6_116 ⟨rfl, rfl⟩ hdX0_distance ⟨Nat.le_of_ble_eq_true rfl, Nat.le_of_ble_eq_true rfl⟩ (by decide) (eX_59 cy ad _ _) rfl rfl hl.1 rfl (Nat.le_of_ble_eq_true rfl) dX6_far_55 ⟨Nat.zero_le _, Nat.zero_le _⟩ (fun H locs hP hS => ?_)
      exact gIret hC hP hS hf dX6_far_58
    · have hf := it_t c8 hf
      exact tX6_far_25 hC F x5 hf H locs ls hP hS (lv_sub hl [0] rfl)
set_option maxHeartbeats 4000000 in
set_option maxRecDepth 100000 in
theorem tX5_holderOf_18b (hC : Cf p s m args meth c cX5_holderOf 5 RX5 (some .int) D cy tX tY ad A 93) (F : Nat) {z : Int32 × HT} {j : Nat} (hj : j < 8) (rec2 : HT → Int32 → Int32 → Option (Int32 × HT)) (hrec2 : ∀ (x : HT) (a2 : Int32) (a3 : Int32), rec2 x a2 a3 = some z → Wd p l e { frames := 2, cells := 0, slots := 0, locals := 43 } s m args below meth c D (eX cy ad) 93 ad A (cQi (eX cy ad) 93 ad D A z) 5 2 [(0, .ref (ad 63)), (1, .ref (ad (7 * j + 1))), (2, .int a2), (3, .int a3)] [] x) (rec18 : HT → Int32 → Int32 → Int32 → Option (Int32 × HT)) (hrec18 : ∀ (x : HT) (a2 : Int32) (a3 : Int32) (a4 : Int32), rec18 x a2 a3 a4 = some z → Wd p l e { frames := 2, cells := 0, slots := 0, locals := 43 } s m args below meth c D (eX cy ad) 93 ad A (cQi (eX cy ad) 93 ad D A z) 5 18 [(0, .ref (ad 63)), (1, .ref (ad (7 * j + 1))), (2, .int a2), (3, .int a3), (4, .int a4)] [] x) : ∀ (x : HT) (a2 : Int32) (a3 : Int32) (a4 : Int32), fX5_holderOf_18b F rec2 rec18 j x a2 a3 a4 = some z → Wd p l e { frames := 2, cells := 0, slots := 0, locals := 43 } s m args below meth c D (eX cy ad) 93 ad A (cQi (eX cy ad) 93 ad D A z) 5 18 [(0, .ref (ad 63)), (1, .ref (ad (7 * j + 1))), (2, .int a2), (3, .int a3), (4, .int a4)] [] x := by
  intro x a2 a3 a4 hf H locs ls hP hS hl
  obtain ⟨hx, hb, -⟩ := id hC
  refine lv_iload hx hb dX5_holderOf_18 (lv_at hl 4 rfl) ?_
  refine lv_aload_n hx hb dX5_holderOf_20 rfl (lv_at hl 0 rfl) ?_
  refine lv_aload_n hx hb dX5_holderOf_21 rfl (lv_at hl 1 rfl) ?_
  refine lv_iload_n hx hb dX5_holderOf_22 rfl (lv_at hl 3 rfl) ?_
  obtain ⟨r9, x8, e10, hf⟩ := bd_some hf
  refine gVi (As := [.ref (ad (7 * j + 1)), .int a3]) (rest := [.int a4]) (k := 63) hC hP hS (kX5_headOf l D cy tX tY ad A hC.2.2.2.2.2.2.2.2.1 F (j := j) hj x a3 e10) glX5_64 ⟨rfl, rfl⟩ hdX5_headOf ⟨Nat.le_of_ble_eq_true rfl, Nat.le_of_ble_eq_true rfl⟩ (by decide) (eX_63 cy ad _ _) rfl rfl hl.1 rfl (Nat.le_of_ble_eq_true rfl) dX5_holderOf_23 ⟨Nat.zero_le _, Nat.zero_le _⟩ (fun H locs hP hS => ?_)
  refine lv_icmp_ge (tgt := 50) hx hb dX5_holderOf_26 (by decide) (fun c11 => ?_) (fun c11 => ?_)
  · have hf := it_t c11 hf
    obtain ⟨b12, e13, hf⟩ := lt_some hf
    refine lv_iinc (v := b12) (lv' := [(3, .int b12), (0, .ref (ad 63)), (1, .ref (ad (7 * j + 1))), (2, .int a2), (4, .int a4)]) hx hb dX5_holderOf_50 hl (k := 3) rfl (by rw [e13]; rfl) (by decide) rfl (fun ls hl => ?_)
    refine lv_goto (tgt := 2) hx hb dX5_holderOf_53 (by decide) ?_
    exact hrec2 x8 a2 b12 hf H locs ls hP hS (lv_sub hl [1, 2, 3, 0] rfl)
  · have hf := it_f c11 hf
    refine lv_aload_n hx hb dX5_holderOf_29 rfl (lv_at hl 0 rfl) ?_
    refine gfX5_20 hC hP dX5_holderOf_30 ?_
    refine lv_iload_n hx hb dX5_holderOf_33 rfl (lv_at hl 3 rfl) ?_
    obtain ⟨h14, hf⟩ := ck_some hf
    refine gRow hC hP 66 77 (by decide) (eX_66 cy ad _ _) h14 dX5_holderOf_34 ?_
    have hw15 := inb_lt h14
    refine lv_iload hx hb dX5_holderOf_35 (lv_at hl 4 rfl) ?_
    obtain ⟨h16, hf⟩ := ck_some hf
    refine gIal hC hP (77 + a3.toNatClampNeg) (by omega) (eX_Q hw15 cy ad _ _) h16 dX5_holderOf_37 ?_
    refine lv_iload_n hx hb dX5_holderOf_38 rfl (lv_at hl 2 rfl) ?_
    refine lv_icmp_ne (tgt := 44) hx hb dX5_holderOf_39 (by decide) (fun c17 => ?_) (fun c17 => ?_)
    · have hf := it_f c17 hf
      obtain ⟨b18, e19, hf⟩ := lt_some hf
      refine lv_iinc (v := b18) (lv' := [(4, .int b18), (0, .ref (ad 63)), (1, .ref (ad (7 * j + 1))), (2, .int a2), (3, .int a3)]) hx hb dX5_holderOf_44 hl (k := 4) rfl (by rw [e19]; rfl) (by decide) rfl (fun ls hl => ?_)
      refine lv_goto (tgt := 18) hx hb dX5_holderOf_47 (by decide) ?_
      exact hrec18 x8 a2 a3 b18 hf H locs ls hP hS (lv_sub hl [1, 2, 3, 4, 0] rfl)
    · have hf := it_t c17 hf
      refine lv_iload_n hx hb dX5_holderOf_42 rfl (lv_at hl 3 rfl) ?_
      exact gIret hC hP hS hf dX5_holderOf_43
theorem tX5_holderOf_18 (hC : Cf p s m args meth c cX5_holderOf 5 RX5 (some .int) D cy tX tY ad A 93) (F : Nat) {z : Int32 × HT} {j : Nat} (hj : j < 8) (rec2 : HT → Int32 → Int32 → Option (Int32 × HT)) (hrec2 : ∀ (x : HT) (a2 : Int32) (a3 : Int32), rec2 x a2 a3 = some z → Wd p l e { frames := 2, cells := 0, slots := 0, locals := 43 } s m args below meth c D (eX cy ad) 93 ad A (cQi (eX cy ad) 93 ad D A z) 5 2 [(0, .ref (ad 63)), (1, .ref (ad (7 * j + 1))), (2, .int a2), (3, .int a3)] [] x) : ∀ (n9 : Nat) (x : HT) (a2 : Int32) (a3 : Int32) (a4 : Int32), fX5_holderOf_18 F rec2 j n9 x a2 a3 a4 = some z → Wd p l e { frames := 2, cells := 0, slots := 0, locals := 43 } s m args below meth c D (eX cy ad) 93 ad A (cQi (eX cy ad) 93 ad D A z) 5 18 [(0, .ref (ad 63)), (1, .ref (ad (7 * j + 1))), (2, .int a2), (3, .int a3), (4, .int a4)] [] x := by
  intro n9
  induction n9 with
  | zero => intro x a2 a3 a4 hf; cases hf
  | succ n9 ih => intro x a2 a3 a4 hf; exact tX5_holderOf_18b hC F hj rec2 hrec2 (fX5_holderOf_18 F rec2 j n9) ih x a2 a3 a4 hf
set_option maxHeartbeats 4000000 in
set_option maxRecDepth 100000 in
theorem tX5_holderOf_2b (hC : Cf p s m args meth c cX5_holderOf 5 RX5 (some .int) D cy tX tY ad A 93) (F : Nat) {z : Int32 × HT} {j : Nat} (hj : j < 8) (rec2 : HT → Int32 → Int32 → Option (Int32 × HT)) (hrec2 : ∀ (x : HT) (a2 : Int32) (a3 : Int32), rec2 x a2 a3 = some z → Wd p l e { frames := 2, cells := 0, slots := 0, locals := 43 } s m args below meth c D (eX cy ad) 93 ad A (cQi (eX cy ad) 93 ad D A z) 5 2 [(0, .ref (ad 63)), (1, .ref (ad (7 * j + 1))), (2, .int a2), (3, .int a3)] [] x) : ∀ (x : HT) (a2 : Int32) (a3 : Int32), fX5_holderOf_2b F rec2 j x a2 a3 = some z → Wd p l e { frames := 2, cells := 0, slots := 0, locals := 43 } s m args below meth c D (eX cy ad) 93 ad A (cQi (eX cy ad) 93 ad D A z) 5 2 [(0, .ref (ad 63)), (1, .ref (ad (7 * j + 1))), (2, .int a2), (3, .int a3)] [] x := by
  intro x a2 a3 hf H locs ls hP hS hl
  obtain ⟨hx, hb, -⟩ := id hC
  refine lv_iload_n hx hb dX5_holderOf_2 rfl (lv_at hl 3 rfl) ?_
  refine lv_aload_n hx hb dX5_holderOf_3 rfl (lv_at hl 1 rfl) ?_
  obtain ⟨r2, x1, e3, hf⟩ := bd_some hf
  refine gVi (As := []) (rest := [.int a3]) (k := (7 * j + 1)) hC hP hS (kX2_worms l D cy tX tY ad A hC.2.2.2.2.2.2.2.2.1 F (j := j) hj x e3) glX5_71 ⟨rfl, rfl⟩ hdX2_worms ⟨Nat.le_of_ble_eq_true rfl, Nat.le_of_ble_eq_true rfl⟩ (by omega) (eX_S hj cy ad _ _) rfl rfl hl.1 rfl (Nat.le_of_ble_eq_true rfl) dX5_holderOf_4 ⟨Nat.zero_le _, Nat.zero_le _⟩ (fun H locs hP hS => ?_)
  refine lv_icmp_ge (tgt := 56) hx hb dX5_holderOf_7 (by decide) (fun c4 => ?_) (fun c4 => ?_)
  · have hf := it_t c4 hf
    refine lv_iconst (v := -1) hx hb dX5_holderOf_56 (by decide) ?_
    exact gIret hC hP hS hf dX5_holderOf_57
  · have hf := it_f c4 hf
    refine lv_aload_n hx hb dX5_holderOf_10 rfl (lv_at hl 0 rfl) ?_
    refine lv_aload_n hx hb dX5_holderOf_11 rfl (lv_at hl 1 rfl) ?_
    refine lv_iload_n hx hb dX5_holderOf_12 rfl (lv_at hl 3 rfl) ?_
    obtain ⟨r6, x5, e7, hf⟩ := bd_some hf
    refine gVi (As := [.ref (ad (7 * j + 1)), .int a3]) (rest := []) (k := 63) hC hP hS (kX5_tailOf l D cy tX tY ad A hC.2.2.2.2.2.2.2.2.1 F (j := j) hj x1 a3 e7) glX5_79 ⟨rfl, rfl⟩ hdX5_tailOf ⟨Nat.le_of_ble_eq_true rfl, Nat.le_of_ble_eq_true rfl⟩ (by decide) (eX_63 cy ad _ _) rfl rfl hl.1 rfl (Nat.le_of_ble_eq_true rfl) dX5_holderOf_13 ⟨Nat.zero_le _, Nat.zero_le _⟩ (fun H locs hP hS => ?_)
    refine lv_istore (lv' := [(4, .int r6), (0, .ref (ad 63)), (1, .ref (ad (7 * j + 1))), (2, .int a2), (3, .int a3)]) hx hb dX5_holderOf_16 hl (by decide) rfl (fun ls hl => ?_)
    exact tX5_holderOf_18 hC F hj rec2 hrec2 F x5 a2 a3 r6 hf H locs ls hP hS (lv_sub hl [1, 2, 3, 4, 0] rfl)
theorem tX5_holderOf_2 (hC : Cf p s m args meth c cX5_holderOf 5 RX5 (some .int) D cy tX tY ad A 93) (F : Nat) {z : Int32 × HT} {j : Nat} (hj : j < 8) : ∀ (n9 : Nat) (x : HT) (a2 : Int32) (a3 : Int32), fX5_holderOf_2 F j n9 x a2 a3 = some z → Wd p l e { frames := 2, cells := 0, slots := 0, locals := 43 } s m args below meth c D (eX cy ad) 93 ad A (cQi (eX cy ad) 93 ad D A z) 5 2 [(0, .ref (ad 63)), (1, .ref (ad (7 * j + 1))), (2, .int a2), (3, .int a3)] [] x := by
  intro n9
  induction n9 with
  | zero => intro x a2 a3 hf; cases hf
  | succ n9 ih => intro x a2 a3 hf; exact tX5_holderOf_2b hC F hj (fX5_holderOf_2 F j n9) ih x a2 a3 hf
set_option maxHeartbeats 4000000 in
set_option maxRecDepth 100000 in
theorem kX5_holderOf (l : Launch) (D : va_G) (cy : Nat → ClassId) (tX tY : Nat) (ad : Nat → Nat) (A : Nat → Prop) (hA : apart ad A 93) (F : Nat) {j : Nat} (hj : j < 8) (x : HT) (a2 : Int32) {z : Int32 × HT} (hf : fX5_holderOf F j x a2 = some z) : Met l yX5_holderOf (Cond.code yX5_holderOf cX5_holderOf 5 (some .int) :: wAll) { frames := 2, cells := 0, slots := 0, locals := 43 } (cPc (eX cy ad) 93 ad D cy tX tY A [.ref (ad 63), .ref (ad (7 * j + 1)), .int a2] x) (cQi (eX cy ad) 93 ad D A z) 0 0 A := by
  refine gMet hA (by decide) (Nat.le_of_ble_eq_true rfl) (fun p e s m below meth c hC H locs ls hP hS hl => ?_)
  have hC : Cf p s m _ meth c cX5_holderOf 5 RX5 (some .int) D cy tX tY ad A 93 := hC
  have hl : lv_has ls 5 [(0, .ref (ad 63)), (1, .ref (ad (7 * j + 1))), (2, .int a2)] := hl
  obtain ⟨hx, hb, -⟩ := id hC
  refine lv_iconst (v := 0) hx hb dX5_holderOf_0 (by decide) ?_
  refine lv_istore_n (lv' := [(3, .int (0 : Int32)), (0, .ref (ad 63)), (1, .ref (ad (7 * j + 1))), (2, .int a2)]) hx hb dX5_holderOf_1 rfl hl (by decide) rfl (fun ls hl => ?_)
  exact tX5_holderOf_2 hC F hj F x a2 (0 : Int32) hf H locs ls hP hS (lv_sub hl [1, 2, 3, 0] rfl)
set_option maxHeartbeats 4000000 in
set_option maxRecDepth 100000 in
theorem kX6_holds (l : Launch) (D : va_G) (cy : Nat → ClassId) (tX tY : Nat) (ad : Nat → Nat) (A : Nat → Prop) (hA : apart ad A 93) (F : Nat) (x : HT) (a1 : Int32) (a2 : Int32) (a3 : Int32) {z : Int32 × HT} (hf : fX6_holds F x a1 a2 a3 = some z) : Met l yX6_holds (Cond.code yX6_holds cX6_holds 5 (some .int) :: wAll) { frames := 3, cells := 0, slots := 0, locals := 67 } (cPc (eX cy ad) 93 ad D cy tX tY A [.ref (ad 0), .int a1, .int a2, .int a3] x) (cQi (eX cy ad) 93 ad D A z) 0 0 A := by
  refine gMet hA (by decide) (Nat.le_of_ble_eq_true rfl) (fun p e s m below meth c hC H locs ls hP hS hl => ?_)
  have hC : Cf p s m _ meth c cX6_holds 5 RX6 (some .int) D cy tX tY ad A 93 := hC
  have hl : lv_has ls 5 [(0, .ref (ad 0)), (1, .int a1), (2, .int a2), (3, .int a3)] := hl
  obtain ⟨hx, hb, -⟩ := id hC
  refine lv_aload_n hx hb dX6_holds_0 rfl (lv_at hl 0 rfl) ?_
  refine gfX6_32 hC hP dX6_holds_1 ?_
  refine lv_iload_n hx hb dX6_holds_4 rfl (lv_at hl 1 rfl) ?_
  refine lv_iload_n hx hb dX6_holds_5 rfl (lv_at hl 2 rfl) ?_
  refine lv_iload_n hx hb dX6_holds_6 rfl (lv_at hl 3 rfl) ?_
  obtain ⟨r2, x1, e3, hf⟩ := bd_some hf
  refine gVi (As := [.int a1, .int a2, .int a3]) (rest := []) (k := 59) hC hP hS (kX0_channelAt l D cy tX tY ad A hC.2.2.2.2.2.2.2.2.1 F x a1 a2 a3 e3) glX6_119 ⟨rfl, rfl⟩ hdX0_channelAt ⟨Nat.le_of_ble_eq_true rfl, Nat.le_of_ble_eq_true rfl⟩ (by decide) (eX_59 cy ad _ _) rfl rfl hl.1 rfl (Nat.le_of_ble_eq_true rfl) dX6_holds_7 ⟨Nat.zero_le _, Nat.zero_le _⟩ (fun H locs hP hS => ?_)
  refine lv_istore (lv' := [(4, .int r2), (0, .ref (ad 0)), (1, .int a1), (2, .int a2), (3, .int a3)]) hx hb dX6_holds_10 hl (by decide) rfl (fun ls hl => ?_)
  refine lv_iload hx hb dX6_holds_12 (lv_at hl 0 rfl) ?_
  refine lv_iconst (v := -1) hx hb dX6_holds_14 (by decide) ?_
  refine lv_icmp_ne (tgt := 27) hx hb dX6_holds_15 (by decide) (fun c4 => ?_) (fun c4 => ?_)
  · have hf := it_f c4 hf
    refine lv_aload_n hx hb dX6_holds_27 rfl (lv_at hl 1 rfl) ?_
    refine gfX6_39 hC hP dX6_holds_28 ?_
    refine lv_aload_n hx hb dX6_holds_31 rfl (lv_at hl 1 rfl) ?_
    refine gfX6_12 hC hP dX6_holds_32 ?_
    refine lv_iload hx hb dX6_holds_35 (lv_at hl 0 rfl) ?_
    obtain ⟨r6, x5, e7, hf⟩ := bd_some hf
    refine gVi (As := [.ref (ad (7 * 0 + 1)), .int r2]) (rest := []) (k := 63) hC hP hS (kX5_holderOf l D cy tX tY ad A hC.2.2.2.2.2.2.2.2.1 F (j := 0) (by decide) x1 r2 e7) glX6_122 ⟨rfl, rfl⟩ hdX5_holderOf ⟨Nat.le_of_ble_eq_true rfl, Nat.le_of_ble_eq_true rfl⟩ (by decide) (eX_63 cy ad _ _) rfl rfl hl.1 rfl (Nat.le_of_ble_eq_true rfl) dX6_holds_37 ⟨Nat.zero_le _, Nat.zero_le _⟩ (fun H locs hP hS => ?_)
    exact gIret hC hP hS hf dX6_holds_40
  · have hf := it_t c4 hf
    refine lv_aload_n hx hb dX6_holds_18 rfl (lv_at hl 1 rfl) ?_
    refine lv_bipush (v := -2) hx hb dX6_holds_19 (by decide) ?_
    obtain ⟨r9, x8, e10, hf⟩ := bd_some hf
    refine gVi (As := [.int (-2 : Int32)]) (rest := []) (k := 0) hC hP hS (kX6_refuse l D cy tX tY ad A hC.2.2.2.2.2.2.2.2.1 F x1 (-2 : Int32) e10) glX6_100 ⟨rfl, rfl⟩ hdX6_refuse ⟨Nat.le_of_ble_eq_true rfl, Nat.le_of_ble_eq_true rfl⟩ (by decide) (eX_0 cy ad _ _) rfl rfl hl.1 rfl (Nat.le_of_ble_eq_true rfl) dX6_holds_21 ⟨Nat.zero_le _, Nat.zero_le _⟩ (fun H locs hP hS => ?_)
    refine lv_goto (tgt := 40) hx hb dX6_holds_24 (by decide) ?_
    exact gIret hC hP hS hf dX6_holds_40
set_option maxHeartbeats 4000000 in
set_option maxRecDepth 100000 in
theorem tX6_hasWorm_21 (hC : Cf p s m args meth c cX6_hasWorm 3 RX6 (some .boolean) D cy tX tY ad A 93) (F : Nat) {z : Int32 × HT} : ∀ (x : HT), fX6_hasWorm_21 F x = some z → Wd p l e { frames := 1, cells := 0, slots := 0, locals := 21 } s m args below meth c D (eX cy ad) 93 ad A (cQi (eX cy ad) 93 ad D A z) 3 21 [] [] x := by
  intro x hf H locs ls hP hS hl
  obtain ⟨hx, hb, -⟩ := id hC
  refine lv_iconst (v := 0) hx hb dX6_hasWorm_21 (by decide) ?_
  exact gZret hC hP hS rfl hf dX6_hasWorm_22
set_option maxHeartbeats 4000000 in
set_option maxRecDepth 100000 in
theorem kX6_hasWorm (l : Launch) (D : va_G) (cy : Nat → ClassId) (tX tY : Nat) (ad : Nat → Nat) (A : Nat → Prop) (hA : apart ad A 93) (F : Nat) (x : HT) (a1 : Int32) (a2 : Int32) {z : Int32 × HT} (hf : fX6_hasWorm F x a1 a2 = some z) : Met l yX6_hasWorm (Cond.code yX6_hasWorm cX6_hasWorm 3 (some .boolean) :: wAll) { frames := 1, cells := 0, slots := 0, locals := 21 } (cPc (eX cy ad) 93 ad D cy tX tY A [.ref (ad 0), .int a1, .int a2] x) (cQi (eX cy ad) 93 ad D A z) 0 0 A := by
  refine gMet hA (by decide) (Nat.le_of_ble_eq_true rfl) (fun p e s m below meth c hC H locs ls hP hS hl => ?_)
  have hC : Cf p s m _ meth c cX6_hasWorm 3 RX6 (some .boolean) D cy tX tY ad A 93 := hC
  have hl : lv_has ls 3 [(0, .ref (ad 0)), (1, .int a1), (2, .int a2)] := hl
  obtain ⟨hx, hb, -⟩ := id hC
  refine lv_aload_n hx hb dX6_hasWorm_0 rfl (lv_at hl 0 rfl) ?_
  refine lv_iload_n hx hb dX6_hasWorm_1 rfl (lv_at hl 1 rfl) ?_
  obtain ⟨r2, x1, e3, hf⟩ := bd_some hf
  refine gVi (As := [.int a1]) (rest := []) (k := 0) hC hP hS (kX6_hasMessage l D cy tX tY ad A hC.2.2.2.2.2.2.2.2.1 F x a1 e3) glX6_142 ⟨rfl, rfl⟩ hdX6_hasMessage ⟨Nat.le_of_ble_eq_true rfl, Nat.le_of_ble_eq_true rfl⟩ (by decide) (eX_0 cy ad _ _) rfl rfl hl.1 rfl (Nat.le_of_ble_eq_true rfl) dX6_hasWorm_2 ⟨Nat.zero_le _, Nat.zero_le _⟩ (fun H locs hP hS => ?_)
  refine lv_if_eq (tgt := 21) hx hb dX6_hasWorm_5 (by decide) (fun c4 => ?_) (fun c4 => ?_)
  · have hf := it_t c4 hf
    exact tX6_hasWorm_21 hC F x1 hf H locs ls hP hS (lv_sub hl [] rfl)
  · have hf := it_f c4 hf
    refine lv_iload_n hx hb dX6_hasWorm_8 rfl (lv_at hl 2 rfl) ?_
    refine lv_if_lt (tgt := 21) hx hb dX6_hasWorm_9 (by decide) (fun c5 => ?_) (fun c5 => ?_)
    · have hf := it_t c5 hf
      exact tX6_hasWorm_21 hC F x1 hf H locs ls hP hS (lv_sub hl [] rfl)
    · have hf := it_f c5 hf
      refine lv_iload_n hx hb dX6_hasWorm_12 rfl (lv_at hl 2 rfl) ?_
      refine lv_iconst (v := 2) hx hb dX6_hasWorm_13 (by decide) ?_
      refine lv_icmp_ge (tgt := 21) hx hb dX6_hasWorm_14 (by decide) (fun c6 => ?_) (fun c6 => ?_)
      · have hf := it_t c6 hf
        exact tX6_hasWorm_21 hC F x1 hf H locs ls hP hS (lv_sub hl [] rfl)
      · have hf := it_f c6 hf
        refine lv_iconst (v := 1) hx hb dX6_hasWorm_17 (by decide) ?_
        refine lv_goto (tgt := 22) hx hb dX6_hasWorm_18 (by decide) ?_
        exact gZret hC hP hS rfl hf dX6_hasWorm_22
set_option maxHeartbeats 4000000 in
set_option maxRecDepth 100000 in
theorem kX5_placeOf (l : Launch) (D : va_G) (cy : Nat → ClassId) (tX tY : Nat) (ad : Nat → Nat) (A : Nat → Prop) (hA : apart ad A 93) (F : Nat) (x : HT) (a1 : Int32) (a2 : Int32) {z : Int32 × HT} (hf : fX5_placeOf F x a1 a2 = some z) : Met l yX5_placeOf (Cond.code yX5_placeOf cX5_placeOf 3 (some .int) :: wAll) { frames := 0, cells := 0, slots := 0, locals := 0 } (cPc (eX cy ad) 93 ad D cy tX tY A [.ref (ad 63), .int a1, .int a2] x) (cQi (eX cy ad) 93 ad D A z) 0 0 A := by
  refine gMet hA (by decide) (Nat.le_of_ble_eq_true rfl) (fun p e s m below meth c hC H locs ls hP hS hl => ?_)
  have hC : Cf p s m _ meth c cX5_placeOf 3 RX5 (some .int) D cy tX tY ad A 93 := hC
  have hl : lv_has ls 3 [(0, .ref (ad 63)), (1, .int a1), (2, .int a2)] := hl
  obtain ⟨hx, hb, -⟩ := id hC
  refine lv_aload_n hx hb dX5_placeOf_0 rfl (lv_at hl 0 rfl) ?_
  refine gfX5_17 hC hP dX5_placeOf_1 ?_
  refine lv_iload_n hx hb dX5_placeOf_4 rfl (lv_at hl 1 rfl) ?_
  obtain ⟨h1, hf⟩ := ck_some hf
  refine gRow hC hP 65 67 (by decide) (eX_65 cy ad _ _) h1 dX5_placeOf_5 ?_
  have hw2 := inb_lt h1
  refine lv_iload_n hx hb dX5_placeOf_6 rfl (lv_at hl 2 rfl) ?_
  obtain ⟨h3, hf⟩ := ck_some hf
  refine gIal hC hP (67 + a1.toNatClampNeg) (by omega) (eX_P hw2 cy ad _ _) h3 dX5_placeOf_7 ?_
  exact gIret hC hP hS hf dX5_placeOf_8
set_option maxHeartbeats 4000000 in
set_option maxRecDepth 100000 in
theorem tX5_arrived_44 (hC : Cf p s m args meth c cX5_arrived 7 RX5 (some .int) D cy tX tY ad A 93) (F : Nat) {z : Int32 × HT} {j : Nat} (hj : j < 8) (rec12 : HT → Int32 → Int64 → Int32 → Int32 → Option (Int32 × HT)) (hrec12 : ∀ (x : HT) (a2 : Int32) (a3 : Int64) (a5 : Int32) (a6 : Int32), rec12 x a2 a3 a5 a6 = some z → Wd p l e { frames := 2, cells := 0, slots := 0, locals := 44 } s m args below meth c D (eX cy ad) 93 ad A (cQi (eX cy ad) 93 ad D A z) 7 12 [(0, .ref (ad 63)), (1, .ref (ad (7 * j + 1))), (2, .int a2), (3, .long a3), (5, .int a5), (6, .int a6)] [] x) : ∀ (x : HT) (a2 : Int32) (a3 : Int64) (a5 : Int32) (a6 : Int32), fX5_arrived_44 F rec12 j x a2 a3 a5 a6 = some z → Wd p l e { frames := 2, cells := 0, slots := 0, locals := 44 } s m args below meth c D (eX cy ad) 93 ad A (cQi (eX cy ad) 93 ad D A z) 7 44 [(0, .ref (ad 63)), (1, .ref (ad (7 * j + 1))), (2, .int a2), (3, .long a3), (5, .int a5), (6, .int a6)] [] x := by
  intro x a2 a3 a5 a6 hf H locs ls hP hS hl
  obtain ⟨hx, hb, -⟩ := id hC
  obtain ⟨b14, e15, hf⟩ := lt_some hf
  refine lv_iinc (v := b14) (lv' := [(6, .int b14), (0, .ref (ad 63)), (1, .ref (ad (7 * j + 1))), (2, .int a2), (3, .long a3), (5, .int a5)]) hx hb dX5_arrived_44 hl (k := 5) rfl (by rw [e15]; rfl) (by decide) rfl (fun ls hl => ?_)
  refine lv_goto (tgt := 12) hx hb dX5_arrived_47 (by decide) ?_
  exact hrec12 x a2 a3 a5 b14 hf H locs ls hP hS (lv_sub hl [1, 2, 3, 4, 5, 0] rfl)
set_option maxHeartbeats 4000000 in
set_option maxRecDepth 100000 in
theorem tX5_arrived_12b (hC : Cf p s m args meth c cX5_arrived 7 RX5 (some .int) D cy tX tY ad A 93) (F : Nat) {z : Int32 × HT} {j : Nat} (hj : j < 8) (rec12 : HT → Int32 → Int64 → Int32 → Int32 → Option (Int32 × HT)) (hrec12 : ∀ (x : HT) (a2 : Int32) (a3 : Int64) (a5 : Int32) (a6 : Int32), rec12 x a2 a3 a5 a6 = some z → Wd p l e { frames := 2, cells := 0, slots := 0, locals := 44 } s m args below meth c D (eX cy ad) 93 ad A (cQi (eX cy ad) 93 ad D A z) 7 12 [(0, .ref (ad 63)), (1, .ref (ad (7 * j + 1))), (2, .int a2), (3, .long a3), (5, .int a5), (6, .int a6)] [] x) : ∀ (x : HT) (a2 : Int32) (a3 : Int64) (a5 : Int32) (a6 : Int32), fX5_arrived_12b F rec12 j x a2 a3 a5 a6 = some z → Wd p l e { frames := 2, cells := 0, slots := 0, locals := 44 } s m args below meth c D (eX cy ad) 93 ad A (cQi (eX cy ad) 93 ad D A z) 7 12 [(0, .ref (ad 63)), (1, .ref (ad (7 * j + 1))), (2, .int a2), (3, .long a3), (5, .int a5), (6, .int a6)] [] x := by
  intro x a2 a3 a5 a6 hf H locs ls hP hS hl
  obtain ⟨hx, hb, -⟩ := id hC
  refine lv_iload hx hb dX5_arrived_12 (lv_at hl 5 rfl) ?_
  refine lv_aload_n hx hb dX5_arrived_14 rfl (lv_at hl 0 rfl) ?_
  refine lv_aload_n hx hb dX5_arrived_15 rfl (lv_at hl 1 rfl) ?_
  refine lv_iload_n hx hb dX5_arrived_16 rfl (lv_at hl 2 rfl) ?_
  obtain ⟨r5, x4, e6, hf⟩ := bd_some hf
  refine gVi (As := [.ref (ad (7 * j + 1)), .int a2]) (rest := [.int a6]) (k := 63) hC hP hS (kX5_headOf l D cy tX tY ad A hC.2.2.2.2.2.2.2.2.1 F (j := j) hj x a2 e6) glX5_64 ⟨rfl, rfl⟩ hdX5_headOf ⟨Nat.le_of_ble_eq_true rfl, Nat.le_of_ble_eq_true rfl⟩ (by decide) (eX_63 cy ad _ _) rfl rfl hl.1 rfl (Nat.le_of_ble_eq_true rfl) dX5_arrived_17 ⟨Nat.zero_le _, Nat.zero_le _⟩ (fun H locs hP hS => ?_)
  refine lv_icmp_gt (tgt := 50) hx hb dX5_arrived_20 (by decide) (fun c7 => ?_) (fun c7 => ?_)
  · have hf := it_t c7 hf
    refine lv_iload hx hb dX5_arrived_50 (lv_at hl 4 rfl) ?_
    exact gIret hC hP hS hf dX5_arrived_52
  · have hf := it_f c7 hf
    refine lv_lload_n hx hb dX5_arrived_23 rfl (lv_at hl 3 rfl) ?_
    refine lv_aload_n hx hb dX5_arrived_24 rfl (lv_at hl 0 rfl) ?_
    refine gfX5_17 hC hP dX5_arrived_25 ?_
    refine lv_iload_n hx hb dX5_arrived_28 rfl (lv_at hl 2 rfl) ?_
    obtain ⟨h8, hf⟩ := ck_some hf
    refine gRow hC hP 65 67 (by decide) (eX_65 cy ad _ _) h8 dX5_arrived_29 ?_
    have hw9 := inb_lt h8
    refine lv_iload hx hb dX5_arrived_30 (lv_at hl 5 rfl) ?_
    obtain ⟨h10, hf⟩ := ck_some hf
    refine gIal hC hP (67 + a2.toNatClampNeg) (by omega) (eX_P hw9 cy ad _ _) h10 dX5_arrived_32 ?_
    refine lv_lshr hx hb dX5_arrived_33 rfl ?_
    refine lv_lconst (v := 1) hx hb dX5_arrived_34 (by decide) ?_
    refine lv_land hx hb dX5_arrived_35 ?_
    refine lv_lconst (v := 0) hx hb dX5_arrived_36 (by decide) ?_
    refine W.lcmp hx hb dX5_arrived_37 ?_
    refine lv_if_eq (tgt := 44) hx hb dX5_arrived_38 (by decide) (fun c11 => ?_) (fun c11 => ?_)
    · have hf := it_t c11 hf
      exact tX5_arrived_44 hC F hj rec12 hrec12 x4 a2 a3 a5 a6 hf H locs ls hP hS (lv_sub hl [0, 1, 2, 3, 4, 5] rfl)
    · have hf := it_f c11 hf
      obtain ⟨b12, e13, hf⟩ := lt_some hf
      refine lv_iinc (v := b12) (lv' := [(5, .int b12), (0, .ref (ad 63)), (1, .ref (ad (7 * j + 1))), (2, .int a2), (3, .long a3), (6, .int a6)]) hx hb dX5_arrived_41 hl (k := 4) rfl (by rw [e13]; rfl) (by decide) rfl (fun ls hl => ?_)
      exact tX5_arrived_44 hC F hj rec12 hrec12 x4 a2 a3 b12 a6 hf H locs ls hP hS (lv_sub hl [1, 2, 3, 4, 0, 5] rfl)
theorem tX5_arrived_12 (hC : Cf p s m args meth c cX5_arrived 7 RX5 (some .int) D cy tX tY ad A 93) (F : Nat) {z : Int32 × HT} {j : Nat} (hj : j < 8) : ∀ (n9 : Nat) (x : HT) (a2 : Int32) (a3 : Int64) (a5 : Int32) (a6 : Int32), fX5_arrived_12 F j n9 x a2 a3 a5 a6 = some z → Wd p l e { frames := 2, cells := 0, slots := 0, locals := 44 } s m args below meth c D (eX cy ad) 93 ad A (cQi (eX cy ad) 93 ad D A z) 7 12 [(0, .ref (ad 63)), (1, .ref (ad (7 * j + 1))), (2, .int a2), (3, .long a3), (5, .int a5), (6, .int a6)] [] x := by
  intro n9
  induction n9 with
  | zero => intro x a2 a3 a5 a6 hf; cases hf
  | succ n9 ih => intro x a2 a3 a5 a6 hf; exact tX5_arrived_12b hC F hj (fX5_arrived_12 F j n9) ih x a2 a3 a5 a6 hf
set_option maxHeartbeats 4000000 in
set_option maxRecDepth 100000 in
theorem kX5_arrived (l : Launch) (D : va_G) (cy : Nat → ClassId) (tX tY : Nat) (ad : Nat → Nat) (A : Nat → Prop) (hA : apart ad A 93) (F : Nat) {j : Nat} (hj : j < 8) (x : HT) (a2 : Int32) {z : Int32 × HT} (hf : fX5_arrived F j x a2 = some z) : Met l yX5_arrived (Cond.code yX5_arrived cX5_arrived 7 (some .int) :: wAll) { frames := 2, cells := 0, slots := 0, locals := 44 } (cPc (eX cy ad) 93 ad D cy tX tY A [.ref (ad 63), .ref (ad (7 * j + 1)), .int a2] x) (cQi (eX cy ad) 93 ad D A z) 0 0 A := by
  refine gMet hA (by decide) (Nat.le_of_ble_eq_true rfl) (fun p e s m below meth c hC H locs ls hP hS hl => ?_)
  have hC : Cf p s m _ meth c cX5_arrived 7 RX5 (some .int) D cy tX tY ad A 93 := hC
  have hl : lv_has ls 7 [(0, .ref (ad 63)), (1, .ref (ad (7 * j + 1))), (2, .int a2)] := hl
  obtain ⟨hx, hb, -⟩ := id hC
  refine lv_aload_n hx hb dX5_arrived_0 rfl (lv_at hl 1 rfl) ?_
  refine lv_iload_n hx hb dX5_arrived_1 rfl (lv_at hl 2 rfl) ?_
  obtain ⟨r2, x1, e3, hf⟩ := bd_some hf
  refine gVl (As := [.int a2]) (rest := []) (k := (7 * j + 1)) hC hP hS (kX2_goalsOfWorm l D cy tX tY ad A hC.2.2.2.2.2.2.2.2.1 F (j := j) hj x a2 e3) glX5_23 ⟨rfl, rfl⟩ hdX2_goalsOfWorm ⟨Nat.le_of_ble_eq_true rfl, Nat.le_of_ble_eq_true rfl⟩ (by omega) (eX_S hj cy ad _ _) rfl rfl hl.1 rfl (Nat.le_of_ble_eq_true rfl) dX5_arrived_2 ⟨Nat.zero_le _, Nat.zero_le _⟩ (fun H locs hP hS => ?_)
  refine lv_lstore_n (lv' := [(3, .long r2), (0, .ref (ad 63)), (1, .ref (ad (7 * j + 1))), (2, .int a2)]) hx hb dX5_arrived_5 rfl hl (by decide) rfl (fun ls hl => ?_)
  refine lv_iconst (v := 0) hx hb dX5_arrived_6 (by decide) ?_
  refine lv_istore (lv' := [(5, .int (0 : Int32)), (3, .long r2), (0, .ref (ad 63)), (1, .ref (ad (7 * j + 1))), (2, .int a2)]) hx hb dX5_arrived_7 hl (by decide) rfl (fun ls hl => ?_)
  refine lv_iconst (v := 1) hx hb dX5_arrived_9 (by decide) ?_
  refine lv_istore (lv' := [(6, .int (1 : Int32)), (5, .int (0 : Int32)), (3, .long r2), (0, .ref (ad 63)), (1, .ref (ad (7 * j + 1))), (2, .int a2)]) hx hb dX5_arrived_10 hl (by decide) rfl (fun ls hl => ?_)
  exact tX5_arrived_12 hC F hj F x1 a2 r2 (0 : Int32) (1 : Int32) hf H locs ls hP hS (lv_sub hl [3, 4, 5, 2, 1, 0] rfl)
set_option maxHeartbeats 4000000 in
set_option maxRecDepth 100000 in
theorem tX5_channelsDown_35 (hC : Cf p s m args meth c cX5_channelsDown 5 RX5 (some .int) D cy tX tY ad A 93) (F : Nat) {z : Int32 × HT} {j : Nat} (hj : j < 8) (rec5 : HT → Int32 → Int32 → Int32 → Option (Int32 × HT)) (hrec5 : ∀ (x : HT) (a2 : Int32) (a3 : Int32) (a4 : Int32), rec5 x a2 a3 a4 = some z → Wd p l e { frames := 1, cells := 0, slots := 0, locals := 21 } s m args below meth c D (eX cy ad) 93 ad A (cQi (eX cy ad) 93 ad D A z) 5 5 [(0, .ref (ad 63)), (1, .ref (ad (7 * j + 1))), (2, .int a2), (3, .int a3), (4, .int a4)] [] x) : ∀ (x : HT) (a2 : Int32) (a3 : Int32) (a4 : Int32), fX5_channelsDown_35 F rec5 j x a2 a3 a4 = some z → Wd p l e { frames := 1, cells := 0, slots := 0, locals := 21 } s m args below meth c D (eX cy ad) 93 ad A (cQi (eX cy ad) 93 ad D A z) 5 35 [(0, .ref (ad 63)), (1, .ref (ad (7 * j + 1))), (2, .int a2), (3, .int a3), (4, .int a4)] [] x := by
  intro x a2 a3 a4 hf H locs ls hP hS hl
  obtain ⟨hx, hb, -⟩ := id hC
  obtain ⟨b12, e13, hf⟩ := lt_some hf
  refine lv_iinc (v := b12) (lv' := [(4, .int b12), (0, .ref (ad 63)), (1, .ref (ad (7 * j + 1))), (2, .int a2), (3, .int a3)]) hx hb dX5_channelsDown_35 hl (k := 4) rfl (by rw [e13]; rfl) (by decide) rfl (fun ls hl => ?_)
  refine lv_goto (tgt := 5) hx hb dX5_channelsDown_38 (by decide) ?_
  exact hrec5 x a2 a3 b12 hf H locs ls hP hS (lv_sub hl [1, 2, 3, 4, 0] rfl)
set_option maxHeartbeats 4000000 in
set_option maxRecDepth 100000 in
theorem tX5_channelsDown_5b (hC : Cf p s m args meth c cX5_channelsDown 5 RX5 (some .int) D cy tX tY ad A 93) (F : Nat) {z : Int32 × HT} {j : Nat} (hj : j < 8) (rec5 : HT → Int32 → Int32 → Int32 → Option (Int32 × HT)) (hrec5 : ∀ (x : HT) (a2 : Int32) (a3 : Int32) (a4 : Int32), rec5 x a2 a3 a4 = some z → Wd p l e { frames := 1, cells := 0, slots := 0, locals := 21 } s m args below meth c D (eX cy ad) 93 ad A (cQi (eX cy ad) 93 ad D A z) 5 5 [(0, .ref (ad 63)), (1, .ref (ad (7 * j + 1))), (2, .int a2), (3, .int a3), (4, .int a4)] [] x) : ∀ (x : HT) (a2 : Int32) (a3 : Int32) (a4 : Int32), fX5_channelsDown_5b F rec5 j x a2 a3 a4 = some z → Wd p l e { frames := 1, cells := 0, slots := 0, locals := 21 } s m args below meth c D (eX cy ad) 93 ad A (cQi (eX cy ad) 93 ad D A z) 5 5 [(0, .ref (ad 63)), (1, .ref (ad (7 * j + 1))), (2, .int a2), (3, .int a3), (4, .int a4)] [] x := by
  intro x a2 a3 a4 hf H locs ls hP hS hl
  obtain ⟨hx, hb, -⟩ := id hC
  refine lv_iload hx hb dX5_channelsDown_5 (lv_at hl 4 rfl) ?_
  refine lv_aload_n hx hb dX5_channelsDown_7 rfl (lv_at hl 0 rfl) ?_
  refine gfX5_9 hC hP dX5_channelsDown_8 ?_
  refine lv_iload_n hx hb dX5_channelsDown_11 rfl (lv_at hl 2 rfl) ?_
  obtain ⟨h1, hf⟩ := ck_some hf
  refine gIal hC hP 64 (by decide) (eX_64 cy ad _ _) h1 dX5_channelsDown_12 ?_
  refine lv_icmp_ge (tgt := 41) hx hb dX5_channelsDown_13 (by decide) (fun c2 => ?_) (fun c2 => ?_)
  · have hf := it_t c2 hf
    refine lv_iload_n hx hb dX5_channelsDown_41 rfl (lv_at hl 3 rfl) ?_
    exact gIret hC hP hS hf dX5_channelsDown_42
  · have hf := it_f c2 hf
    refine lv_aload_n hx hb dX5_channelsDown_16 rfl (lv_at hl 1 rfl) ?_
    refine lv_aload_n hx hb dX5_channelsDown_17 rfl (lv_at hl 0 rfl) ?_
    refine gfX5_20 hC hP dX5_channelsDown_18 ?_
    refine lv_iload_n hx hb dX5_channelsDown_21 rfl (lv_at hl 2 rfl) ?_
    obtain ⟨h3, hf⟩ := ck_some hf
    refine gRow hC hP 66 77 (by decide) (eX_66 cy ad _ _) h3 dX5_channelsDown_22 ?_
    have hw4 := inb_lt h3
    refine lv_iload hx hb dX5_channelsDown_23 (lv_at hl 4 rfl) ?_
    obtain ⟨h5, hf⟩ := ck_some hf
    refine gIal hC hP (77 + a2.toNatClampNeg) (by omega) (eX_Q hw4 cy ad _ _) h5 dX5_channelsDown_25 ?_
    obtain ⟨r7, x6, e8, hf⟩ := bd_some hf
    refine gVi (As := [.int (x.1 (77 + a2.toNatClampNeg) a4.toNatClampNeg)]) (rest := []) (k := (7 * j + 1)) hC hP hS (kX2_isDown l D cy tX tY ad A hC.2.2.2.2.2.2.2.2.1 F (j := j) hj x (x.1 (77 + a2.toNatClampNeg) a4.toNatClampNeg) e8) glX5_68 ⟨rfl, rfl⟩ hdX2_isDown ⟨Nat.le_of_ble_eq_true rfl, Nat.le_of_ble_eq_true rfl⟩ (by omega) (eX_S hj cy ad _ _) rfl rfl hl.1 rfl (Nat.le_of_ble_eq_true rfl) dX5_channelsDown_26 ⟨Nat.zero_le _, Nat.zero_le _⟩ (fun H locs hP hS => ?_)
    refine lv_if_eq (tgt := 35) hx hb dX5_channelsDown_29 (by decide) (fun c9 => ?_) (fun c9 => ?_)
    · have hf := it_t c9 hf
      exact tX5_channelsDown_35 hC F hj rec5 hrec5 x6 a2 a3 a4 hf H locs ls hP hS (lv_sub hl [0, 1, 2, 3, 4] rfl)
    · have hf := it_f c9 hf
      obtain ⟨b10, e11, hf⟩ := lt_some hf
      refine lv_iinc (v := b10) (lv' := [(3, .int b10), (0, .ref (ad 63)), (1, .ref (ad (7 * j + 1))), (2, .int a2), (4, .int a4)]) hx hb dX5_channelsDown_32 hl (k := 3) rfl (by rw [e11]; rfl) (by decide) rfl (fun ls hl => ?_)
      exact tX5_channelsDown_35 hC F hj rec5 hrec5 x6 a2 b10 a4 hf H locs ls hP hS (lv_sub hl [1, 2, 3, 0, 4] rfl)
theorem tX5_channelsDown_5 (hC : Cf p s m args meth c cX5_channelsDown 5 RX5 (some .int) D cy tX tY ad A 93) (F : Nat) {z : Int32 × HT} {j : Nat} (hj : j < 8) : ∀ (n9 : Nat) (x : HT) (a2 : Int32) (a3 : Int32) (a4 : Int32), fX5_channelsDown_5 F j n9 x a2 a3 a4 = some z → Wd p l e { frames := 1, cells := 0, slots := 0, locals := 21 } s m args below meth c D (eX cy ad) 93 ad A (cQi (eX cy ad) 93 ad D A z) 5 5 [(0, .ref (ad 63)), (1, .ref (ad (7 * j + 1))), (2, .int a2), (3, .int a3), (4, .int a4)] [] x := by
  intro n9
  induction n9 with
  | zero => intro x a2 a3 a4 hf; cases hf
  | succ n9 ih => intro x a2 a3 a4 hf; exact tX5_channelsDown_5b hC F hj (fX5_channelsDown_5 F j n9) ih x a2 a3 a4 hf
set_option maxHeartbeats 4000000 in
set_option maxRecDepth 100000 in
theorem kX5_channelsDown (l : Launch) (D : va_G) (cy : Nat → ClassId) (tX tY : Nat) (ad : Nat → Nat) (A : Nat → Prop) (hA : apart ad A 93) (F : Nat) {j : Nat} (hj : j < 8) (x : HT) (a2 : Int32) {z : Int32 × HT} (hf : fX5_channelsDown F j x a2 = some z) : Met l yX5_channelsDown (Cond.code yX5_channelsDown cX5_channelsDown 5 (some .int) :: wAll) { frames := 1, cells := 0, slots := 0, locals := 21 } (cPc (eX cy ad) 93 ad D cy tX tY A [.ref (ad 63), .ref (ad (7 * j + 1)), .int a2] x) (cQi (eX cy ad) 93 ad D A z) 0 0 A := by
  refine gMet hA (by decide) (Nat.le_of_ble_eq_true rfl) (fun p e s m below meth c hC H locs ls hP hS hl => ?_)
  have hC : Cf p s m _ meth c cX5_channelsDown 5 RX5 (some .int) D cy tX tY ad A 93 := hC
  have hl : lv_has ls 5 [(0, .ref (ad 63)), (1, .ref (ad (7 * j + 1))), (2, .int a2)] := hl
  obtain ⟨hx, hb, -⟩ := id hC
  refine lv_iconst (v := 0) hx hb dX5_channelsDown_0 (by decide) ?_
  refine lv_istore_n (lv' := [(3, .int (0 : Int32)), (0, .ref (ad 63)), (1, .ref (ad (7 * j + 1))), (2, .int a2)]) hx hb dX5_channelsDown_1 rfl hl (by decide) rfl (fun ls hl => ?_)
  refine lv_iconst (v := 0) hx hb dX5_channelsDown_2 (by decide) ?_
  refine lv_istore (lv' := [(4, .int (0 : Int32)), (3, .int (0 : Int32)), (0, .ref (ad 63)), (1, .ref (ad (7 * j + 1))), (2, .int a2)]) hx hb dX5_channelsDown_3 hl (by decide) rfl (fun ls hl => ?_)
  exact tX5_channelsDown_5 hC F hj F x a2 (0 : Int32) (0 : Int32) hf H locs ls hP hS (lv_sub hl [2, 3, 4, 1, 0] rfl)
set_option maxHeartbeats 4000000 in
set_option maxRecDepth 100000 in
theorem kX6_wormFact (l : Launch) (D : va_G) (cy : Nat → ClassId) (tX tY : Nat) (ad : Nat → Nat) (A : Nat → Prop) (hA : apart ad A 93) (F : Nat) (x : HT) (a1 : Int32) (a2 : Int32) {z : Int32 × HT} (hf : fX6_wormFact F x a1 a2 = some z) : Met l yX6_wormFact (Cond.code yX6_wormFact cX6_wormFact 3 (some .int) :: wAll) { frames := 3, cells := 0, slots := 0, locals := 70 } (cPc (eX cy ad) 93 ad D cy tX tY A [.ref (ad 0), .int a1, .int a2] x) (cQi (eX cy ad) 93 ad D A z) 0 0 A := by
  refine gMet hA (by decide) (Nat.le_of_ble_eq_true rfl) (fun p e s m below meth c hC H locs ls hP hS hl => ?_)
  have hC : Cf p s m _ meth c cX6_wormFact 3 RX6 (some .int) D cy tX tY ad A 93 := hC
  have hl : lv_has ls 3 [(0, .ref (ad 0)), (1, .int a1), (2, .int a2)] := hl
  obtain ⟨hx, hb, -⟩ := id hC
  refine lv_iload_n hx hb dX6_wormFact_0 rfl (lv_at hl 2 rfl) ?_
  by_cases c1 : a2 = (0 : Int32)
  · have hf := it_t c1 hf
    refine lv_tableIn (tgt := 48) (off := 47) hx hb dX6_wormFact_1 (by rw [c1]; decide) (by rw [c1]; decide) (by rw [c1]; decide) (by decide) ?_
    refine lv_aload_n hx hb dX6_wormFact_48 rfl (lv_at hl 0 rfl) ?_
    refine gfX6_12 hC hP dX6_wormFact_49 ?_
    refine lv_iload_n hx hb dX6_wormFact_52 rfl (lv_at hl 1 rfl) ?_
    obtain ⟨r3, x2, e4, hf⟩ := bd_some hf
    refine gVl (As := [.int a1]) (rest := []) (k := (7 * 0 + 1)) hC hP hS (kX2_goalsOfWorm l D cy tX tY ad A hC.2.2.2.2.2.2.2.2.1 F (j := 0) (by decide) x a1 e4) glX6_263 ⟨rfl, rfl⟩ hdX2_goalsOfWorm ⟨Nat.le_of_ble_eq_true rfl, Nat.le_of_ble_eq_true rfl⟩ (by omega) (eX_S (by decide) cy ad _ _) rfl rfl hl.1 rfl (Nat.le_of_ble_eq_true rfl) dX6_wormFact_53 ⟨Nat.zero_le _, Nat.zero_le _⟩ (fun H locs hP hS => ?_)
    obtain ⟨r6, x5, e7, hf⟩ := bd_some hf
    refine gSi (As := [.long r3]) (rest := []) hC hP hS (kJ13_bitCount_95d88 l D cy tX tY ad A hC.2.2.2.2.2.2.2.2.1 F x2 r3 e7) glX6_237 ⟨rfl, rfl⟩ hdJ13_bitCount_95d88 ⟨Nat.le_of_ble_eq_true rfl, Nat.le_of_ble_eq_true rfl⟩ rfl hl.1 rfl (Nat.le_of_ble_eq_true rfl) dX6_wormFact_56 ⟨Nat.zero_le _, Nat.zero_le _⟩ (fun H locs hP hS => ?_)
    exact gIret hC hP hS hf dX6_wormFact_59
  have hf := it_f c1 hf
  by_cases c8 : a2 = (1 : Int32)
  · have hf := it_t c8 hf
    refine lv_tableIn (tgt := 60) (off := 59) hx hb dX6_wormFact_1 (by rw [c8]; decide) (by rw [c8]; decide) (by rw [c8]; decide) (by decide) ?_
    refine lv_aload_n hx hb dX6_wormFact_60 rfl (lv_at hl 0 rfl) ?_
    refine gfX6_39 hC hP dX6_wormFact_61 ?_
    refine lv_iload_n hx hb dX6_wormFact_64 rfl (lv_at hl 1 rfl) ?_
    obtain ⟨r10, x9, e11, hf⟩ := bd_some hf
    refine gVi (As := [.int a1]) (rest := []) (k := 63) hC hP hS (kX5_channelsOf l D cy tX tY ad A hC.2.2.2.2.2.2.2.2.1 F x a1 e11) glX6_132 ⟨rfl, rfl⟩ hdX5_channelsOf ⟨Nat.le_of_ble_eq_true rfl, Nat.le_of_ble_eq_true rfl⟩ (by decide) (eX_63 cy ad _ _) rfl rfl hl.1 rfl (Nat.le_of_ble_eq_true rfl) dX6_wormFact_65 ⟨Nat.zero_le _, Nat.zero_le _⟩ (fun H locs hP hS => ?_)
    exact gIret hC hP hS hf dX6_wormFact_68
  have hf := it_f c8 hf
  by_cases c12 : a2 = (2 : Int32)
  · have hf := it_t c12 hf
    refine lv_tableIn (tgt := 69) (off := 68) hx hb dX6_wormFact_1 (by rw [c12]; decide) (by rw [c12]; decide) (by rw [c12]; decide) (by decide) ?_
    refine lv_aload_n hx hb dX6_wormFact_69 rfl (lv_at hl 0 rfl) ?_
    refine gfX6_12 hC hP dX6_wormFact_70 ?_
    refine gfX6_230 hC hP (by decide) dX6_wormFact_73 ?_
    refine lv_iload_n hx hb dX6_wormFact_76 rfl (lv_at hl 1 rfl) ?_
    obtain ⟨h13, hf⟩ := ck_some hf
    refine gIal hC hP (7 * 0 + 6) (by omega) (eX_S5 (by decide) cy ad _ _) h13 dX6_wormFact_77 ?_
    exact gIret hC hP hS hf dX6_wormFact_78
  have hf := it_f c12 hf
  by_cases c14 : a2 = (3 : Int32)
  · have hf := it_t c14 hf
    refine lv_tableIn (tgt := 79) (off := 78) hx hb dX6_wormFact_1 (by rw [c14]; decide) (by rw [c14]; decide) (by rw [c14]; decide) (by decide) ?_
    refine lv_aload_n hx hb dX6_wormFact_79 rfl (lv_at hl 0 rfl) ?_
    refine gfX6_32 hC hP dX6_wormFact_80 ?_
    refine lv_aload_n hx hb dX6_wormFact_83 rfl (lv_at hl 0 rfl) ?_
    refine gfX6_39 hC hP dX6_wormFact_84 ?_
    refine lv_iload_n hx hb dX6_wormFact_87 rfl (lv_at hl 1 rfl) ?_
    refine lv_aload_n hx hb dX6_wormFact_88 rfl (lv_at hl 0 rfl) ?_
    refine gfX6_39 hC hP dX6_wormFact_89 ?_
    refine lv_aload_n hx hb dX6_wormFact_92 rfl (lv_at hl 0 rfl) ?_
    refine gfX6_12 hC hP dX6_wormFact_93 ?_
    refine lv_iload_n hx hb dX6_wormFact_96 rfl (lv_at hl 1 rfl) ?_
    obtain ⟨r16, x15, e17, hf⟩ := bd_some hf
    refine gVi (As := [.ref (ad (7 * 0 + 1)), .int a1]) (rest := [.int a1, .ref (ad 63), .ref (ad 59)]) (k := 63) hC hP hS (kX5_headOf l D cy tX tY ad A hC.2.2.2.2.2.2.2.2.1 F (j := 0) (by decide) x a1 e17) glX6_267 ⟨rfl, rfl⟩ hdX5_headOf ⟨Nat.le_of_ble_eq_true rfl, Nat.le_of_ble_eq_true rfl⟩ (by decide) (eX_63 cy ad _ _) rfl rfl hl.1 rfl (Nat.le_of_ble_eq_true rfl) dX6_wormFact_97 ⟨Nat.zero_le _, Nat.zero_le _⟩ (fun H locs hP hS => ?_)
    obtain ⟨r19, x18, e20, hf⟩ := bd_some hf
    refine gVi (As := [.int a1, .int r16]) (rest := [.ref (ad 59)]) (k := 63) hC hP hS (kX5_placeOf l D cy tX tY ad A hC.2.2.2.2.2.2.2.2.1 F x15 a1 r16 e20) glX6_135 ⟨rfl, rfl⟩ hdX5_placeOf ⟨Nat.le_of_ble_eq_true rfl, Nat.le_of_ble_eq_true rfl⟩ (by decide) (eX_63 cy ad _ _) rfl rfl hl.1 rfl (Nat.le_of_ble_eq_true rfl) dX6_wormFact_100 ⟨Nat.zero_le _, Nat.zero_le _⟩ (fun H locs hP hS => ?_)
    obtain ⟨r22, x21, e23, hf⟩ := bd_some hf
    refine gVi (As := [.int r19]) (rest := []) (k := 59) hC hP hS (kX0_tell l D cy tX tY ad A hC.2.2.2.2.2.2.2.2.1 F x18 r19 e23) glX6_107 ⟨rfl, rfl⟩ hdX0_tell ⟨Nat.le_of_ble_eq_true rfl, Nat.le_of_ble_eq_true rfl⟩ (by decide) (eX_59 cy ad _ _) rfl rfl hl.1 rfl (Nat.le_of_ble_eq_true rfl) dX6_wormFact_103 ⟨Nat.zero_le _, Nat.zero_le _⟩ (fun H locs hP hS => ?_)
    exact gIret hC hP hS hf dX6_wormFact_106
  have hf := it_f c14 hf
  by_cases c24 : a2 = (4 : Int32)
  · have hf := it_t c24 hf
    refine lv_tableIn (tgt := 107) (off := 106) hx hb dX6_wormFact_1 (by rw [c24]; decide) (by rw [c24]; decide) (by rw [c24]; decide) (by decide) ?_
    refine lv_aload_n hx hb dX6_wormFact_107 rfl (lv_at hl 0 rfl) ?_
    refine gfX6_39 hC hP dX6_wormFact_108 ?_
    refine lv_aload_n hx hb dX6_wormFact_111 rfl (lv_at hl 0 rfl) ?_
    refine gfX6_12 hC hP dX6_wormFact_112 ?_
    refine lv_iload_n hx hb dX6_wormFact_115 rfl (lv_at hl 1 rfl) ?_
    obtain ⟨r26, x25, e27, hf⟩ := bd_some hf
    refine gVi (As := [.ref (ad (7 * 0 + 1)), .int a1]) (rest := []) (k := 63) hC hP hS (kX5_arrived l D cy tX tY ad A hC.2.2.2.2.2.2.2.2.1 F (j := 0) (by decide) x a1 e27) glX6_270 ⟨rfl, rfl⟩ hdX5_arrived ⟨Nat.le_of_ble_eq_true rfl, Nat.le_of_ble_eq_true rfl⟩ (by decide) (eX_63 cy ad _ _) rfl rfl hl.1 rfl (Nat.le_of_ble_eq_true rfl) dX6_wormFact_116 ⟨Nat.zero_le _, Nat.zero_le _⟩ (fun H locs hP hS => ?_)
    exact gIret hC hP hS hf dX6_wormFact_119
  have hf := it_f c24 hf
  by_cases c28 : a2 = (5 : Int32)
  · have hf := it_t c28 hf
    refine lv_tableIn (tgt := 120) (off := 119) hx hb dX6_wormFact_1 (by rw [c28]; decide) (by rw [c28]; decide) (by rw [c28]; decide) (by decide) ?_
    refine lv_aload_n hx hb dX6_wormFact_120 rfl (lv_at hl 0 rfl) ?_
    refine gfX6_12 hC hP dX6_wormFact_121 ?_
    refine gfX6_273 hC hP (by decide) dX6_wormFact_124 ?_
    refine lv_iload_n hx hb dX6_wormFact_127 rfl (lv_at hl 1 rfl) ?_
    obtain ⟨h29, hf⟩ := ck_some hf
    refine gIal hC hP (7 * 0 + 7) (by omega) (eX_S6 (by decide) cy ad _ _) h29 dX6_wormFact_128 ?_
    exact gIret hC hP hS hf dX6_wormFact_129
  have hf := it_f c28 hf
  by_cases c30 : a2 = (6 : Int32)
  · have hf := it_t c30 hf
    refine lv_tableIn (tgt := 130) (off := 129) hx hb dX6_wormFact_1 (by rw [c30]; decide) (by rw [c30]; decide) (by rw [c30]; decide) (by decide) ?_
    refine lv_aload_n hx hb dX6_wormFact_130 rfl (lv_at hl 0 rfl) ?_
    refine gfX6_39 hC hP dX6_wormFact_131 ?_
    refine lv_aload_n hx hb dX6_wormFact_134 rfl (lv_at hl 0 rfl) ?_
    refine gfX6_12 hC hP dX6_wormFact_135 ?_
    refine lv_iload_n hx hb dX6_wormFact_138 rfl (lv_at hl 1 rfl) ?_
    obtain ⟨r32, x31, e33, hf⟩ := bd_some hf
    refine gVi (As := [.ref (ad (7 * 0 + 1)), .int a1]) (rest := []) (k := 63) hC hP hS (kX5_isDone l D cy tX tY ad A hC.2.2.2.2.2.2.2.2.1 F (j := 0) (by decide) x a1 e33) glX6_276 ⟨rfl, rfl⟩ hdX5_isDone ⟨Nat.le_of_ble_eq_true rfl, Nat.le_of_ble_eq_true rfl⟩ (by decide) (eX_63 cy ad _ _) rfl rfl hl.1 rfl (Nat.le_of_ble_eq_true rfl) dX6_wormFact_139 ⟨Nat.zero_le _, Nat.zero_le _⟩ (fun H locs hP hS => ?_)
    refine lv_if_eq (tgt := 149) hx hb dX6_wormFact_142 (by decide) (fun c34 => ?_) (fun c34 => ?_)
    · have hf := it_t c34 hf
      refine lv_iconst (v := 0) hx hb dX6_wormFact_149 (by decide) ?_
      exact gIret hC hP hS hf dX6_wormFact_150
    · have hf := it_f c34 hf
      refine lv_iconst (v := 1) hx hb dX6_wormFact_145 (by decide) ?_
      refine lv_goto (tgt := 150) hx hb dX6_wormFact_146 (by decide) ?_
      exact gIret hC hP hS hf dX6_wormFact_150
  have hf := it_f c30 hf
  by_cases c35 : a2 = (7 : Int32)
  · have hf := it_t c35 hf
    refine lv_tableIn (tgt := 151) (off := 150) hx hb dX6_wormFact_1 (by rw [c35]; decide) (by rw [c35]; decide) (by rw [c35]; decide) (by decide) ?_
    refine lv_aload_n hx hb dX6_wormFact_151 rfl (lv_at hl 0 rfl) ?_
    refine gfX6_39 hC hP dX6_wormFact_152 ?_
    refine lv_aload_n hx hb dX6_wormFact_155 rfl (lv_at hl 0 rfl) ?_
    refine gfX6_12 hC hP dX6_wormFact_156 ?_
    refine lv_iload_n hx hb dX6_wormFact_159 rfl (lv_at hl 1 rfl) ?_
    obtain ⟨r37, x36, e38, hf⟩ := bd_some hf
    refine gVi (As := [.ref (ad (7 * 0 + 1)), .int a1]) (rest := []) (k := 63) hC hP hS (kX5_headOf l D cy tX tY ad A hC.2.2.2.2.2.2.2.2.1 F (j := 0) (by decide) x a1 e38) glX6_267 ⟨rfl, rfl⟩ hdX5_headOf ⟨Nat.le_of_ble_eq_true rfl, Nat.le_of_ble_eq_true rfl⟩ (by decide) (eX_63 cy ad _ _) rfl rfl hl.1 rfl (Nat.le_of_ble_eq_true rfl) dX6_wormFact_160 ⟨Nat.zero_le _, Nat.zero_le _⟩ (fun H locs hP hS => ?_)
    refine lv_aload_n hx hb dX6_wormFact_163 rfl (lv_at hl 0 rfl) ?_
    refine gfX6_39 hC hP dX6_wormFact_164 ?_
    refine lv_aload_n hx hb dX6_wormFact_167 rfl (lv_at hl 0 rfl) ?_
    refine gfX6_12 hC hP dX6_wormFact_168 ?_
    refine lv_iload_n hx hb dX6_wormFact_171 rfl (lv_at hl 1 rfl) ?_
    obtain ⟨r40, x39, e41, hf⟩ := bd_some hf
    refine gVi (As := [.ref (ad (7 * 0 + 1)), .int a1]) (rest := [.int r37]) (k := 63) hC hP hS (kX5_tailOf l D cy tX tY ad A hC.2.2.2.2.2.2.2.2.1 F (j := 0) (by decide) x36 a1 e41) glX6_280 ⟨rfl, rfl⟩ hdX5_tailOf ⟨Nat.le_of_ble_eq_true rfl, Nat.le_of_ble_eq_true rfl⟩ (by decide) (eX_63 cy ad _ _) rfl rfl hl.1 rfl (Nat.le_of_ble_eq_true rfl) dX6_wormFact_172 ⟨Nat.zero_le _, Nat.zero_le _⟩ (fun H locs hP hS => ?_)
    refine lv_isub hx hb dX6_wormFact_175 ?_
    exact gIret hC hP hS hf dX6_wormFact_176
  have hf := it_f c35 hf
  refine lv_tableOut (tgt := 177) hx hb dX6_wormFact_1 (by have n0 := lv_neT c1 (a := 0) (by decide); have n1 := lv_neT c8 (a := 1) (by decide); have n2 := lv_neT c12 (a := 2) (by decide); have n3 := lv_neT c14 (a := 3) (by decide); have n4 := lv_neT c24 (a := 4) (by decide); have n5 := lv_neT c28 (a := 5) (by decide); have n6 := lv_neT c30 (a := 6) (by decide); have n7 := lv_neT c35 (a := 7) (by decide); omega) (by decide) ?_
  refine lv_aload_n hx hb dX6_wormFact_177 rfl (lv_at hl 0 rfl) ?_
  refine gfX6_39 hC hP dX6_wormFact_178 ?_
  refine lv_aload_n hx hb dX6_wormFact_181 rfl (lv_at hl 0 rfl) ?_
  refine gfX6_12 hC hP dX6_wormFact_182 ?_
  refine lv_iload_n hx hb dX6_wormFact_185 rfl (lv_at hl 1 rfl) ?_
  obtain ⟨r43, x42, e44, hf⟩ := bd_some hf
  refine gVi (As := [.ref (ad (7 * 0 + 1)), .int a1]) (rest := []) (k := 63) hC hP hS (kX5_channelsDown l D cy tX tY ad A hC.2.2.2.2.2.2.2.2.1 F (j := 0) (by decide) x a1 e44) glX6_283 ⟨rfl, rfl⟩ hdX5_channelsDown ⟨Nat.le_of_ble_eq_true rfl, Nat.le_of_ble_eq_true rfl⟩ (by decide) (eX_63 cy ad _ _) rfl rfl hl.1 rfl (Nat.le_of_ble_eq_true rfl) dX6_wormFact_186 ⟨Nat.zero_le _, Nat.zero_le _⟩ (fun H locs hP hS => ?_)
  exact gIret hC hP hS hf dX6_wormFact_189
set_option maxHeartbeats 4000000 in
set_option maxRecDepth 100000 in
theorem tX6_worm_19 (hC : Cf p s m args meth c cX6_worm 4 RX6 (some .int) D cy tX tY ad A 93) (F : Nat) {z : Int32 × HT} : ∀ (x : HT), fX6_worm_19 F x = some z → Wd p l e { frames := 4, cells := 0, slots := 0, locals := 92 } s m args below meth c D (eX cy ad) 93 ad A (cQi (eX cy ad) 93 ad D A z) 4 19 [(0, .ref (ad 0))] [] x := by
  intro x hf H locs ls hP hS hl
  obtain ⟨hx, hb, -⟩ := id hC
  refine lv_aload_n hx hb dX6_worm_19 rfl (lv_at hl 0 rfl) ?_
  refine lv_bipush (v := -2) hx hb dX6_worm_20 (by decide) ?_
  obtain ⟨r11, x10, e12, hf⟩ := bd_some hf
  refine gVi (As := [.int (-2 : Int32)]) (rest := []) (k := 0) hC hP hS (kX6_refuse l D cy tX tY ad A hC.2.2.2.2.2.2.2.2.1 F x (-2 : Int32) e12) glX6_100 ⟨rfl, rfl⟩ hdX6_refuse ⟨Nat.le_of_ble_eq_true rfl, Nat.le_of_ble_eq_true rfl⟩ (by decide) (eX_0 cy ad _ _) rfl rfl hl.1 rfl (Nat.le_of_ble_eq_true rfl) dX6_worm_22 ⟨Nat.zero_le _, Nat.zero_le _⟩ (fun H locs hP hS => ?_)
  exact gIret hC hP hS hf dX6_worm_25
set_option maxHeartbeats 4000000 in
set_option maxRecDepth 100000 in
theorem kX6_worm (l : Launch) (D : va_G) (cy : Nat → ClassId) (tX tY : Nat) (ad : Nat → Nat) (A : Nat → Prop) (hA : apart ad A 93) (F : Nat) (x : HT) (a1 : Int32) (a2 : Int32) (a3 : Int32) {z : Int32 × HT} (hf : fX6_worm F x a1 a2 a3 = some z) : Met l yX6_worm (Cond.code yX6_worm cX6_worm 4 (some .int) :: wAll) { frames := 4, cells := 0, slots := 0, locals := 92 } (cPc (eX cy ad) 93 ad D cy tX tY A [.ref (ad 0), .int a1, .int a2, .int a3] x) (cQi (eX cy ad) 93 ad D A z) 0 0 A := by
  refine gMet hA (by decide) (Nat.le_of_ble_eq_true rfl) (fun p e s m below meth c hC H locs ls hP hS hl => ?_)
  have hC : Cf p s m _ meth c cX6_worm 4 RX6 (some .int) D cy tX tY ad A 93 := hC
  have hl : lv_has ls 4 [(0, .ref (ad 0)), (1, .int a1), (2, .int a2), (3, .int a3)] := hl
  obtain ⟨hx, hb, -⟩ := id hC
  refine lv_aload_n hx hb dX6_worm_0 rfl (lv_at hl 0 rfl) ?_
  refine lv_iload_n hx hb dX6_worm_1 rfl (lv_at hl 1 rfl) ?_
  refine lv_iload_n hx hb dX6_worm_2 rfl (lv_at hl 2 rfl) ?_
  obtain ⟨r2, x1, e3, hf⟩ := bd_some hf
  refine gVi (As := [.int a1, .int a2]) (rest := []) (k := 0) hC hP hS (kX6_hasWorm l D cy tX tY ad A hC.2.2.2.2.2.2.2.2.1 F x a1 a2 e3) glX6_126 ⟨rfl, rfl⟩ hdX6_hasWorm ⟨Nat.le_of_ble_eq_true rfl, Nat.le_of_ble_eq_true rfl⟩ (by decide) (eX_0 cy ad _ _) rfl rfl hl.1 rfl (Nat.le_of_ble_eq_true rfl) dX6_worm_3 ⟨Nat.zero_le _, Nat.zero_le _⟩ (fun H locs hP hS => ?_)
  refine lv_if_eq (tgt := 19) hx hb dX6_worm_6 (by decide) (fun c4 => ?_) (fun c4 => ?_)
  · have hf := it_t c4 hf
    exact tX6_worm_19 hC F x1 hf H locs ls hP hS (lv_sub hl [0] rfl)
  · have hf := it_f c4 hf
    refine lv_iload_n hx hb dX6_worm_9 rfl (lv_at hl 3 rfl) ?_
    refine lv_if_lt (tgt := 19) hx hb dX6_worm_10 (by decide) (fun c5 => ?_) (fun c5 => ?_)
    · have hf := it_t c5 hf
      exact tX6_worm_19 hC F x1 hf H locs ls hP hS (lv_sub hl [0] rfl)
    · have hf := it_f c5 hf
      refine lv_iload_n hx hb dX6_worm_13 rfl (lv_at hl 3 rfl) ?_
      refine lv_bipush (v := 9) hx hb dX6_worm_14 (by decide) ?_
      refine lv_icmp_lt (tgt := 26) hx hb dX6_worm_16 (by decide) (fun c6 => ?_) (fun c6 => ?_)
      · have hf := it_t c6 hf
        refine lv_aload_n hx hb dX6_worm_26 rfl (lv_at hl 0 rfl) ?_
        refine lv_iload_n hx hb dX6_worm_27 rfl (lv_at hl 1 rfl) ?_
        refine lv_iconst (v := 2) hx hb dX6_worm_28 (by decide) ?_
        refine lv_imul hx hb dX6_worm_29 ?_
        refine lv_iload_n hx hb dX6_worm_30 rfl (lv_at hl 2 rfl) ?_
        refine lv_iadd hx hb dX6_worm_31 ?_
        refine lv_iload_n hx hb dX6_worm_32 rfl (lv_at hl 3 rfl) ?_
        obtain ⟨r8, x7, e9, hf⟩ := bd_some hf
        refine gVi (As := [.int ((a1 * (2 : Int32)) + a2), .int a3]) (rest := []) (k := 0) hC hP hS (kX6_wormFact l D cy tX tY ad A hC.2.2.2.2.2.2.2.2.1 F x1 ((a1 * (2 : Int32)) + a2) a3 e9) glX6_129 ⟨rfl, rfl⟩ hdX6_wormFact ⟨Nat.le_of_ble_eq_true rfl, Nat.le_of_ble_eq_true rfl⟩ (by decide) (eX_0 cy ad _ _) rfl rfl hl.1 rfl (Nat.le_of_ble_eq_true rfl) dX6_worm_33 ⟨Nat.zero_le _, Nat.zero_le _⟩ (fun H locs hP hS => ?_)
        exact gIret hC hP hS hf dX6_worm_36
      · have hf := it_f c6 hf
        exact tX6_worm_19 hC F x1 hf H locs ls hP hS (lv_sub hl [0] rfl)
set_option maxHeartbeats 4000000 in
set_option maxRecDepth 100000 in
theorem tX6_way_13 (hC : Cf p s m args meth c cX6_way 5 RX6 (some .int) D cy tX tY ad A 93) (F : Nat) {z : Int32 × HT} : ∀ (x : HT), fX6_way_13 F x = some z → Wd p l e { frames := 3, cells := 0, slots := 0, locals := 62 } s m args below meth c D (eX cy ad) 93 ad A (cQi (eX cy ad) 93 ad D A z) 5 13 [(0, .ref (ad 0))] [] x := by
  intro x hf H locs ls hP hS hl
  obtain ⟨hx, hb, -⟩ := id hC
  refine lv_aload_n hx hb dX6_way_13 rfl (lv_at hl 0 rfl) ?_
  refine lv_bipush (v := -2) hx hb dX6_way_14 (by decide) ?_
  obtain ⟨r19, x18, e20, hf⟩ := bd_some hf
  refine gVi (As := [.int (-2 : Int32)]) (rest := []) (k := 0) hC hP hS (kX6_refuse l D cy tX tY ad A hC.2.2.2.2.2.2.2.2.1 F x (-2 : Int32) e20) glX6_100 ⟨rfl, rfl⟩ hdX6_refuse ⟨Nat.le_of_ble_eq_true rfl, Nat.le_of_ble_eq_true rfl⟩ (by decide) (eX_0 cy ad _ _) rfl rfl hl.1 rfl (Nat.le_of_ble_eq_true rfl) dX6_way_16 ⟨Nat.zero_le _, Nat.zero_le _⟩ (fun H locs hP hS => ?_)
  exact gIret hC hP hS hf dX6_way_19
set_option maxHeartbeats 4000000 in
set_option maxRecDepth 100000 in
theorem kX6_way (l : Launch) (D : va_G) (cy : Nat → ClassId) (tX tY : Nat) (ad : Nat → Nat) (A : Nat → Prop) (hA : apart ad A 93) (F : Nat) (x : HT) (a1 : Int32) (a2 : Int32) (a3 : Int32) {z : Int32 × HT} (hf : fX6_way F x a1 a2 a3 = some z) : Met l yX6_way (Cond.code yX6_way cX6_way 5 (some .int) :: wAll) { frames := 3, cells := 0, slots := 0, locals := 62 } (cPc (eX cy ad) 93 ad D cy tX tY A [.ref (ad 0), .int a1, .int a2, .int a3] x) (cQi (eX cy ad) 93 ad D A z) 0 0 A := by
  refine gMet hA (by decide) (Nat.le_of_ble_eq_true rfl) (fun p e s m below meth c hC H locs ls hP hS hl => ?_)
  have hC : Cf p s m _ meth c cX6_way 5 RX6 (some .int) D cy tX tY ad A 93 := hC
  have hl : lv_has ls 5 [(0, .ref (ad 0)), (1, .int a1), (2, .int a2), (3, .int a3)] := hl
  obtain ⟨hx, hb, -⟩ := id hC
  refine lv_aload_n hx hb dX6_way_0 rfl (lv_at hl 0 rfl) ?_
  refine lv_iload_n hx hb dX6_way_1 rfl (lv_at hl 1 rfl) ?_
  refine lv_iload_n hx hb dX6_way_2 rfl (lv_at hl 2 rfl) ?_
  obtain ⟨r2, x1, e3, hf⟩ := bd_some hf
  refine gVi (As := [.int a1, .int a2]) (rest := []) (k := 0) hC hP hS (kX6_hasWorm l D cy tX tY ad A hC.2.2.2.2.2.2.2.2.1 F x a1 a2 e3) glX6_126 ⟨rfl, rfl⟩ hdX6_hasWorm ⟨Nat.le_of_ble_eq_true rfl, Nat.le_of_ble_eq_true rfl⟩ (by decide) (eX_0 cy ad _ _) rfl rfl hl.1 rfl (Nat.le_of_ble_eq_true rfl) dX6_way_3 ⟨Nat.zero_le _, Nat.zero_le _⟩ (fun H locs hP hS => ?_)
  refine lv_if_eq (tgt := 13) hx hb dX6_way_6 (by decide) (fun c4 => ?_) (fun c4 => ?_)
  · have hf := it_t c4 hf
    exact tX6_way_13 hC F x1 hf H locs ls hP hS (lv_sub hl [0] rfl)
  · have hf := it_f c4 hf
    refine lv_iload_n hx hb dX6_way_9 rfl (lv_at hl 3 rfl) ?_
    refine lv_if_ge (tgt := 20) hx hb dX6_way_10 (by decide) (fun c5 => ?_) (fun c5 => ?_)
    · have hf := it_t c5 hf
      refine lv_iload_n hx hb dX6_way_20 rfl (lv_at hl 1 rfl) ?_
      refine lv_iconst (v := 2) hx hb dX6_way_21 (by decide) ?_
      refine lv_imul hx hb dX6_way_22 ?_
      refine lv_iload_n hx hb dX6_way_23 rfl (lv_at hl 2 rfl) ?_
      refine lv_iadd hx hb dX6_way_24 ?_
      refine lv_topi (fun b6 e7 => ?_)
      have hf := lt_use e7 hf
      refine lv_istore (lv' := [(4, .int b6), (0, .ref (ad 0)), (1, .int a1), (2, .int a2), (3, .int a3)]) hx hb dX6_way_25 hl (by decide) rfl (fun ls hl => ?_)
      refine lv_iload_n hx hb dX6_way_27 rfl (lv_at hl 4 rfl) ?_
      refine lv_aload_n hx hb dX6_way_28 rfl (lv_at hl 1 rfl) ?_
      refine gfX6_39 hC hP dX6_way_29 ?_
      refine lv_iload hx hb dX6_way_32 (lv_at hl 0 rfl) ?_
      obtain ⟨r9, x8, e10, hf⟩ := bd_some hf
      refine gVi (As := [.int b6]) (rest := [.int a3]) (k := 63) hC hP hS (kX5_channelsOf l D cy tX tY ad A hC.2.2.2.2.2.2.2.2.1 F x1 b6 e10) glX6_132 ⟨rfl, rfl⟩ hdX5_channelsOf ⟨Nat.le_of_ble_eq_true rfl, Nat.le_of_ble_eq_true rfl⟩ (by decide) (eX_63 cy ad _ _) rfl rfl hl.1 rfl (Nat.le_of_ble_eq_true rfl) dX6_way_34 ⟨Nat.zero_le _, Nat.zero_le _⟩ (fun H locs hP hS => ?_)
      refine lv_icmp_le (tgt := 44) hx hb dX6_way_37 (by decide) (fun c11 => ?_) (fun c11 => ?_)
      · have hf := it_t c11 hf
        refine lv_aload_n hx hb dX6_way_44 rfl (lv_at hl 1 rfl) ?_
        refine gfX6_32 hC hP dX6_way_45 ?_
        refine lv_aload_n hx hb dX6_way_48 rfl (lv_at hl 1 rfl) ?_
        refine gfX6_39 hC hP dX6_way_49 ?_
        refine lv_iload hx hb dX6_way_52 (lv_at hl 0 rfl) ?_
        refine lv_iload_n hx hb dX6_way_54 rfl (lv_at hl 4 rfl) ?_
        obtain ⟨r13, x12, e14, hf⟩ := bd_some hf
        refine gVi (As := [.int b6, .int a3]) (rest := [.ref (ad 59)]) (k := 63) hC hP hS (kX5_placeOf l D cy tX tY ad A hC.2.2.2.2.2.2.2.2.1 F x8 b6 a3 e14) glX6_135 ⟨rfl, rfl⟩ hdX5_placeOf ⟨Nat.le_of_ble_eq_true rfl, Nat.le_of_ble_eq_true rfl⟩ (by decide) (eX_63 cy ad _ _) rfl rfl hl.1 rfl (Nat.le_of_ble_eq_true rfl) dX6_way_55 ⟨Nat.zero_le _, Nat.zero_le _⟩ (fun H locs hP hS => ?_)
        obtain ⟨r16, x15, e17, hf⟩ := bd_some hf
        refine gVi (As := [.int r13]) (rest := []) (k := 59) hC hP hS (kX0_tell l D cy tX tY ad A hC.2.2.2.2.2.2.2.2.1 F x12 r13 e17) glX6_107 ⟨rfl, rfl⟩ hdX0_tell ⟨Nat.le_of_ble_eq_true rfl, Nat.le_of_ble_eq_true rfl⟩ (by decide) (eX_59 cy ad _ _) rfl rfl hl.1 rfl (Nat.le_of_ble_eq_true rfl) dX6_way_58 ⟨Nat.zero_le _, Nat.zero_le _⟩ (fun H locs hP hS => ?_)
        exact gIret hC hP hS hf dX6_way_61
      · have hf := it_f c11 hf
        refine lv_iconst (v := -1) hx hb dX6_way_40 (by decide) ?_
        refine lv_goto (tgt := 61) hx hb dX6_way_41 (by decide) ?_
        exact gIret hC hP hS hf dX6_way_61
    · have hf := it_f c5 hf
      exact tX6_way_13 hC F x1 hf H locs ls hP hS (lv_sub hl [0] rfl)
set_option maxHeartbeats 4000000 in
set_option maxRecDepth 100000 in
theorem tX5_goalOf_59 (hC : Cf p s m args meth c cX5_goalOf 9 RX5 (some .int) D cy tX tY ad A 93) (F : Nat) {z : Int32 × HT} {j : Nat} (hj : j < 8) (rec13 : HT → Int32 → Int32 → Int64 → Int32 → Int32 → Option (Int32 × HT)) (hrec13 : ∀ (x : HT) (a2 : Int32) (a3 : Int32) (a4 : Int64) (a6 : Int32) (a7 : Int32), rec13 x a2 a3 a4 a6 a7 = some z → Wd p l e { frames := 2, cells := 0, slots := 0, locals := 44 } s m args below meth c D (eX cy ad) 93 ad A (cQi (eX cy ad) 93 ad D A z) 9 13 [(0, .ref (ad 63)), (2, .int a2), (3, .int a3), (4, .long a4), (6, .int a6), (7, .int a7)] [] x) : ∀ (x : HT) (a2 : Int32) (a3 : Int32) (a4 : Int64) (a6 : Int32) (a7 : Int32), fX5_goalOf_59 F rec13 j x a2 a3 a4 a6 a7 = some z → Wd p l e { frames := 2, cells := 0, slots := 0, locals := 44 } s m args below meth c D (eX cy ad) 93 ad A (cQi (eX cy ad) 93 ad D A z) 9 59 [(0, .ref (ad 63)), (2, .int a2), (3, .int a3), (4, .long a4), (6, .int a6), (7, .int a7)] [] x := by
  intro x a2 a3 a4 a6 a7 hf H locs ls hP hS hl
  obtain ⟨hx, hb, -⟩ := id hC
  obtain ⟨b15, e16, hf⟩ := lt_some hf
  refine lv_iinc (v := b15) (lv' := [(7, .int b15), (0, .ref (ad 63)), (2, .int a2), (3, .int a3), (4, .long a4), (6, .int a6)]) hx hb dX5_goalOf_59 hl (k := 5) rfl (by rw [e16]; rfl) (by decide) rfl (fun ls hl => ?_)
  refine lv_goto (tgt := 13) hx hb dX5_goalOf_62 (by decide) ?_
  exact hrec13 x a2 a3 a4 a6 b15 hf H locs ls hP hS (lv_sub hl [1, 2, 3, 4, 5, 0] rfl)
set_option maxHeartbeats 4000000 in
set_option maxRecDepth 100000 in
theorem tX5_goalOf_13b (hC : Cf p s m args meth c cX5_goalOf 9 RX5 (some .int) D cy tX tY ad A 93) (F : Nat) {z : Int32 × HT} {j : Nat} (hj : j < 8) (rec13 : HT → Int32 → Int32 → Int64 → Int32 → Int32 → Option (Int32 × HT)) (hrec13 : ∀ (x : HT) (a2 : Int32) (a3 : Int32) (a4 : Int64) (a6 : Int32) (a7 : Int32), rec13 x a2 a3 a4 a6 a7 = some z → Wd p l e { frames := 2, cells := 0, slots := 0, locals := 44 } s m args below meth c D (eX cy ad) 93 ad A (cQi (eX cy ad) 93 ad D A z) 9 13 [(0, .ref (ad 63)), (2, .int a2), (3, .int a3), (4, .long a4), (6, .int a6), (7, .int a7)] [] x) : ∀ (x : HT) (a2 : Int32) (a3 : Int32) (a4 : Int64) (a6 : Int32) (a7 : Int32), fX5_goalOf_13b F rec13 j x a2 a3 a4 a6 a7 = some z → Wd p l e { frames := 2, cells := 0, slots := 0, locals := 44 } s m args below meth c D (eX cy ad) 93 ad A (cQi (eX cy ad) 93 ad D A z) 9 13 [(0, .ref (ad 63)), (2, .int a2), (3, .int a3), (4, .long a4), (6, .int a6), (7, .int a7)] [] x := by
  intro x a2 a3 a4 a6 a7 hf H locs ls hP hS hl
  obtain ⟨hx, hb, -⟩ := id hC
  refine lv_iload hx hb dX5_goalOf_13 (lv_at hl 5 rfl) ?_
  refine lv_aload_n hx hb dX5_goalOf_15 rfl (lv_at hl 0 rfl) ?_
  refine gfX5_9 hC hP dX5_goalOf_16 ?_
  refine lv_iload_n hx hb dX5_goalOf_19 rfl (lv_at hl 1 rfl) ?_
  obtain ⟨h4, hf⟩ := ck_some hf
  refine gIal hC hP 64 (by decide) (eX_64 cy ad _ _) h4 dX5_goalOf_20 ?_
  refine lv_icmp_gt (tgt := 65) hx hb dX5_goalOf_21 (by decide) (fun c5 => ?_) (fun c5 => ?_)
  · have hf := it_t c5 hf
    refine lv_iconst (v := -1) hx hb dX5_goalOf_65 (by decide) ?_
    exact gIret hC hP hS hf dX5_goalOf_66
  · have hf := it_f c5 hf
    refine lv_aload_n hx hb dX5_goalOf_24 rfl (lv_at hl 0 rfl) ?_
    refine gfX5_17 hC hP dX5_goalOf_25 ?_
    refine lv_iload_n hx hb dX5_goalOf_28 rfl (lv_at hl 1 rfl) ?_
    obtain ⟨h6, hf⟩ := ck_some hf
    refine gRow hC hP 65 67 (by decide) (eX_65 cy ad _ _) h6 dX5_goalOf_29 ?_
    have hw7 := inb_lt h6
    refine lv_iload hx hb dX5_goalOf_30 (lv_at hl 5 rfl) ?_
    obtain ⟨h8, hf⟩ := ck_some hf
    refine gIal hC hP (67 + a2.toNatClampNeg) (by omega) (eX_P hw7 cy ad _ _) h8 dX5_goalOf_32 ?_
    refine lv_topi (fun b9 e10 => ?_)
    have hf := lt_use e10 hf
    refine lv_istore (lv' := [(8, .int b9), (0, .ref (ad 63)), (2, .int a2), (3, .int a3), (4, .long a4), (6, .int a6), (7, .int a7)]) hx hb dX5_goalOf_33 hl (by decide) rfl (fun ls hl => ?_)
    refine lv_lload hx hb dX5_goalOf_35 (lv_at hl 4 rfl) ?_
    refine lv_iload hx hb dX5_goalOf_37 (lv_at hl 0 rfl) ?_
    refine lv_lshr hx hb dX5_goalOf_39 rfl ?_
    refine lv_lconst (v := 1) hx hb dX5_goalOf_40 (by decide) ?_
    refine lv_land hx hb dX5_goalOf_41 ?_
    refine lv_lconst (v := 0) hx hb dX5_goalOf_42 (by decide) ?_
    refine W.lcmp hx hb dX5_goalOf_43 ?_
    refine lv_if_eq (tgt := 59) hx hb dX5_goalOf_44 (by decide) (fun c11 => ?_) (fun c11 => ?_)
    · have hf := it_t c11 hf
      exact tX5_goalOf_59 hC F hj rec13 hrec13 x a2 a3 a4 a6 a7 hf H locs ls hP hS (lv_sub hl [1, 2, 3, 4, 5, 6] rfl)
    · have hf := it_f c11 hf
      refine lv_iload hx hb dX5_goalOf_47 (lv_at hl 5 rfl) ?_
      refine lv_iload_n hx hb dX5_goalOf_49 rfl (lv_at hl 3 rfl) ?_
      refine lv_icmp_ne (tgt := 56) hx hb dX5_goalOf_50 (by decide) (fun c12 => ?_) (fun c12 => ?_)
      · have hf := it_f c12 hf
        obtain ⟨b13, e14, hf⟩ := lt_some hf
        refine lv_iinc (v := b13) (lv' := [(6, .int b13), (8, .int b9), (0, .ref (ad 63)), (2, .int a2), (3, .int a3), (4, .long a4), (7, .int a7)]) hx hb dX5_goalOf_56 hl (k := 5) rfl (by rw [e14]; rfl) (by decide) rfl (fun ls hl => ?_)
        exact tX5_goalOf_59 hC F hj rec13 hrec13 x a2 a3 a4 b13 a7 hf H locs ls hP hS (lv_sub hl [2, 3, 4, 5, 0, 6] rfl)
      · have hf := it_t c12 hf
        refine lv_iload hx hb dX5_goalOf_53 (lv_at hl 0 rfl) ?_
        exact gIret hC hP hS hf dX5_goalOf_55
theorem tX5_goalOf_13 (hC : Cf p s m args meth c cX5_goalOf 9 RX5 (some .int) D cy tX tY ad A 93) (F : Nat) {z : Int32 × HT} {j : Nat} (hj : j < 8) : ∀ (n9 : Nat) (x : HT) (a2 : Int32) (a3 : Int32) (a4 : Int64) (a6 : Int32) (a7 : Int32), fX5_goalOf_13 F j n9 x a2 a3 a4 a6 a7 = some z → Wd p l e { frames := 2, cells := 0, slots := 0, locals := 44 } s m args below meth c D (eX cy ad) 93 ad A (cQi (eX cy ad) 93 ad D A z) 9 13 [(0, .ref (ad 63)), (2, .int a2), (3, .int a3), (4, .long a4), (6, .int a6), (7, .int a7)] [] x := by
  intro n9
  induction n9 with
  | zero => intro x a2 a3 a4 a6 a7 hf; cases hf
  | succ n9 ih => intro x a2 a3 a4 a6 a7 hf; exact tX5_goalOf_13b hC F hj (fX5_goalOf_13 F j n9) ih x a2 a3 a4 a6 a7 hf
set_option maxHeartbeats 4000000 in
set_option maxRecDepth 100000 in
theorem kX5_goalOf (l : Launch) (D : va_G) (cy : Nat → ClassId) (tX tY : Nat) (ad : Nat → Nat) (A : Nat → Prop) (hA : apart ad A 93) (F : Nat) {j : Nat} (hj : j < 8) (x : HT) (a2 : Int32) (a3 : Int32) {z : Int32 × HT} (hf : fX5_goalOf F j x a2 a3 = some z) : Met l yX5_goalOf (Cond.code yX5_goalOf cX5_goalOf 9 (some .int) :: wAll) { frames := 2, cells := 0, slots := 0, locals := 44 } (cPc (eX cy ad) 93 ad D cy tX tY A [.ref (ad 63), .ref (ad (7 * j + 1)), .int a2, .int a3] x) (cQi (eX cy ad) 93 ad D A z) 0 0 A := by
  refine gMet hA (by decide) (Nat.le_of_ble_eq_true rfl) (fun p e s m below meth c hC H locs ls hP hS hl => ?_)
  have hC : Cf p s m _ meth c cX5_goalOf 9 RX5 (some .int) D cy tX tY ad A 93 := hC
  have hl : lv_has ls 9 [(0, .ref (ad 63)), (1, .ref (ad (7 * j + 1))), (2, .int a2), (3, .int a3)] := hl
  obtain ⟨hx, hb, -⟩ := id hC
  refine lv_aload_n hx hb dX5_goalOf_0 rfl (lv_at hl 1 rfl) ?_
  refine lv_iload_n hx hb dX5_goalOf_1 rfl (lv_at hl 2 rfl) ?_
  obtain ⟨r2, x1, e3, hf⟩ := bd_some hf
  refine gVl (As := [.int a2]) (rest := []) (k := (7 * j + 1)) hC hP hS (kX2_goalsOfWorm l D cy tX tY ad A hC.2.2.2.2.2.2.2.2.1 F (j := j) hj x a2 e3) glX5_23 ⟨rfl, rfl⟩ hdX2_goalsOfWorm ⟨Nat.le_of_ble_eq_true rfl, Nat.le_of_ble_eq_true rfl⟩ (by omega) (eX_S hj cy ad _ _) rfl rfl hl.1 rfl (Nat.le_of_ble_eq_true rfl) dX5_goalOf_2 ⟨Nat.zero_le _, Nat.zero_le _⟩ (fun H locs hP hS => ?_)
  refine lv_lstore (lv' := [(4, .long r2), (0, .ref (ad 63)), (1, .ref (ad (7 * j + 1))), (2, .int a2), (3, .int a3)]) hx hb dX5_goalOf_5 hl (by decide) rfl (fun ls hl => ?_)
  refine lv_iconst (v := 0) hx hb dX5_goalOf_7 (by decide) ?_
  refine lv_istore (lv' := [(6, .int (0 : Int32)), (4, .long r2), (0, .ref (ad 63)), (1, .ref (ad (7 * j + 1))), (2, .int a2), (3, .int a3)]) hx hb dX5_goalOf_8 hl (by decide) rfl (fun ls hl => ?_)
  refine lv_iconst (v := 1) hx hb dX5_goalOf_10 (by decide) ?_
  refine lv_istore (lv' := [(7, .int (1 : Int32)), (6, .int (0 : Int32)), (4, .long r2), (0, .ref (ad 63)), (1, .ref (ad (7 * j + 1))), (2, .int a2), (3, .int a3)]) hx hb dX5_goalOf_11 hl (by decide) rfl (fun ls hl => ?_)
  exact tX5_goalOf_13 hC F hj F x1 a2 a3 r2 (0 : Int32) (1 : Int32) hf H locs ls hP hS (lv_sub hl [3, 5, 6, 2, 1, 0] rfl)
set_option maxHeartbeats 4000000 in
set_option maxRecDepth 100000 in
theorem tX6_goalAt_13 (hC : Cf p s m args meth c cX6_goalAt 5 RX6 (some .int) D cy tX tY ad A 93) (F : Nat) {z : Int32 × HT} : ∀ (x : HT), fX6_goalAt_13 F x = some z → Wd p l e { frames := 3, cells := 0, slots := 0, locals := 72 } s m args below meth c D (eX cy ad) 93 ad A (cQi (eX cy ad) 93 ad D A z) 5 13 [(0, .ref (ad 0))] [] x := by
  intro x hf H locs ls hP hS hl
  obtain ⟨hx, hb, -⟩ := id hC
  refine lv_aload_n hx hb dX6_goalAt_13 rfl (lv_at hl 0 rfl) ?_
  refine lv_bipush (v := -2) hx hb dX6_goalAt_14 (by decide) ?_
  obtain ⟨r14, x13, e15, hf⟩ := bd_some hf
  refine gVi (As := [.int (-2 : Int32)]) (rest := []) (k := 0) hC hP hS (kX6_refuse l D cy tX tY ad A hC.2.2.2.2.2.2.2.2.1 F x (-2 : Int32) e15) glX6_100 ⟨rfl, rfl⟩ hdX6_refuse ⟨Nat.le_of_ble_eq_true rfl, Nat.le_of_ble_eq_true rfl⟩ (by decide) (eX_0 cy ad _ _) rfl rfl hl.1 rfl (Nat.le_of_ble_eq_true rfl) dX6_goalAt_16 ⟨Nat.zero_le _, Nat.zero_le _⟩ (fun H locs hP hS => ?_)
  exact gIret hC hP hS hf dX6_goalAt_19
set_option maxHeartbeats 4000000 in
set_option maxRecDepth 100000 in
theorem kX6_goalAt (l : Launch) (D : va_G) (cy : Nat → ClassId) (tX tY : Nat) (ad : Nat → Nat) (A : Nat → Prop) (hA : apart ad A 93) (F : Nat) (x : HT) (a1 : Int32) (a2 : Int32) (a3 : Int32) {z : Int32 × HT} (hf : fX6_goalAt F x a1 a2 a3 = some z) : Met l yX6_goalAt (Cond.code yX6_goalAt cX6_goalAt 5 (some .int) :: wAll) { frames := 3, cells := 0, slots := 0, locals := 72 } (cPc (eX cy ad) 93 ad D cy tX tY A [.ref (ad 0), .int a1, .int a2, .int a3] x) (cQi (eX cy ad) 93 ad D A z) 0 0 A := by
  refine gMet hA (by decide) (Nat.le_of_ble_eq_true rfl) (fun p e s m below meth c hC H locs ls hP hS hl => ?_)
  have hC : Cf p s m _ meth c cX6_goalAt 5 RX6 (some .int) D cy tX tY ad A 93 := hC
  have hl : lv_has ls 5 [(0, .ref (ad 0)), (1, .int a1), (2, .int a2), (3, .int a3)] := hl
  obtain ⟨hx, hb, -⟩ := id hC
  refine lv_aload_n hx hb dX6_goalAt_0 rfl (lv_at hl 0 rfl) ?_
  refine lv_iload_n hx hb dX6_goalAt_1 rfl (lv_at hl 1 rfl) ?_
  refine lv_iload_n hx hb dX6_goalAt_2 rfl (lv_at hl 2 rfl) ?_
  obtain ⟨r2, x1, e3, hf⟩ := bd_some hf
  refine gVi (As := [.int a1, .int a2]) (rest := []) (k := 0) hC hP hS (kX6_hasWorm l D cy tX tY ad A hC.2.2.2.2.2.2.2.2.1 F x a1 a2 e3) glX6_126 ⟨rfl, rfl⟩ hdX6_hasWorm ⟨Nat.le_of_ble_eq_true rfl, Nat.le_of_ble_eq_true rfl⟩ (by decide) (eX_0 cy ad _ _) rfl rfl hl.1 rfl (Nat.le_of_ble_eq_true rfl) dX6_goalAt_3 ⟨Nat.zero_le _, Nat.zero_le _⟩ (fun H locs hP hS => ?_)
  refine lv_if_eq (tgt := 13) hx hb dX6_goalAt_6 (by decide) (fun c4 => ?_) (fun c4 => ?_)
  · have hf := it_t c4 hf
    exact tX6_goalAt_13 hC F x1 hf H locs ls hP hS (lv_sub hl [0] rfl)
  · have hf := it_f c4 hf
    refine lv_iload_n hx hb dX6_goalAt_9 rfl (lv_at hl 3 rfl) ?_
    refine lv_if_ge (tgt := 20) hx hb dX6_goalAt_10 (by decide) (fun c5 => ?_) (fun c5 => ?_)
    · have hf := it_t c5 hf
      refine lv_aload_n hx hb dX6_goalAt_20 rfl (lv_at hl 0 rfl) ?_
      refine gfX6_39 hC hP dX6_goalAt_21 ?_
      refine lv_aload_n hx hb dX6_goalAt_24 rfl (lv_at hl 0 rfl) ?_
      refine gfX6_12 hC hP dX6_goalAt_25 ?_
      refine lv_iload_n hx hb dX6_goalAt_28 rfl (lv_at hl 1 rfl) ?_
      refine lv_iconst (v := 2) hx hb dX6_goalAt_29 (by decide) ?_
      refine lv_imul hx hb dX6_goalAt_30 ?_
      refine lv_iload_n hx hb dX6_goalAt_31 rfl (lv_at hl 2 rfl) ?_
      refine lv_iadd hx hb dX6_goalAt_32 ?_
      refine lv_iload_n hx hb dX6_goalAt_33 rfl (lv_at hl 3 rfl) ?_
      obtain ⟨r7, x6, e8, hf⟩ := bd_some hf
      refine gVi (As := [.ref (ad (7 * 0 + 1)), .int ((a1 * (2 : Int32)) + a2), .int a3]) (rest := []) (k := 63) hC hP hS (kX5_goalOf l D cy tX tY ad A hC.2.2.2.2.2.2.2.2.1 F (j := 0) (by decide) x1 ((a1 * (2 : Int32)) + a2) a3 e8) glX6_138 ⟨rfl, rfl⟩ hdX5_goalOf ⟨Nat.le_of_ble_eq_true rfl, Nat.le_of_ble_eq_true rfl⟩ (by decide) (eX_63 cy ad _ _) rfl rfl hl.1 rfl (Nat.le_of_ble_eq_true rfl) dX6_goalAt_34 ⟨Nat.zero_le _, Nat.zero_le _⟩ (fun H locs hP hS => ?_)
      refine lv_istore (lv' := [(4, .int r7), (0, .ref (ad 0)), (1, .int a1), (2, .int a2), (3, .int a3)]) hx hb dX6_goalAt_37 hl (by decide) rfl (fun ls hl => ?_)
      refine lv_iload hx hb dX6_goalAt_39 (lv_at hl 0 rfl) ?_
      refine lv_iconst (v := -1) hx hb dX6_goalAt_41 (by decide) ?_
      refine lv_icmp_ne (tgt := 49) hx hb dX6_goalAt_42 (by decide) (fun c9 => ?_) (fun c9 => ?_)
      · have hf := it_f c9 hf
        refine lv_aload_n hx hb dX6_goalAt_49 rfl (lv_at hl 1 rfl) ?_
        refine gfX6_32 hC hP dX6_goalAt_50 ?_
        refine lv_iload hx hb dX6_goalAt_53 (lv_at hl 0 rfl) ?_
        obtain ⟨r11, x10, e12, hf⟩ := bd_some hf
        refine gVi (As := [.int r7]) (rest := []) (k := 59) hC hP hS (kX0_tell l D cy tX tY ad A hC.2.2.2.2.2.2.2.2.1 F x6 r7 e12) glX6_107 ⟨rfl, rfl⟩ hdX0_tell ⟨Nat.le_of_ble_eq_true rfl, Nat.le_of_ble_eq_true rfl⟩ (by decide) (eX_59 cy ad _ _) rfl rfl hl.1 rfl (Nat.le_of_ble_eq_true rfl) dX6_goalAt_55 ⟨Nat.zero_le _, Nat.zero_le _⟩ (fun H locs hP hS => ?_)
        exact gIret hC hP hS hf dX6_goalAt_58
      · have hf := it_t c9 hf
        refine lv_iconst (v := -1) hx hb dX6_goalAt_45 (by decide) ?_
        refine lv_goto (tgt := 58) hx hb dX6_goalAt_46 (by decide) ?_
        exact gIret hC hP hS hf dX6_goalAt_58
    · have hf := it_f c5 hf
      exact tX6_goalAt_13 hC F x1 hf H locs ls hP hS (lv_sub hl [0] rfl)
set_option maxHeartbeats 4000000 in
set_option maxRecDepth 100000 in
theorem kX0_xOf (l : Launch) (D : va_G) (cy : Nat → ClassId) (tX tY : Nat) (ad : Nat → Nat) (A : Nat → Prop) (hA : apart ad A 93) (F : Nat) (x : HT) (a1 : Int32) {z : Int32 × HT} (hf : fX0_xOf F x a1 = some z) : Met l yX0_xOf (Cond.code yX0_xOf cX0_xOf 2 (some .int) :: wAll) { frames := 2, cells := 0, slots := 0, locals := 41 } (cPc (eX cy ad) 93 ad D cy tX tY A [.ref (ad 59), .int a1] x) (cQi (eX cy ad) 93 ad D A z) 0 0 A := by
  refine gMet hA (by decide) (Nat.le_of_ble_eq_true rfl) (fun p e s m below meth c hC H locs ls hP hS hl => ?_)
  have hC : Cf p s m _ meth c cX0_xOf 2 RX0 (some .int) D cy tX tY ad A 93 := hC
  have hl : lv_has ls 2 [(0, .ref (ad 59)), (1, .int a1)] := hl
  obtain ⟨hx, hb, -⟩ := id hC
  refine lv_aload_n hx hb dX0_xOf_0 rfl (lv_at hl 0 rfl) ?_
  refine lv_iload_n hx hb dX0_xOf_1 rfl (lv_at hl 1 rfl) ?_
  obtain ⟨r2, x1, e3, hf⟩ := bd_some hf
  refine gVi (As := [.int a1]) (rest := []) (k := 59) hC hP hS (kX0_hasLabel l D cy tX tY ad A hC.2.2.2.2.2.2.2.2.1 F x a1 e3) glX0_50 ⟨rfl, rfl⟩ hdX0_hasLabel ⟨Nat.le_of_ble_eq_true rfl, Nat.le_of_ble_eq_true rfl⟩ (by decide) (eX_59 cy ad _ _) rfl rfl hl.1 rfl (Nat.le_of_ble_eq_true rfl) dX0_xOf_2 ⟨Nat.zero_le _, Nat.zero_le _⟩ (fun H locs hP hS => ?_)
  refine lv_if_eq (tgt := 17) hx hb dX0_xOf_5 (by decide) (fun c4 => ?_) (fun c4 => ?_)
  · have hf := it_t c4 hf
    refine lv_iconst (v := -1) hx hb dX0_xOf_17 (by decide) ?_
    exact gIret hC hP hS hf dX0_xOf_18
  · have hf := it_f c4 hf
    refine lv_aload_n hx hb dX0_xOf_8 rfl (lv_at hl 0 rfl) ?_
    refine gfX0_9 hC hP dX0_xOf_9 ?_
    refine lv_iload_n hx hb dX0_xOf_12 rfl (lv_at hl 1 rfl) ?_
    obtain ⟨h5, hf⟩ := ck_some hf
    refine gIal hC hP 60 (by decide) (eX_60 cy ad _ _) h5 dX0_xOf_13 ?_
    refine lv_goto (tgt := 18) hx hb dX0_xOf_14 (by decide) ?_
    exact gIret hC hP hS hf dX0_xOf_18
set_option maxHeartbeats 4000000 in
set_option maxRecDepth 100000 in
theorem kX0_yOf (l : Launch) (D : va_G) (cy : Nat → ClassId) (tX tY : Nat) (ad : Nat → Nat) (A : Nat → Prop) (hA : apart ad A 93) (F : Nat) (x : HT) (a1 : Int32) {z : Int32 × HT} (hf : fX0_yOf F x a1 = some z) : Met l yX0_yOf (Cond.code yX0_yOf cX0_yOf 2 (some .int) :: wAll) { frames := 2, cells := 0, slots := 0, locals := 41 } (cPc (eX cy ad) 93 ad D cy tX tY A [.ref (ad 59), .int a1] x) (cQi (eX cy ad) 93 ad D A z) 0 0 A := by
  refine gMet hA (by decide) (Nat.le_of_ble_eq_true rfl) (fun p e s m below meth c hC H locs ls hP hS hl => ?_)
  have hC : Cf p s m _ meth c cX0_yOf 2 RX0 (some .int) D cy tX tY ad A 93 := hC
  have hl : lv_has ls 2 [(0, .ref (ad 59)), (1, .int a1)] := hl
  obtain ⟨hx, hb, -⟩ := id hC
  refine lv_aload_n hx hb dX0_yOf_0 rfl (lv_at hl 0 rfl) ?_
  refine lv_iload_n hx hb dX0_yOf_1 rfl (lv_at hl 1 rfl) ?_
  obtain ⟨r2, x1, e3, hf⟩ := bd_some hf
  refine gVi (As := [.int a1]) (rest := []) (k := 59) hC hP hS (kX0_hasLabel l D cy tX tY ad A hC.2.2.2.2.2.2.2.2.1 F x a1 e3) glX0_50 ⟨rfl, rfl⟩ hdX0_hasLabel ⟨Nat.le_of_ble_eq_true rfl, Nat.le_of_ble_eq_true rfl⟩ (by decide) (eX_59 cy ad _ _) rfl rfl hl.1 rfl (Nat.le_of_ble_eq_true rfl) dX0_yOf_2 ⟨Nat.zero_le _, Nat.zero_le _⟩ (fun H locs hP hS => ?_)
  refine lv_if_eq (tgt := 17) hx hb dX0_yOf_5 (by decide) (fun c4 => ?_) (fun c4 => ?_)
  · have hf := it_t c4 hf
    refine lv_iconst (v := -1) hx hb dX0_yOf_17 (by decide) ?_
    exact gIret hC hP hS hf dX0_yOf_18
  · have hf := it_f c4 hf
    refine lv_aload_n hx hb dX0_yOf_8 rfl (lv_at hl 0 rfl) ?_
    refine gfX0_15 hC hP dX0_yOf_9 ?_
    refine lv_iload_n hx hb dX0_yOf_12 rfl (lv_at hl 1 rfl) ?_
    obtain ⟨h5, hf⟩ := ck_some hf
    refine gIal hC hP 61 (by decide) (eX_61 cy ad _ _) h5 dX0_yOf_13 ?_
    refine lv_goto (tgt := 18) hx hb dX0_yOf_14 (by decide) ?_
    exact gIret hC hP hS hf dX0_yOf_18
set_option maxHeartbeats 4000000 in
set_option maxRecDepth 100000 in
theorem tX6_straightWays_53 (hC : Cf p s m args meth c cX6_straightWays 4 RX6 (some .int) D cy tX tY ad A 93) (F : Nat) {z : Int32 × HT} (rec4 : HT → Int32 → Int32 → Int32 → Option (Int32 × HT)) (hrec4 : ∀ (x : HT) (a1 : Int32) (a2 : Int32) (a3 : Int32), rec4 x a1 a2 a3 = some z → Wd p l e { frames := 2, cells := 0, slots := 0, locals := 51 } s m args below meth c D (eX cy ad) 93 ad A (cQi (eX cy ad) 93 ad D A z) 4 4 [(0, .ref (ad 0)), (1, .int a1), (2, .int a2), (3, .int a3)] [] x) : ∀ (x : HT) (a1 : Int32) (a2 : Int32) (a3 : Int32), fX6_straightWays_53 F rec4 x a1 a2 a3 = some z → Wd p l e { frames := 2, cells := 0, slots := 0, locals := 51 } s m args below meth c D (eX cy ad) 93 ad A (cQi (eX cy ad) 93 ad D A z) 4 53 [(0, .ref (ad 0)), (1, .int a1), (2, .int a2), (3, .int a3)] [] x := by
  intro x a1 a2 a3 hf H locs ls hP hS hl
  obtain ⟨hx, hb, -⟩ := id hC
  obtain ⟨b13, e14, hf⟩ := lt_some hf
  refine lv_iinc (v := b13) (lv' := [(3, .int b13), (0, .ref (ad 0)), (1, .int a1), (2, .int a2)]) hx hb dX6_straightWays_53 hl (k := 3) rfl (by rw [e14]; rfl) (by decide) rfl (fun ls hl => ?_)
  refine lv_goto (tgt := 4) hx hb dX6_straightWays_56 (by decide) ?_
  exact hrec4 x a1 a2 b13 hf H locs ls hP hS (lv_sub hl [1, 2, 3, 0] rfl)
set_option maxHeartbeats 4000000 in
set_option maxRecDepth 100000 in
theorem tX6_straightWays_4b (hC : Cf p s m args meth c cX6_straightWays 4 RX6 (some .int) D cy tX tY ad A 93) (F : Nat) {z : Int32 × HT} (rec4 : HT → Int32 → Int32 → Int32 → Option (Int32 × HT)) (hrec4 : ∀ (x : HT) (a1 : Int32) (a2 : Int32) (a3 : Int32), rec4 x a1 a2 a3 = some z → Wd p l e { frames := 2, cells := 0, slots := 0, locals := 51 } s m args below meth c D (eX cy ad) 93 ad A (cQi (eX cy ad) 93 ad D A z) 4 4 [(0, .ref (ad 0)), (1, .int a1), (2, .int a2), (3, .int a3)] [] x) : ∀ (x : HT) (a1 : Int32) (a2 : Int32) (a3 : Int32), fX6_straightWays_4b F rec4 x a1 a2 a3 = some z → Wd p l e { frames := 2, cells := 0, slots := 0, locals := 51 } s m args below meth c D (eX cy ad) 93 ad A (cQi (eX cy ad) 93 ad D A z) 4 4 [(0, .ref (ad 0)), (1, .int a1), (2, .int a2), (3, .int a3)] [] x := by
  intro x a1 a2 a3 hf H locs ls hP hS hl
  obtain ⟨hx, hb, -⟩ := id hC
  refine lv_iload_n hx hb dX6_straightWays_4 rfl (lv_at hl 3 rfl) ?_
  refine lv_aload_n hx hb dX6_straightWays_5 rfl (lv_at hl 0 rfl) ?_
  refine gfX6_32 hC hP dX6_straightWays_6 ?_
  obtain ⟨r2, x1, e3, hf⟩ := bd_some hf
  refine gVi (As := []) (rest := [.int a3]) (k := 59) hC hP hS (kX0_places l D cy tX tY ad A hC.2.2.2.2.2.2.2.2.1 F x e3) glX6_197 ⟨rfl, rfl⟩ hdX0_places ⟨Nat.le_of_ble_eq_true rfl, Nat.le_of_ble_eq_true rfl⟩ (by decide) (eX_59 cy ad _ _) rfl rfl hl.1 rfl (Nat.le_of_ble_eq_true rfl) dX6_straightWays_9 ⟨Nat.zero_le _, Nat.zero_le _⟩ (fun H locs hP hS => ?_)
  refine lv_icmp_ge (tgt := 59) hx hb dX6_straightWays_12 (by decide) (fun c4 => ?_) (fun c4 => ?_)
  · have hf := it_t c4 hf
    refine lv_iload_n hx hb dX6_straightWays_59 rfl (lv_at hl 2 rfl) ?_
    exact gIret hC hP hS hf dX6_straightWays_60
  · have hf := it_f c4 hf
    refine lv_aload_n hx hb dX6_straightWays_15 rfl (lv_at hl 0 rfl) ?_
    refine gfX6_12 hC hP dX6_straightWays_16 ?_
    refine gfX6_233 hC hP (by decide) dX6_straightWays_19 ?_
    refine lv_iload_n hx hb dX6_straightWays_22 rfl (lv_at hl 1 rfl) ?_
    obtain ⟨h5, hf⟩ := ck_some hf
    refine gLal hC hP (7 * 0 + 5) (by omega) (eX_S4 (by decide) cy ad _ _) h5 dX6_straightWays_23 ?_
    refine lv_iload_n hx hb dX6_straightWays_24 rfl (lv_at hl 3 rfl) ?_
    refine lv_lshr hx hb dX6_straightWays_25 rfl ?_
    refine lv_lconst (v := 1) hx hb dX6_straightWays_26 (by decide) ?_
    refine lv_land hx hb dX6_straightWays_27 ?_
    refine lv_lconst (v := 0) hx hb dX6_straightWays_28 (by decide) ?_
    refine W.lcmp hx hb dX6_straightWays_29 ?_
    refine lv_if_eq (tgt := 53) hx hb dX6_straightWays_30 (by decide) (fun c6 => ?_) (fun c6 => ?_)
    · have hf := it_t c6 hf
      exact tX6_straightWays_53 hC F rec4 hrec4 x1 a1 a2 a3 hf H locs ls hP hS (lv_sub hl [0, 1, 2, 3] rfl)
    · have hf := it_f c6 hf
      refine lv_iload_n hx hb dX6_straightWays_33 rfl (lv_at hl 2 rfl) ?_
      refine lv_aload_n hx hb dX6_straightWays_34 rfl (lv_at hl 0 rfl) ?_
      refine gfX6_32 hC hP dX6_straightWays_35 ?_
      refine lv_aload_n hx hb dX6_straightWays_38 rfl (lv_at hl 0 rfl) ?_
      refine gfX6_12 hC hP dX6_straightWays_39 ?_
      refine gfX6_226 hC hP (by decide) dX6_straightWays_42 ?_
      refine lv_iload_n hx hb dX6_straightWays_45 rfl (lv_at hl 1 rfl) ?_
      obtain ⟨h7, hf⟩ := ck_some hf
      refine gIal hC hP (7 * 0 + 3) (by omega) (eX_S2 (by decide) cy ad _ _) h7 dX6_straightWays_46 ?_
      refine lv_iload_n hx hb dX6_straightWays_47 rfl (lv_at hl 3 rfl) ?_
      obtain ⟨r9, x8, e10, hf⟩ := bd_some hf
      refine gVi (As := [.int (x1.1 (7 * 0 + 3) a1.toNatClampNeg), .int a3]) (rest := [.int a2]) (k := 59) hC hP hS (kX0_distance l D cy tX tY ad A hC.2.2.2.2.2.2.2.2.1 F x1 (x1.1 (7 * 0 + 3) a1.toNatClampNeg) a3 e10) glX6_116 ⟨rfl, rfl⟩ hdX0_distance ⟨Nat.le_of_ble_eq_true rfl, Nat.le_of_ble_eq_true rfl⟩ (by decide) (eX_59 cy ad _ _) rfl rfl hl.1 rfl (Nat.le_of_ble_eq_true rfl) dX6_straightWays_48 ⟨Nat.zero_le _, Nat.zero_le _⟩ (fun H locs hP hS => ?_)
      refine lv_iadd hx hb dX6_straightWays_51 ?_
      refine lv_topi (fun b11 e12 => ?_)
      have hf := lt_use e12 hf
      refine lv_istore_n (lv' := [(2, .int b11), (0, .ref (ad 0)), (1, .int a1), (3, .int a3)]) hx hb dX6_straightWays_52 rfl hl (by decide) rfl (fun ls hl => ?_)
      exact tX6_straightWays_53 hC F rec4 hrec4 x8 a1 b11 a3 hf H locs ls hP hS (lv_sub hl [1, 2, 0, 3] rfl)
theorem tX6_straightWays_4 (hC : Cf p s m args meth c cX6_straightWays 4 RX6 (some .int) D cy tX tY ad A 93) (F : Nat) {z : Int32 × HT} : ∀ (n9 : Nat) (x : HT) (a1 : Int32) (a2 : Int32) (a3 : Int32), fX6_straightWays_4 F n9 x a1 a2 a3 = some z → Wd p l e { frames := 2, cells := 0, slots := 0, locals := 51 } s m args below meth c D (eX cy ad) 93 ad A (cQi (eX cy ad) 93 ad D A z) 4 4 [(0, .ref (ad 0)), (1, .int a1), (2, .int a2), (3, .int a3)] [] x := by
  intro n9
  induction n9 with
  | zero => intro x a1 a2 a3 hf; cases hf
  | succ n9 ih => intro x a1 a2 a3 hf; exact tX6_straightWays_4b hC F (fX6_straightWays_4 F n9) ih x a1 a2 a3 hf
set_option maxHeartbeats 4000000 in
set_option maxRecDepth 100000 in
theorem kX6_straightWays (l : Launch) (D : va_G) (cy : Nat → ClassId) (tX tY : Nat) (ad : Nat → Nat) (A : Nat → Prop) (hA : apart ad A 93) (F : Nat) (x : HT) (a1 : Int32) {z : Int32 × HT} (hf : fX6_straightWays F x a1 = some z) : Met l yX6_straightWays (Cond.code yX6_straightWays cX6_straightWays 4 (some .int) :: wAll) { frames := 2, cells := 0, slots := 0, locals := 51 } (cPc (eX cy ad) 93 ad D cy tX tY A [.ref (ad 0), .int a1] x) (cQi (eX cy ad) 93 ad D A z) 0 0 A := by
  refine gMet hA (by decide) (Nat.le_of_ble_eq_true rfl) (fun p e s m below meth c hC H locs ls hP hS hl => ?_)
  have hC : Cf p s m _ meth c cX6_straightWays 4 RX6 (some .int) D cy tX tY ad A 93 := hC
  have hl : lv_has ls 4 [(0, .ref (ad 0)), (1, .int a1)] := hl
  obtain ⟨hx, hb, -⟩ := id hC
  refine lv_iconst (v := 0) hx hb dX6_straightWays_0 (by decide) ?_
  refine lv_istore_n (lv' := [(2, .int (0 : Int32)), (0, .ref (ad 0)), (1, .int a1)]) hx hb dX6_straightWays_1 rfl hl (by decide) rfl (fun ls hl => ?_)
  refine lv_iconst (v := 0) hx hb dX6_straightWays_2 (by decide) ?_
  refine lv_istore_n (lv' := [(3, .int (0 : Int32)), (2, .int (0 : Int32)), (0, .ref (ad 0)), (1, .int a1)]) hx hb dX6_straightWays_3 rfl hl (by decide) rfl (fun ls hl => ?_)
  exact tX6_straightWays_4 hC F F x a1 (0 : Int32) (0 : Int32) hf H locs ls hP hS (lv_sub hl [2, 3, 1, 0] rfl)
set_option maxHeartbeats 4000000 in
set_option maxRecDepth 100000 in
theorem kX6_messageFact (l : Launch) (D : va_G) (cy : Nat → ClassId) (tX tY : Nat) (ad : Nat → Nat) (A : Nat → Prop) (hA : apart ad A 93) (F : Nat) (x : HT) (a1 : Int32) (a2 : Int32) {z : Int32 × HT} (hf : fX6_messageFact F x a1 a2 = some z) : Met l yX6_messageFact (Cond.code yX6_messageFact cX6_messageFact 3 (some .int) :: wAll) { frames := 3, cells := 0, slots := 0, locals := 74 } (cPc (eX cy ad) 93 ad D cy tX tY A [.ref (ad 0), .int a1, .int a2] x) (cQi (eX cy ad) 93 ad D A z) 0 0 A := by
  refine gMet hA (by decide) (Nat.le_of_ble_eq_true rfl) (fun p e s m below meth c hC H locs ls hP hS hl => ?_)
  have hC : Cf p s m _ meth c cX6_messageFact 3 RX6 (some .int) D cy tX tY ad A 93 := hC
  have hl : lv_has ls 3 [(0, .ref (ad 0)), (1, .int a1), (2, .int a2)] := hl
  obtain ⟨hx, hb, -⟩ := id hC
  refine lv_iload_n hx hb dX6_messageFact_0 rfl (lv_at hl 2 rfl) ?_
  by_cases c1 : a2 = (0 : Int32)
  · have hf := it_t c1 hf
    refine lv_tableIn (tgt := 36) (off := 35) hx hb dX6_messageFact_1 (by rw [c1]; decide) (by rw [c1]; decide) (by rw [c1]; decide) (by decide) ?_
    refine lv_aload_n hx hb dX6_messageFact_36 rfl (lv_at hl 0 rfl) ?_
    refine gfX6_32 hC hP dX6_messageFact_37 ?_
    refine lv_aload_n hx hb dX6_messageFact_40 rfl (lv_at hl 0 rfl) ?_
    refine gfX6_12 hC hP dX6_messageFact_41 ?_
    refine gfX6_226 hC hP (by decide) dX6_messageFact_44 ?_
    refine lv_iload_n hx hb dX6_messageFact_47 rfl (lv_at hl 1 rfl) ?_
    obtain ⟨h2, hf⟩ := ck_some hf
    refine gIal hC hP (7 * 0 + 3) (by omega) (eX_S2 (by decide) cy ad _ _) h2 dX6_messageFact_48 ?_
    obtain ⟨r4, x3, e5, hf⟩ := bd_some hf
    refine gVi (As := [.int (x.1 (7 * 0 + 3) a1.toNatClampNeg)]) (rest := []) (k := 59) hC hP hS (kX0_xOf l D cy tX tY ad A hC.2.2.2.2.2.2.2.2.1 F x (x.1 (7 * 0 + 3) a1.toNatClampNeg) e5) glX6_286 ⟨rfl, rfl⟩ hdX0_xOf ⟨Nat.le_of_ble_eq_true rfl, Nat.le_of_ble_eq_true rfl⟩ (by decide) (eX_59 cy ad _ _) rfl rfl hl.1 rfl (Nat.le_of_ble_eq_true rfl) dX6_messageFact_49 ⟨Nat.zero_le _, Nat.zero_le _⟩ (fun H locs hP hS => ?_)
    exact gIret hC hP hS hf dX6_messageFact_52
  have hf := it_f c1 hf
  by_cases c6 : a2 = (1 : Int32)
  · have hf := it_t c6 hf
    refine lv_tableIn (tgt := 53) (off := 52) hx hb dX6_messageFact_1 (by rw [c6]; decide) (by rw [c6]; decide) (by rw [c6]; decide) (by decide) ?_
    refine lv_aload_n hx hb dX6_messageFact_53 rfl (lv_at hl 0 rfl) ?_
    refine gfX6_32 hC hP dX6_messageFact_54 ?_
    refine lv_aload_n hx hb dX6_messageFact_57 rfl (lv_at hl 0 rfl) ?_
    refine gfX6_12 hC hP dX6_messageFact_58 ?_
    refine gfX6_226 hC hP (by decide) dX6_messageFact_61 ?_
    refine lv_iload_n hx hb dX6_messageFact_64 rfl (lv_at hl 1 rfl) ?_
    obtain ⟨h7, hf⟩ := ck_some hf
    refine gIal hC hP (7 * 0 + 3) (by omega) (eX_S2 (by decide) cy ad _ _) h7 dX6_messageFact_65 ?_
    obtain ⟨r9, x8, e10, hf⟩ := bd_some hf
    refine gVi (As := [.int (x.1 (7 * 0 + 3) a1.toNatClampNeg)]) (rest := []) (k := 59) hC hP hS (kX0_yOf l D cy tX tY ad A hC.2.2.2.2.2.2.2.2.1 F x (x.1 (7 * 0 + 3) a1.toNatClampNeg) e10) glX6_289 ⟨rfl, rfl⟩ hdX0_yOf ⟨Nat.le_of_ble_eq_true rfl, Nat.le_of_ble_eq_true rfl⟩ (by decide) (eX_59 cy ad _ _) rfl rfl hl.1 rfl (Nat.le_of_ble_eq_true rfl) dX6_messageFact_66 ⟨Nat.zero_le _, Nat.zero_le _⟩ (fun H locs hP hS => ?_)
    exact gIret hC hP hS hf dX6_messageFact_69
  have hf := it_f c6 hf
  by_cases c11 : a2 = (2 : Int32)
  · have hf := it_t c11 hf
    refine lv_tableIn (tgt := 70) (off := 69) hx hb dX6_messageFact_1 (by rw [c11]; decide) (by rw [c11]; decide) (by rw [c11]; decide) (by decide) ?_
    refine lv_aload_n hx hb dX6_messageFact_70 rfl (lv_at hl 0 rfl) ?_
    refine gfX6_12 hC hP dX6_messageFact_71 ?_
    refine gfX6_292 hC hP (by decide) dX6_messageFact_74 ?_
    refine lv_iload_n hx hb dX6_messageFact_77 rfl (lv_at hl 1 rfl) ?_
    obtain ⟨h12, hf⟩ := ck_some hf
    refine gIal hC hP (7 * 0 + 4) (by omega) (eX_S3 (by decide) cy ad _ _) h12 dX6_messageFact_78 ?_
    exact gIret hC hP hS hf dX6_messageFact_79
  have hf := it_f c11 hf
  by_cases c13 : a2 = (3 : Int32)
  · have hf := it_t c13 hf
    refine lv_tableIn (tgt := 80) (off := 79) hx hb dX6_messageFact_1 (by rw [c13]; decide) (by rw [c13]; decide) (by rw [c13]; decide) (by decide) ?_
    refine lv_aload_n hx hb dX6_messageFact_80 rfl (lv_at hl 0 rfl) ?_
    refine gfX6_12 hC hP dX6_messageFact_81 ?_
    refine gfX6_233 hC hP (by decide) dX6_messageFact_84 ?_
    refine lv_iload_n hx hb dX6_messageFact_87 rfl (lv_at hl 1 rfl) ?_
    obtain ⟨h14, hf⟩ := ck_some hf
    refine gLal hC hP (7 * 0 + 5) (by omega) (eX_S4 (by decide) cy ad _ _) h14 dX6_messageFact_88 ?_
    obtain ⟨r16, x15, e17, hf⟩ := bd_some hf
    refine gSi (As := [.long (x.2 (7 * 0 + 5) a1.toNatClampNeg)]) (rest := []) hC hP hS (kJ13_bitCount_95d88 l D cy tX tY ad A hC.2.2.2.2.2.2.2.2.1 F x (x.2 (7 * 0 + 5) a1.toNatClampNeg) e17) glX6_237 ⟨rfl, rfl⟩ hdJ13_bitCount_95d88 ⟨Nat.le_of_ble_eq_true rfl, Nat.le_of_ble_eq_true rfl⟩ rfl hl.1 rfl (Nat.le_of_ble_eq_true rfl) dX6_messageFact_89 ⟨Nat.zero_le _, Nat.zero_le _⟩ (fun H locs hP hS => ?_)
    exact gIret hC hP hS hf dX6_messageFact_92
  have hf := it_f c13 hf
  by_cases c18 : a2 = (4 : Int32)
  · have hf := it_t c18 hf
    refine lv_tableIn (tgt := 93) (off := 92) hx hb dX6_messageFact_1 (by rw [c18]; decide) (by rw [c18]; decide) (by rw [c18]; decide) (by decide) ?_
    refine lv_aload_n hx hb dX6_messageFact_93 rfl (lv_at hl 0 rfl) ?_
    refine gfX6_39 hC hP dX6_messageFact_94 ?_
    refine lv_iload_n hx hb dX6_messageFact_97 rfl (lv_at hl 1 rfl) ?_
    refine lv_iconst (v := 2) hx hb dX6_messageFact_98 (by decide) ?_
    refine lv_imul hx hb dX6_messageFact_99 ?_
    obtain ⟨r20, x19, e21, hf⟩ := bd_some hf
    refine gVi (As := [.int (a1 * (2 : Int32))]) (rest := []) (k := 63) hC hP hS (kX5_channelsOf l D cy tX tY ad A hC.2.2.2.2.2.2.2.2.1 F x (a1 * (2 : Int32)) e21) glX6_132 ⟨rfl, rfl⟩ hdX5_channelsOf ⟨Nat.le_of_ble_eq_true rfl, Nat.le_of_ble_eq_true rfl⟩ (by decide) (eX_63 cy ad _ _) rfl rfl hl.1 rfl (Nat.le_of_ble_eq_true rfl) dX6_messageFact_100 ⟨Nat.zero_le _, Nat.zero_le _⟩ (fun H locs hP hS => ?_)
    refine lv_aload_n hx hb dX6_messageFact_103 rfl (lv_at hl 0 rfl) ?_
    refine gfX6_39 hC hP dX6_messageFact_104 ?_
    refine lv_iload_n hx hb dX6_messageFact_107 rfl (lv_at hl 1 rfl) ?_
    refine lv_iconst (v := 2) hx hb dX6_messageFact_108 (by decide) ?_
    refine lv_imul hx hb dX6_messageFact_109 ?_
    refine lv_iconst (v := 1) hx hb dX6_messageFact_110 (by decide) ?_
    refine lv_iadd hx hb dX6_messageFact_111 ?_
    obtain ⟨r23, x22, e24, hf⟩ := bd_some hf
    refine gVi (As := [.int ((a1 * (2 : Int32)) + (1 : Int32))]) (rest := [.int r20]) (k := 63) hC hP hS (kX5_channelsOf l D cy tX tY ad A hC.2.2.2.2.2.2.2.2.1 F x19 ((a1 * (2 : Int32)) + (1 : Int32)) e24) glX6_132 ⟨rfl, rfl⟩ hdX5_channelsOf ⟨Nat.le_of_ble_eq_true rfl, Nat.le_of_ble_eq_true rfl⟩ (by decide) (eX_63 cy ad _ _) rfl rfl hl.1 rfl (Nat.le_of_ble_eq_true rfl) dX6_messageFact_112 ⟨Nat.zero_le _, Nat.zero_le _⟩ (fun H locs hP hS => ?_)
    refine lv_iadd hx hb dX6_messageFact_115 ?_
    exact gIret hC hP hS hf dX6_messageFact_116
  have hf := it_f c18 hf
  refine lv_tableOut (tgt := 117) hx hb dX6_messageFact_1 (by have n0 := lv_neT c1 (a := 0) (by decide); have n1 := lv_neT c6 (a := 1) (by decide); have n2 := lv_neT c11 (a := 2) (by decide); have n3 := lv_neT c13 (a := 3) (by decide); have n4 := lv_neT c18 (a := 4) (by decide); omega) (by decide) ?_
  refine lv_aload_n hx hb dX6_messageFact_117 rfl (lv_at hl 0 rfl) ?_
  refine lv_iload_n hx hb dX6_messageFact_118 rfl (lv_at hl 1 rfl) ?_
  obtain ⟨r26, x25, e27, hf⟩ := bd_some hf
  refine gVi (As := [.int a1]) (rest := []) (k := 0) hC hP hS (kX6_straightWays l D cy tX tY ad A hC.2.2.2.2.2.2.2.2.1 F x a1 e27) glX6_295 ⟨rfl, rfl⟩ hdX6_straightWays ⟨Nat.le_of_ble_eq_true rfl, Nat.le_of_ble_eq_true rfl⟩ (by decide) (eX_0 cy ad _ _) rfl rfl hl.1 rfl (Nat.le_of_ble_eq_true rfl) dX6_messageFact_119 ⟨Nat.zero_le _, Nat.zero_le _⟩ (fun H locs hP hS => ?_)
  exact gIret hC hP hS hf dX6_messageFact_122
