variable {p : Program} {l : Launch} {e : Env} {s : State} {m : MethodId} {args : Array Value} {below : List Frame} {meth : Method} {c : Code} {D : va_G} {cy : Nat → ClassId} {tX tY : Nat} {ad : Nat → Nat} {A : Nat → Prop}
set_option maxHeartbeats 4000000 in
set_option maxRecDepth 100000 in
theorem tX1_popInto_27 (hC : Cf p s m args meth c cX1_popInto 2 RX1 (some .boolean) D cy tX tY ad A 93) (F : Nat) {z : Int32 × HT} {j : Nat} (hj : j < 8) : ∀ (x : HT) (t0 : Int32), fX1_popInto_27 F j x t0 = some z → Wd p l e { frames := 2, cells := 0, slots := 0, locals := 69 } s m args below meth c D (eX cy ad) 93 ad A (cQi (eX cy ad) 93 ad D A z) 2 27 [(0, .ref (ad 57)), (1, .ref (ad (7 * j + 1)))] [.int t0, .ref (ad 57)] x := by
  intro x t0 hf H locs ls hP hS hl
  obtain ⟨hx, hb, -⟩ := id hC
  refine pfX1_22 hC hP hS dX1_popInto_27 (fun H locs hP hS => ?_)
  obtain ⟨x3, e4, hf⟩ := lt_some hf
  have hP : va_P D vwCl (wG (eX cy ad) 93 ad x3) H := by rw [e4]; exact hP
  refine lv_aload_n hx hb dX1_popInto_30 rfl (lv_at hl 0 rfl) ?_
  refine lv_dup hx hb dX1_popInto_31 rfl ?_
  refine gfX1_18 hC hP dX1_popInto_32 ?_
  refine lv_iconst (v := 1) hx hb dX1_popInto_35 (by decide) ?_
  refine lv_isub hx hb dX1_popInto_36 ?_
  refine pfX1_18 hC hP hS dX1_popInto_37 (fun H locs hP hS => ?_)
  obtain ⟨x5, e6, hf⟩ := lt_some hf
  have hP : va_P D vwCl (wG (eX cy ad) 93 ad x5) H := by rw [e6]; exact hP
  refine lv_aload_n hx hb dX1_popInto_40 rfl (lv_at hl 1 rfl) ?_
  refine lv_aload_n hx hb dX1_popInto_41 rfl (lv_at hl 0 rfl) ?_
  refine gfX1_11 hC hP dX1_popInto_42 ?_
  refine lv_aload_n hx hb dX1_popInto_45 rfl (lv_at hl 0 rfl) ?_
  refine gfX1_22 hC hP dX1_popInto_46 ?_
  obtain ⟨h7, hf⟩ := ck_some hf
  refine gKept hC hP h7 dX1_popInto_49 ?_
  have hj8 : (3 + (x5.1 57 1).toNatClampNeg) < 8 := by have := inb_lt h7; omega
  obtain ⟨r10, x9, e11, hf⟩ := bd_some hf
  refine gVv (As := [.ref (ad (7 * (3 + (x5.1 57 1).toNatClampNeg) + 1))]) (rest := []) (k := (7 * j + 1)) hC hP hS (kX2_copyFrom l D cy tX tY ad A hC.2.2.2.2.2.2.2.2.1 F (j := j) (j2 := (3 + (x5.1 57 1).toNatClampNeg)) hj hj8 x5 e11) glX1_25 ⟨rfl, rfl⟩ hdX2_copyFrom ⟨Nat.le_of_ble_eq_true rfl, Nat.le_of_ble_eq_true rfl⟩ (by omega) (eX_S hj cy ad _ _) rfl rfl hl.1 rfl (Nat.le_of_ble_eq_true rfl) dX1_popInto_50 ⟨Nat.zero_le _, Nat.zero_le _⟩ (fun H locs hP hS => ?_)
  refine lv_iconst (v := 1) hx hb dX1_popInto_53 (by decide) ?_
  exact gZret hC hP hS rfl hf dX1_popInto_54
set_option maxHeartbeats 4000000 in
set_option maxRecDepth 100000 in
theorem kX1_popInto (l : Launch) (D : va_G) (cy : Nat → ClassId) (tX tY : Nat) (ad : Nat → Nat) (A : Nat → Prop) (hA : apart ad A 93) (F : Nat) {j : Nat} (hj : j < 8) (x : HT) {z : Int32 × HT} (hf : fX1_popInto F j x = some z) : Met l yX1_popInto (Cond.code yX1_popInto cX1_popInto 2 (some .boolean) :: wAll) { frames := 2, cells := 0, slots := 0, locals := 69 } (cPc (eX cy ad) 93 ad D cy tX tY A [.ref (ad 57), .ref (ad (7 * j + 1))] x) (cQi (eX cy ad) 93 ad D A z) 0 0 A := by
  refine gMet hA (by decide) (Nat.le_of_ble_eq_true rfl) (fun p e s m below meth c hC H locs ls hP hS hl => ?_)
  have hC : Cf p s m _ meth c cX1_popInto 2 RX1 (some .boolean) D cy tX tY ad A 93 := hC
  have hl : lv_has ls 2 [(0, .ref (ad 57)), (1, .ref (ad (7 * j + 1)))] := hl
  obtain ⟨hx, hb, -⟩ := id hC
  refine lv_aload_n hx hb dX1_popInto_0 rfl (lv_at hl 0 rfl) ?_
  refine gfX1_18 hC hP dX1_popInto_1 ?_
  refine lv_if_ne (tgt := 9) hx hb dX1_popInto_4 (by decide) (fun c1 => ?_) (fun c1 => ?_)
  · have hf := it_f c1 hf
    refine lv_aload_n hx hb dX1_popInto_9 rfl (lv_at hl 0 rfl) ?_
    refine lv_aload_n hx hb dX1_popInto_10 rfl (lv_at hl 0 rfl) ?_
    refine gfX1_22 hC hP dX1_popInto_11 ?_
    refine lv_if_le (tgt := 26) hx hb dX1_popInto_14 (by decide) (fun c2 => ?_) (fun c2 => ?_)
    · have hf := it_t c2 hf
      refine lv_iconst (v := 4) hx hb dX1_popInto_26 (by decide) ?_
      exact tX1_popInto_27 hC F hj x (4 : Int32) hf H locs ls hP hS (lv_sub hl [0, 1] rfl)
    · have hf := it_f c2 hf
      refine lv_aload_n hx hb dX1_popInto_17 rfl (lv_at hl 0 rfl) ?_
      refine gfX1_22 hC hP dX1_popInto_18 ?_
      refine lv_iconst (v := 1) hx hb dX1_popInto_21 (by decide) ?_
      refine lv_isub hx hb dX1_popInto_22 ?_
      refine lv_goto (tgt := 27) hx hb dX1_popInto_23 (by decide) ?_
      exact tX1_popInto_27 hC F hj x ((x.1 57 1) - (1 : Int32)) hf H locs ls hP hS (lv_sub hl [0, 1] rfl)
  · have hf := it_t c1 hf
    refine lv_iconst (v := 0) hx hb dX1_popInto_7 (by decide) ?_
    exact gZret hC hP hS rfl hf dX1_popInto_8
set_option maxHeartbeats 4000000 in
set_option maxRecDepth 100000 in
theorem kX1_size (l : Launch) (D : va_G) (cy : Nat → ClassId) (tX tY : Nat) (ad : Nat → Nat) (A : Nat → Prop) (hA : apart ad A 93) (F : Nat) (x : HT) {z : Int32 × HT} (hf : fX1_size F x = some z) : Met l yX1_size (Cond.code yX1_size cX1_size 1 (some .int) :: wAll) { frames := 0, cells := 0, slots := 0, locals := 0 } (cPc (eX cy ad) 93 ad D cy tX tY A [.ref (ad 57)] x) (cQi (eX cy ad) 93 ad D A z) 0 0 A := by
  refine gMet hA (by decide) (Nat.le_of_ble_eq_true rfl) (fun p e s m below meth c hC H locs ls hP hS hl => ?_)
  have hC : Cf p s m _ meth c cX1_size 1 RX1 (some .int) D cy tX tY ad A 93 := hC
  have hl : lv_has ls 1 [(0, .ref (ad 57))] := hl
  obtain ⟨hx, hb, -⟩ := id hC
  refine lv_aload_n hx hb dX1_size_0 rfl (lv_at hl 0 rfl) ?_
  refine gfX1_18 hC hP dX1_size_1 ?_
  exact gIret hC hP hS hf dX1_size_4
set_option maxHeartbeats 4000000 in
set_option maxRecDepth 100000 in
theorem kX6_back (l : Launch) (D : va_G) (cy : Nat → ClassId) (tX tY : Nat) (ad : Nat → Nat) (A : Nat → Prop) (hA : apart ad A 93) (F : Nat) (x : HT) {z : Int32 × HT} (hf : fX6_back F x = some z) : Met l yX6_back (Cond.code yX6_back cX6_back 1 (some .int) :: wAll) { frames := 5, cells := 0, slots := 0, locals := 121 } (cPc (eX cy ad) 93 ad D cy tX tY A [.ref (ad 0)] x) (cQi (eX cy ad) 93 ad D A z) 0 0 A := by
  refine gMet hA (by decide) (Nat.le_of_ble_eq_true rfl) (fun p e s m below meth c hC H locs ls hP hS hl => ?_)
  have hC : Cf p s m _ meth c cX6_back 1 RX6 (some .int) D cy tX tY ad A 93 := hC
  have hl : lv_has ls 1 [(0, .ref (ad 0))] := hl
  obtain ⟨hx, hb, -⟩ := id hC
  refine lv_aload_n hx hb dX6_back_0 rfl (lv_at hl 0 rfl) ?_
  refine gfX6_25 hC hP dX6_back_1 ?_
  refine lv_aload_n hx hb dX6_back_4 rfl (lv_at hl 0 rfl) ?_
  refine gfX6_12 hC hP dX6_back_5 ?_
  obtain ⟨r2, x1, e3, hf⟩ := bd_some hf
  refine gVi (As := [.ref (ad (7 * 0 + 1))]) (rest := []) (k := 57) hC hP hS (kX1_popInto l D cy tX tY ad A hC.2.2.2.2.2.2.2.2.1 F (j := 0) (by decide) x e3) glX6_185 ⟨rfl, rfl⟩ hdX1_popInto ⟨Nat.le_of_ble_eq_true rfl, Nat.le_of_ble_eq_true rfl⟩ (by decide) (eX_57 cy ad _ _) rfl rfl hl.1 rfl (Nat.le_of_ble_eq_true rfl) dX6_back_8 ⟨Nat.zero_le _, Nat.zero_le _⟩ (fun H locs hP hS => ?_)
  refine lv_if_ne (tgt := 21) hx hb dX6_back_11 (by decide) (fun c4 => ?_) (fun c4 => ?_)
  · have hf := it_f c4 hf
    refine lv_aload_n hx hb dX6_back_21 rfl (lv_at hl 0 rfl) ?_
    obtain ⟨r6, x5, e7, hf⟩ := bd_some hf
    refine gVv (As := []) (rest := []) (k := 0) hC hP hS (kX6_layAll l D cy tX tY ad A hC.2.2.2.2.2.2.2.2.1 F x1 e7) glX6_179 ⟨rfl, rfl⟩ hdX6_layAll ⟨Nat.le_of_ble_eq_true rfl, Nat.le_of_ble_eq_true rfl⟩ (by decide) (eX_0 cy ad _ _) rfl rfl hl.1 rfl (Nat.le_of_ble_eq_true rfl) dX6_back_22 ⟨Nat.zero_le _, Nat.zero_le _⟩ (fun H locs hP hS => ?_)
    refine lv_aload_n hx hb dX6_back_25 rfl (lv_at hl 0 rfl) ?_
    refine gfX6_25 hC hP dX6_back_26 ?_
    obtain ⟨r9, x8, e10, hf⟩ := bd_some hf
    refine gVi (As := []) (rest := []) (k := 57) hC hP hS (kX1_size l D cy tX tY ad A hC.2.2.2.2.2.2.2.2.1 F x5 e10) glX6_189 ⟨rfl, rfl⟩ hdX1_size ⟨Nat.le_of_ble_eq_true rfl, Nat.le_of_ble_eq_true rfl⟩ (by decide) (eX_57 cy ad _ _) rfl rfl hl.1 rfl (Nat.le_of_ble_eq_true rfl) dX6_back_29 ⟨Nat.zero_le _, Nat.zero_le _⟩ (fun H locs hP hS => ?_)
    exact gIret hC hP hS hf dX6_back_32
  · have hf := it_t c4 hf
    refine lv_aload_n hx hb dX6_back_14 rfl (lv_at hl 0 rfl) ?_
    refine lv_bipush (v := -3) hx hb dX6_back_15 (by decide) ?_
    obtain ⟨r12, x11, e13, hf⟩ := bd_some hf
    refine gVi (As := [.int (-3 : Int32)]) (rest := []) (k := 0) hC hP hS (kX6_refuse l D cy tX tY ad A hC.2.2.2.2.2.2.2.2.1 F x1 (-3 : Int32) e13) glX6_100 ⟨rfl, rfl⟩ hdX6_refuse ⟨Nat.le_of_ble_eq_true rfl, Nat.le_of_ble_eq_true rfl⟩ (by decide) (eX_0 cy ad _ _) rfl rfl hl.1 rfl (Nat.le_of_ble_eq_true rfl) dX6_back_17 ⟨Nat.zero_le _, Nat.zero_le _⟩ (fun H locs hP hS => ?_)
    exact gIret hC hP hS hf dX6_back_20
set_option maxHeartbeats 4000000 in
set_option maxRecDepth 100000 in
theorem kX6_toldFact (l : Launch) (D : va_G) (cy : Nat → ClassId) (tX tY : Nat) (ad : Nat → Nat) (A : Nat → Prop) (hA : apart ad A 93) (F : Nat) (x : HT) (a1 : Int32) {z : Int32 × HT} (hf : fX6_toldFact F x a1 = some z) : Met l yX6_toldFact (Cond.code yX6_toldFact cX6_toldFact 2 (some .int) :: wAll) { frames := 1, cells := 0, slots := 0, locals := 20 } (cPc (eX cy ad) 93 ad D cy tX tY A [.ref (ad 0), .int a1] x) (cQi (eX cy ad) 93 ad D A z) 0 0 A := by
  refine gMet hA (by decide) (Nat.le_of_ble_eq_true rfl) (fun p e s m below meth c hC H locs ls hP hS hl => ?_)
  have hC : Cf p s m _ meth c cX6_toldFact 2 RX6 (some .int) D cy tX tY ad A 93 := hC
  have hl : lv_has ls 2 [(0, .ref (ad 0)), (1, .int a1)] := hl
  obtain ⟨hx, hb, -⟩ := id hC
  refine lv_iload_n hx hb dX6_toldFact_0 rfl (lv_at hl 1 rfl) ?_
  by_cases c1 : a1 = (0 : Int32)
  · have hf := it_t c1 hf
    refine lv_tableIn (tgt := 32) (off := 31) hx hb dX6_toldFact_1 (by rw [c1]; decide) (by rw [c1]; decide) (by rw [c1]; decide) (by decide) ?_
    refine lv_aload_n hx hb dX6_toldFact_32 rfl (lv_at hl 0 rfl) ?_
    refine gfX6_211 hC hP dX6_toldFact_33 ?_
    exact gIret hC hP hS hf dX6_toldFact_36
  have hf := it_f c1 hf
  by_cases c2 : a1 = (1 : Int32)
  · have hf := it_t c2 hf
    refine lv_tableIn (tgt := 37) (off := 36) hx hb dX6_toldFact_1 (by rw [c2]; decide) (by rw [c2]; decide) (by rw [c2]; decide) (by decide) ?_
    refine lv_aload_n hx hb dX6_toldFact_37 rfl (lv_at hl 0 rfl) ?_
    refine gfX6_214 hC hP dX6_toldFact_38 ?_
    exact gIret hC hP hS hf dX6_toldFact_41
  have hf := it_f c2 hf
  by_cases c3 : a1 = (2 : Int32)
  · have hf := it_t c3 hf
    refine lv_tableIn (tgt := 42) (off := 41) hx hb dX6_toldFact_1 (by rw [c3]; decide) (by rw [c3]; decide) (by rw [c3]; decide) (by decide) ?_
    refine lv_aload_n hx hb dX6_toldFact_42 rfl (lv_at hl 0 rfl) ?_
    refine gfX6_217 hC hP dX6_toldFact_43 ?_
    exact gIret hC hP hS hf dX6_toldFact_46
  have hf := it_f c3 hf
  by_cases c4 : a1 = (3 : Int32)
  · have hf := it_t c4 hf
    refine lv_tableIn (tgt := 47) (off := 46) hx hb dX6_toldFact_1 (by rw [c4]; decide) (by rw [c4]; decide) (by rw [c4]; decide) (by decide) ?_
    refine lv_aload_n hx hb dX6_toldFact_47 rfl (lv_at hl 0 rfl) ?_
    refine gfX6_53 hC hP dX6_toldFact_48 ?_
    obtain ⟨r6, x5, e7, hf⟩ := bd_some hf
    refine gVi (As := []) (rest := []) (k := 89) hC hP hS (kX3_size l D cy tX tY ad A hC.2.2.2.2.2.2.2.2.1 F x e7) glX6_157 ⟨rfl, rfl⟩ hdX3_size ⟨Nat.le_of_ble_eq_true rfl, Nat.le_of_ble_eq_true rfl⟩ (by decide) (eX_89 cy ad _ _) rfl rfl hl.1 rfl (Nat.le_of_ble_eq_true rfl) dX6_toldFact_51 ⟨Nat.zero_le _, Nat.zero_le _⟩ (fun H locs hP hS => ?_)
    exact gIret hC hP hS hf dX6_toldFact_54
  have hf := it_f c4 hf
  refine lv_tableOut (tgt := 55) hx hb dX6_toldFact_1 (by have n0 := lv_neT c1 (a := 0) (by decide); have n1 := lv_neT c2 (a := 1) (by decide); have n2 := lv_neT c3 (a := 2) (by decide); have n3 := lv_neT c4 (a := 3) (by decide); omega) (by decide) ?_
  refine lv_aload_n hx hb dX6_toldFact_55 rfl (lv_at hl 0 rfl) ?_
  refine gfX6_25 hC hP dX6_toldFact_56 ?_
  obtain ⟨r9, x8, e10, hf⟩ := bd_some hf
  refine gVi (As := []) (rest := []) (k := 57) hC hP hS (kX1_size l D cy tX tY ad A hC.2.2.2.2.2.2.2.2.1 F x e10) glX6_189 ⟨rfl, rfl⟩ hdX1_size ⟨Nat.le_of_ble_eq_true rfl, Nat.le_of_ble_eq_true rfl⟩ (by decide) (eX_57 cy ad _ _) rfl rfl hl.1 rfl (Nat.le_of_ble_eq_true rfl) dX6_toldFact_59 ⟨Nat.zero_le _, Nat.zero_le _⟩ (fun H locs hP hS => ?_)
  exact gIret hC hP hS hf dX6_toldFact_62
set_option maxHeartbeats 4000000 in
set_option maxRecDepth 100000 in
theorem tX6_told_9 (hC : Cf p s m args meth c cX6_told 2 RX6 (some .int) D cy tX tY ad A 93) (F : Nat) {z : Int32 × HT} : ∀ (x : HT), fX6_told_9 F x = some z → Wd p l e { frames := 2, cells := 0, slots := 0, locals := 41 } s m args below meth c D (eX cy ad) 93 ad A (cQi (eX cy ad) 93 ad D A z) 2 9 [(0, .ref (ad 0))] [] x := by
  intro x hf H locs ls hP hS hl
  obtain ⟨hx, hb, -⟩ := id hC
  refine lv_aload_n hx hb dX6_told_9 rfl (lv_at hl 0 rfl) ?_
  refine lv_bipush (v := -2) hx hb dX6_told_10 (by decide) ?_
  obtain ⟨r7, x6, e8, hf⟩ := bd_some hf
  refine gVi (As := [.int (-2 : Int32)]) (rest := []) (k := 0) hC hP hS (kX6_refuse l D cy tX tY ad A hC.2.2.2.2.2.2.2.2.1 F x (-2 : Int32) e8) glX6_100 ⟨rfl, rfl⟩ hdX6_refuse ⟨Nat.le_of_ble_eq_true rfl, Nat.le_of_ble_eq_true rfl⟩ (by decide) (eX_0 cy ad _ _) rfl rfl hl.1 rfl (Nat.le_of_ble_eq_true rfl) dX6_told_12 ⟨Nat.zero_le _, Nat.zero_le _⟩ (fun H locs hP hS => ?_)
  refine lv_goto (tgt := 23) hx hb dX6_told_15 (by decide) ?_
  exact gIret hC hP hS hf dX6_told_23
set_option maxHeartbeats 4000000 in
set_option maxRecDepth 100000 in
theorem kX6_told (l : Launch) (D : va_G) (cy : Nat → ClassId) (tX tY : Nat) (ad : Nat → Nat) (A : Nat → Prop) (hA : apart ad A 93) (F : Nat) (x : HT) (a1 : Int32) {z : Int32 × HT} (hf : fX6_told F x a1 = some z) : Met l yX6_told (Cond.code yX6_told cX6_told 2 (some .int) :: wAll) { frames := 2, cells := 0, slots := 0, locals := 41 } (cPc (eX cy ad) 93 ad D cy tX tY A [.ref (ad 0), .int a1] x) (cQi (eX cy ad) 93 ad D A z) 0 0 A := by
  refine gMet hA (by decide) (Nat.le_of_ble_eq_true rfl) (fun p e s m below meth c hC H locs ls hP hS hl => ?_)
  have hC : Cf p s m _ meth c cX6_told 2 RX6 (some .int) D cy tX tY ad A 93 := hC
  have hl : lv_has ls 2 [(0, .ref (ad 0)), (1, .int a1)] := hl
  obtain ⟨hx, hb, -⟩ := id hC
  refine lv_iload_n hx hb dX6_told_0 rfl (lv_at hl 1 rfl) ?_
  refine lv_if_lt (tgt := 9) hx hb dX6_told_1 (by decide) (fun c1 => ?_) (fun c1 => ?_)
  · have hf := it_t c1 hf
    exact tX6_told_9 hC F x hf H locs ls hP hS (lv_sub hl [0] rfl)
  · have hf := it_f c1 hf
    refine lv_iload_n hx hb dX6_told_4 rfl (lv_at hl 1 rfl) ?_
    refine lv_iconst (v := 5) hx hb dX6_told_5 (by decide) ?_
    refine lv_icmp_lt (tgt := 18) hx hb dX6_told_6 (by decide) (fun c2 => ?_) (fun c2 => ?_)
    · have hf := it_t c2 hf
      refine lv_aload_n hx hb dX6_told_18 rfl (lv_at hl 0 rfl) ?_
      refine lv_iload_n hx hb dX6_told_19 rfl (lv_at hl 1 rfl) ?_
      obtain ⟨r4, x3, e5, hf⟩ := bd_some hf
      refine gVi (As := [.int a1]) (rest := []) (k := 0) hC hP hS (kX6_toldFact l D cy tX tY ad A hC.2.2.2.2.2.2.2.2.1 F x a1 e5) glX6_190 ⟨rfl, rfl⟩ hdX6_toldFact ⟨Nat.le_of_ble_eq_true rfl, Nat.le_of_ble_eq_true rfl⟩ (by decide) (eX_0 cy ad _ _) rfl rfl hl.1 rfl (Nat.le_of_ble_eq_true rfl) dX6_told_20 ⟨Nat.zero_le _, Nat.zero_le _⟩ (fun H locs hP hS => ?_)
      exact gIret hC hP hS hf dX6_told_23
    · have hf := it_f c2 hf
      exact tX6_told_9 hC F x hf H locs ls hP hS (lv_sub hl [0] rfl)
set_option maxHeartbeats 4000000 in
set_option maxRecDepth 100000 in
theorem tX6_digestMessage_88b (hC : Cf p s m args meth c cX6_digestMessage 8 RX6 (some .long) D cy tX tY ad A 93) (F : Nat) {z : Int64 × HT} (rec41 : HT → Int32 → Int64 → Int32 → Option (Int64 × HT)) (hrec41 : ∀ (x : HT) (a3 : Int32) (a4 : Int64) (a6 : Int32), rec41 x a3 a4 a6 = some z → Wd p l e { frames := 4, cells := 0, slots := 0, locals := 96 } s m args below meth c D (eX cy ad) 93 ad A (cQl (eX cy ad) 93 ad D A z) 8 41 [(0, .ref (ad 0)), (3, .int a3), (4, .long a4), (6, .int a6)] [] x) (rec88 : HT → Int32 → Int64 → Int32 → Int32 → Option (Int64 × HT)) (hrec88 : ∀ (x : HT) (a3 : Int32) (a4 : Int64) (a6 : Int32) (a7 : Int32), rec88 x a3 a4 a6 a7 = some z → Wd p l e { frames := 4, cells := 0, slots := 0, locals := 96 } s m args below meth c D (eX cy ad) 93 ad A (cQl (eX cy ad) 93 ad D A z) 8 88 [(0, .ref (ad 0)), (3, .int a3), (4, .long a4), (6, .int a6), (7, .int a7)] [] x) : ∀ (x : HT) (a3 : Int32) (a4 : Int64) (a6 : Int32) (a7 : Int32), fX6_digestMessage_88b F rec41 rec88 x a3 a4 a6 a7 = some z → Wd p l e { frames := 4, cells := 0, slots := 0, locals := 96 } s m args below meth c D (eX cy ad) 93 ad A (cQl (eX cy ad) 93 ad D A z) 8 88 [(0, .ref (ad 0)), (3, .int a3), (4, .long a4), (6, .int a6), (7, .int a7)] [] x := by
  intro x a3 a4 a6 a7 hf H locs ls hP hS hl
  obtain ⟨hx, hb, -⟩ := id hC
  refine lv_iload hx hb dX6_digestMessage_88 (lv_at hl 4 rfl) ?_
  refine lv_aload_n hx hb dX6_digestMessage_90 rfl (lv_at hl 0 rfl) ?_
  refine gfX6_39 hC hP dX6_digestMessage_91 ?_
  refine lv_iload hx hb dX6_digestMessage_94 (lv_at hl 3 rfl) ?_
  obtain ⟨r21, x20, e22, hf⟩ := bd_some hf
  refine gVi (As := [.int a6]) (rest := [.int a7]) (k := 63) hC hP hS (kX5_channelsOf l D cy tX tY ad A hC.2.2.2.2.2.2.2.2.1 F x a6 e22) glX6_132 ⟨rfl, rfl⟩ hdX5_channelsOf ⟨Nat.le_of_ble_eq_true rfl, Nat.le_of_ble_eq_true rfl⟩ (by decide) (eX_63 cy ad _ _) rfl rfl hl.1 rfl (Nat.le_of_ble_eq_true rfl) dX6_digestMessage_96 ⟨Nat.zero_le _, Nat.zero_le _⟩ (fun H locs hP hS => ?_)
  refine lv_icmp_gt (tgt := 136) hx hb dX6_digestMessage_99 (by decide) (fun c23 => ?_) (fun c23 => ?_)
  · have hf := it_t c23 hf
    obtain ⟨b24, e25, hf⟩ := lt_some hf
    refine lv_iinc (v := b24) (lv' := [(6, .int b24), (0, .ref (ad 0)), (3, .int a3), (4, .long a4), (7, .int a7)]) hx hb dX6_digestMessage_136 hl (k := 3) rfl (by rw [e25]; rfl) (by decide) rfl (fun ls hl => ?_)
    refine lv_goto (tgt := 41) hx hb dX6_digestMessage_139 (by decide) ?_
    exact hrec41 x20 a3 a4 b24 hf H locs ls hP hS (lv_sub hl [1, 2, 3, 0] rfl)
  · have hf := it_f c23 hf
    refine lv_ldc2 (v := 31) hx hb hC.2.2.2.1 (hC.2.2.2.2.1 _ qw776) dX6_digestMessage_102 ?_
    refine lv_lload hx hb dX6_digestMessage_105 (lv_at hl 2 rfl) ?_
    refine lv_lmul hx hb dX6_digestMessage_107 ?_
    refine lv_aload_n hx hb dX6_digestMessage_108 rfl (lv_at hl 0 rfl) ?_
    refine gfX6_32 hC hP dX6_digestMessage_109 ?_
    refine lv_aload_n hx hb dX6_digestMessage_112 rfl (lv_at hl 0 rfl) ?_
    refine gfX6_39 hC hP dX6_digestMessage_113 ?_
    refine lv_iload hx hb dX6_digestMessage_116 (lv_at hl 3 rfl) ?_
    refine lv_iload hx hb dX6_digestMessage_118 (lv_at hl 4 rfl) ?_
    obtain ⟨r27, x26, e28, hf⟩ := bd_some hf
    refine gVi (As := [.int a6, .int a7]) (rest := [.ref (ad 59), .long ((31 : Int64) * a4)]) (k := 63) hC hP hS (kX5_placeOf l D cy tX tY ad A hC.2.2.2.2.2.2.2.2.1 F x20 a6 a7 e28) glX6_135 ⟨rfl, rfl⟩ hdX5_placeOf ⟨Nat.le_of_ble_eq_true rfl, Nat.le_of_ble_eq_true rfl⟩ (by decide) (eX_63 cy ad _ _) rfl rfl hl.1 rfl (Nat.le_of_ble_eq_true rfl) dX6_digestMessage_120 ⟨Nat.zero_le _, Nat.zero_le _⟩ (fun H locs hP hS => ?_)
    obtain ⟨r30, x29, e31, hf⟩ := bd_some hf
    refine gVi (As := [.int r27]) (rest := [.long ((31 : Int64) * a4)]) (k := 59) hC hP hS (kX0_tell l D cy tX tY ad A hC.2.2.2.2.2.2.2.2.1 F x26 r27 e31) glX6_107 ⟨rfl, rfl⟩ hdX0_tell ⟨Nat.le_of_ble_eq_true rfl, Nat.le_of_ble_eq_true rfl⟩ (by decide) (eX_59 cy ad _ _) rfl rfl hl.1 rfl (Nat.le_of_ble_eq_true rfl) dX6_digestMessage_123 ⟨Nat.zero_le _, Nat.zero_le _⟩ (fun H locs hP hS => ?_)
    refine lv_i2l hx hb dX6_digestMessage_126 rfl ?_
    refine lv_ladd hx hb dX6_digestMessage_127 ?_
    refine lv_topl (fun b32 e33 => ?_)
    have hf := lt_use e33 hf
    refine lv_lstore (lv' := [(4, .long b32), (0, .ref (ad 0)), (3, .int a3), (6, .int a6), (7, .int a7)]) hx hb dX6_digestMessage_128 hl (by decide) rfl (fun ls hl => ?_)
    obtain ⟨b34, e35, hf⟩ := lt_some hf
    refine lv_iinc (v := b34) (lv' := [(7, .int b34), (4, .long b32), (0, .ref (ad 0)), (3, .int a3), (6, .int a6)]) hx hb dX6_digestMessage_130 hl (k := 4) rfl (by rw [e35]; rfl) (by decide) rfl (fun ls hl => ?_)
    refine lv_goto (tgt := 88) hx hb dX6_digestMessage_133 (by decide) ?_
    exact hrec88 x29 a3 b32 a6 b34 hf H locs ls hP hS (lv_sub hl [2, 3, 1, 4, 0] rfl)
theorem tX6_digestMessage_88 (hC : Cf p s m args meth c cX6_digestMessage 8 RX6 (some .long) D cy tX tY ad A 93) (F : Nat) {z : Int64 × HT} (rec41 : HT → Int32 → Int64 → Int32 → Option (Int64 × HT)) (hrec41 : ∀ (x : HT) (a3 : Int32) (a4 : Int64) (a6 : Int32), rec41 x a3 a4 a6 = some z → Wd p l e { frames := 4, cells := 0, slots := 0, locals := 96 } s m args below meth c D (eX cy ad) 93 ad A (cQl (eX cy ad) 93 ad D A z) 8 41 [(0, .ref (ad 0)), (3, .int a3), (4, .long a4), (6, .int a6)] [] x) : ∀ (n9 : Nat) (x : HT) (a3 : Int32) (a4 : Int64) (a6 : Int32) (a7 : Int32), fX6_digestMessage_88 F rec41 n9 x a3 a4 a6 a7 = some z → Wd p l e { frames := 4, cells := 0, slots := 0, locals := 96 } s m args below meth c D (eX cy ad) 93 ad A (cQl (eX cy ad) 93 ad D A z) 8 88 [(0, .ref (ad 0)), (3, .int a3), (4, .long a4), (6, .int a6), (7, .int a7)] [] x := by
  intro n9
  induction n9 with
  | zero => intro x a3 a4 a6 a7 hf; cases hf
  | succ n9 ih => intro x a3 a4 a6 a7 hf; exact tX6_digestMessage_88b hC F rec41 hrec41 (fX6_digestMessage_88 F rec41 n9) ih x a3 a4 a6 a7 hf
set_option maxHeartbeats 4000000 in
set_option maxRecDepth 100000 in
theorem tX6_digestMessage_54b (hC : Cf p s m args meth c cX6_digestMessage 8 RX6 (some .long) D cy tX tY ad A 93) (F : Nat) {z : Int64 × HT} (rec41 : HT → Int32 → Int64 → Int32 → Option (Int64 × HT)) (hrec41 : ∀ (x : HT) (a3 : Int32) (a4 : Int64) (a6 : Int32), rec41 x a3 a4 a6 = some z → Wd p l e { frames := 4, cells := 0, slots := 0, locals := 96 } s m args below meth c D (eX cy ad) 93 ad A (cQl (eX cy ad) 93 ad D A z) 8 41 [(0, .ref (ad 0)), (3, .int a3), (4, .long a4), (6, .int a6)] [] x) (rec54 : HT → Int32 → Int64 → Int32 → Int32 → Option (Int64 × HT)) (hrec54 : ∀ (x : HT) (a3 : Int32) (a4 : Int64) (a6 : Int32) (a7 : Int32), rec54 x a3 a4 a6 a7 = some z → Wd p l e { frames := 4, cells := 0, slots := 0, locals := 96 } s m args below meth c D (eX cy ad) 93 ad A (cQl (eX cy ad) 93 ad D A z) 8 54 [(0, .ref (ad 0)), (3, .int a3), (4, .long a4), (6, .int a6), (7, .int a7)] [] x) : ∀ (x : HT) (a3 : Int32) (a4 : Int64) (a6 : Int32) (a7 : Int32), fX6_digestMessage_54b F rec41 rec54 x a3 a4 a6 a7 = some z → Wd p l e { frames := 4, cells := 0, slots := 0, locals := 96 } s m args below meth c D (eX cy ad) 93 ad A (cQl (eX cy ad) 93 ad D A z) 8 54 [(0, .ref (ad 0)), (3, .int a3), (4, .long a4), (6, .int a6), (7, .int a7)] [] x := by
  intro x a3 a4 a6 a7 hf H locs ls hP hS hl
  obtain ⟨hx, hb, -⟩ := id hC
  refine lv_iload hx hb dX6_digestMessage_54 (lv_at hl 4 rfl) ?_
  refine lv_bipush (v := 9) hx hb dX6_digestMessage_56 (by decide) ?_
  refine lv_icmp_ge (tgt := 85) hx hb dX6_digestMessage_58 (by decide) (fun c12 => ?_) (fun c12 => ?_)
  · have hf := it_t c12 hf
    refine lv_iconst (v := 0) hx hb dX6_digestMessage_85 (by decide) ?_
    refine lv_istore (lv' := [(7, .int (0 : Int32)), (0, .ref (ad 0)), (3, .int a3), (4, .long a4), (6, .int a6)]) hx hb dX6_digestMessage_86 hl (by decide) rfl (fun ls hl => ?_)
    exact tX6_digestMessage_88 hC F rec41 hrec41 F x a3 a4 a6 (0 : Int32) hf H locs ls hP hS (lv_sub hl [1, 2, 3, 4, 0] rfl)
  · have hf := it_f c12 hf
    refine lv_ldc2 (v := 31) hx hb hC.2.2.2.1 (hC.2.2.2.2.1 _ qw776) dX6_digestMessage_61 ?_
    refine lv_lload hx hb dX6_digestMessage_64 (lv_at hl 2 rfl) ?_
    refine lv_lmul hx hb dX6_digestMessage_66 ?_
    refine lv_aload_n hx hb dX6_digestMessage_67 rfl (lv_at hl 0 rfl) ?_
    refine lv_iload hx hb dX6_digestMessage_68 (lv_at hl 3 rfl) ?_
    refine lv_iload hx hb dX6_digestMessage_70 (lv_at hl 4 rfl) ?_
    obtain ⟨r14, x13, e15, hf⟩ := bd_some hf
    refine gVi (As := [.int a6, .int a7]) (rest := [.long ((31 : Int64) * a4)]) (k := 0) hC hP hS (kX6_wormFact l D cy tX tY ad A hC.2.2.2.2.2.2.2.2.1 F x a6 a7 e15) glX6_129 ⟨rfl, rfl⟩ hdX6_wormFact ⟨Nat.le_of_ble_eq_true rfl, Nat.le_of_ble_eq_true rfl⟩ (by decide) (eX_0 cy ad _ _) rfl rfl hl.1 rfl (Nat.le_of_ble_eq_true rfl) dX6_digestMessage_72 ⟨Nat.zero_le _, Nat.zero_le _⟩ (fun H locs hP hS => ?_)
    refine lv_i2l hx hb dX6_digestMessage_75 rfl ?_
    refine lv_ladd hx hb dX6_digestMessage_76 ?_
    refine lv_topl (fun b16 e17 => ?_)
    have hf := lt_use e17 hf
    refine lv_lstore (lv' := [(4, .long b16), (0, .ref (ad 0)), (3, .int a3), (6, .int a6), (7, .int a7)]) hx hb dX6_digestMessage_77 hl (by decide) rfl (fun ls hl => ?_)
    obtain ⟨b18, e19, hf⟩ := lt_some hf
    refine lv_iinc (v := b18) (lv' := [(7, .int b18), (4, .long b16), (0, .ref (ad 0)), (3, .int a3), (6, .int a6)]) hx hb dX6_digestMessage_79 hl (k := 4) rfl (by rw [e19]; rfl) (by decide) rfl (fun ls hl => ?_)
    refine lv_goto (tgt := 54) hx hb dX6_digestMessage_82 (by decide) ?_
    exact hrec54 x13 a3 b16 a6 b18 hf H locs ls hP hS (lv_sub hl [2, 3, 1, 4, 0] rfl)
theorem tX6_digestMessage_54 (hC : Cf p s m args meth c cX6_digestMessage 8 RX6 (some .long) D cy tX tY ad A 93) (F : Nat) {z : Int64 × HT} (rec41 : HT → Int32 → Int64 → Int32 → Option (Int64 × HT)) (hrec41 : ∀ (x : HT) (a3 : Int32) (a4 : Int64) (a6 : Int32), rec41 x a3 a4 a6 = some z → Wd p l e { frames := 4, cells := 0, slots := 0, locals := 96 } s m args below meth c D (eX cy ad) 93 ad A (cQl (eX cy ad) 93 ad D A z) 8 41 [(0, .ref (ad 0)), (3, .int a3), (4, .long a4), (6, .int a6)] [] x) : ∀ (n9 : Nat) (x : HT) (a3 : Int32) (a4 : Int64) (a6 : Int32) (a7 : Int32), fX6_digestMessage_54 F rec41 n9 x a3 a4 a6 a7 = some z → Wd p l e { frames := 4, cells := 0, slots := 0, locals := 96 } s m args below meth c D (eX cy ad) 93 ad A (cQl (eX cy ad) 93 ad D A z) 8 54 [(0, .ref (ad 0)), (3, .int a3), (4, .long a4), (6, .int a6), (7, .int a7)] [] x := by
  intro n9
  induction n9 with
  | zero => intro x a3 a4 a6 a7 hf; cases hf
  | succ n9 ih => intro x a3 a4 a6 a7 hf; exact tX6_digestMessage_54b hC F rec41 hrec41 (fX6_digestMessage_54 F rec41 n9) ih x a3 a4 a6 a7 hf
set_option maxHeartbeats 4000000 in
set_option maxRecDepth 100000 in
theorem tX6_digestMessage_41b (hC : Cf p s m args meth c cX6_digestMessage 8 RX6 (some .long) D cy tX tY ad A 93) (F : Nat) {z : Int64 × HT} (rec41 : HT → Int32 → Int64 → Int32 → Option (Int64 × HT)) (hrec41 : ∀ (x : HT) (a3 : Int32) (a4 : Int64) (a6 : Int32), rec41 x a3 a4 a6 = some z → Wd p l e { frames := 4, cells := 0, slots := 0, locals := 96 } s m args below meth c D (eX cy ad) 93 ad A (cQl (eX cy ad) 93 ad D A z) 8 41 [(0, .ref (ad 0)), (3, .int a3), (4, .long a4), (6, .int a6)] [] x) : ∀ (x : HT) (a3 : Int32) (a4 : Int64) (a6 : Int32), fX6_digestMessage_41b F rec41 x a3 a4 a6 = some z → Wd p l e { frames := 4, cells := 0, slots := 0, locals := 96 } s m args below meth c D (eX cy ad) 93 ad A (cQl (eX cy ad) 93 ad D A z) 8 41 [(0, .ref (ad 0)), (3, .int a3), (4, .long a4), (6, .int a6)] [] x := by
  intro x a3 a4 a6 hf H locs ls hP hS hl
  obtain ⟨hx, hb, -⟩ := id hC
  refine lv_iload hx hb dX6_digestMessage_41 (lv_at hl 3 rfl) ?_
  refine lv_iload_n hx hb dX6_digestMessage_43 rfl (lv_at hl 1 rfl) ?_
  refine lv_iconst (v := 2) hx hb dX6_digestMessage_44 (by decide) ?_
  refine lv_imul hx hb dX6_digestMessage_45 ?_
  refine lv_iconst (v := 2) hx hb dX6_digestMessage_46 (by decide) ?_
  refine lv_iadd hx hb dX6_digestMessage_47 ?_
  refine lv_icmp_ge (tgt := 142) hx hb dX6_digestMessage_48 (by decide) (fun c11 => ?_) (fun c11 => ?_)
  · have hf := it_t c11 hf
    refine lv_lload hx hb dX6_digestMessage_142 (lv_at hl 2 rfl) ?_
    exact gLret hC hP hS hf dX6_digestMessage_144
  · have hf := it_f c11 hf
    refine lv_iconst (v := 0) hx hb dX6_digestMessage_51 (by decide) ?_
    refine lv_istore (lv' := [(7, .int (0 : Int32)), (0, .ref (ad 0)), (3, .int a3), (4, .long a4), (6, .int a6)]) hx hb dX6_digestMessage_52 hl (by decide) rfl (fun ls hl => ?_)
    exact tX6_digestMessage_54 hC F rec41 hrec41 F x a3 a4 a6 (0 : Int32) hf H locs ls hP hS (lv_sub hl [1, 2, 3, 4, 0] rfl)
theorem tX6_digestMessage_41 (hC : Cf p s m args meth c cX6_digestMessage 8 RX6 (some .long) D cy tX tY ad A 93) (F : Nat) {z : Int64 × HT} : ∀ (n9 : Nat) (x : HT) (a3 : Int32) (a4 : Int64) (a6 : Int32), fX6_digestMessage_41 F n9 x a3 a4 a6 = some z → Wd p l e { frames := 4, cells := 0, slots := 0, locals := 96 } s m args below meth c D (eX cy ad) 93 ad A (cQl (eX cy ad) 93 ad D A z) 8 41 [(0, .ref (ad 0)), (3, .int a3), (4, .long a4), (6, .int a6)] [] x := by
  intro n9
  induction n9 with
  | zero => intro x a3 a4 a6 hf; cases hf
  | succ n9 ih => intro x a3 a4 a6 hf; exact tX6_digestMessage_41b hC F (fX6_digestMessage_41 F n9) ih x a3 a4 a6 hf
set_option maxHeartbeats 4000000 in
set_option maxRecDepth 100000 in
theorem tX6_digestMessage_6b (hC : Cf p s m args meth c cX6_digestMessage 8 RX6 (some .long) D cy tX tY ad A 93) (F : Nat) {z : Int64 × HT} (rec6 : HT → Int32 → Int64 → Int32 → Option (Int64 × HT)) (hrec6 : ∀ (x : HT) (a3 : Int32) (a4 : Int64) (a6 : Int32), rec6 x a3 a4 a6 = some z → Wd p l e { frames := 4, cells := 0, slots := 0, locals := 96 } s m args below meth c D (eX cy ad) 93 ad A (cQl (eX cy ad) 93 ad D A z) 8 6 [(0, .ref (ad 0)), (3, .int a3), (4, .long a4), (6, .int a6)] [] x) : ∀ (x : HT) (a3 : Int32) (a4 : Int64) (a6 : Int32), fX6_digestMessage_6b F rec6 x a3 a4 a6 = some z → Wd p l e { frames := 4, cells := 0, slots := 0, locals := 96 } s m args below meth c D (eX cy ad) 93 ad A (cQl (eX cy ad) 93 ad D A z) 8 6 [(0, .ref (ad 0)), (3, .int a3), (4, .long a4), (6, .int a6)] [] x := by
  intro x a3 a4 a6 hf H locs ls hP hS hl
  obtain ⟨hx, hb, -⟩ := id hC
  refine lv_iload hx hb dX6_digestMessage_6 (lv_at hl 3 rfl) ?_
  refine lv_bipush (v := 6) hx hb dX6_digestMessage_8 (by decide) ?_
  refine lv_icmp_ge (tgt := 36) hx hb dX6_digestMessage_10 (by decide) (fun c1 => ?_) (fun c1 => ?_)
  · have hf := it_t c1 hf
    refine lv_iload_n hx hb dX6_digestMessage_36 rfl (lv_at hl 1 rfl) ?_
    refine lv_iconst (v := 2) hx hb dX6_digestMessage_37 (by decide) ?_
    refine lv_imul hx hb dX6_digestMessage_38 ?_
    refine lv_topi (fun b2 e3 => ?_)
    have hf := lt_use e3 hf
    refine lv_istore (lv' := [(6, .int b2), (0, .ref (ad 0)), (3, .int a3), (4, .long a4)]) hx hb dX6_digestMessage_39 hl (by decide) rfl (fun ls hl => ?_)
    exact tX6_digestMessage_41 hC F F x a3 a4 b2 hf H locs ls hP hS (lv_sub hl [1, 2, 3, 0] rfl)
  · have hf := it_f c1 hf
    refine lv_ldc2 (v := 31) hx hb hC.2.2.2.1 (hC.2.2.2.2.1 _ qw776) dX6_digestMessage_13 ?_
    refine lv_lload hx hb dX6_digestMessage_16 (lv_at hl 2 rfl) ?_
    refine lv_lmul hx hb dX6_digestMessage_18 ?_
    refine lv_aload_n hx hb dX6_digestMessage_19 rfl (lv_at hl 0 rfl) ?_
    refine lv_iload_n hx hb dX6_digestMessage_20 rfl (lv_at hl 1 rfl) ?_
    refine lv_iload hx hb dX6_digestMessage_21 (lv_at hl 3 rfl) ?_
    obtain ⟨r5, x4, e6, hf⟩ := bd_some hf
    refine gVi (As := [.int a3, .int a6]) (rest := [.long ((31 : Int64) * a4)]) (k := 0) hC hP hS (kX6_messageFact l D cy tX tY ad A hC.2.2.2.2.2.2.2.2.1 F x a3 a6 e6) glX6_145 ⟨rfl, rfl⟩ hdX6_messageFact ⟨Nat.le_of_ble_eq_true rfl, Nat.le_of_ble_eq_true rfl⟩ (by decide) (eX_0 cy ad _ _) rfl rfl hl.1 rfl (Nat.le_of_ble_eq_true rfl) dX6_digestMessage_23 ⟨Nat.zero_le _, Nat.zero_le _⟩ (fun H locs hP hS => ?_)
    refine lv_i2l hx hb dX6_digestMessage_26 rfl ?_
    refine lv_ladd hx hb dX6_digestMessage_27 ?_
    refine lv_topl (fun b7 e8 => ?_)
    have hf := lt_use e8 hf
    refine lv_lstore (lv' := [(4, .long b7), (0, .ref (ad 0)), (3, .int a3), (6, .int a6)]) hx hb dX6_digestMessage_28 hl (by decide) rfl (fun ls hl => ?_)
    obtain ⟨b9, e10, hf⟩ := lt_some hf
    refine lv_iinc (v := b9) (lv' := [(6, .int b9), (4, .long b7), (0, .ref (ad 0)), (3, .int a3)]) hx hb dX6_digestMessage_30 hl (k := 3) rfl (by rw [e10]; rfl) (by decide) rfl (fun ls hl => ?_)
    refine lv_goto (tgt := 6) hx hb dX6_digestMessage_33 (by decide) ?_
    exact hrec6 x4 a3 b7 b9 hf H locs ls hP hS (lv_sub hl [2, 3, 1, 0] rfl)
theorem tX6_digestMessage_6 (hC : Cf p s m args meth c cX6_digestMessage 8 RX6 (some .long) D cy tX tY ad A 93) (F : Nat) {z : Int64 × HT} : ∀ (n9 : Nat) (x : HT) (a3 : Int32) (a4 : Int64) (a6 : Int32), fX6_digestMessage_6 F n9 x a3 a4 a6 = some z → Wd p l e { frames := 4, cells := 0, slots := 0, locals := 96 } s m args below meth c D (eX cy ad) 93 ad A (cQl (eX cy ad) 93 ad D A z) 8 6 [(0, .ref (ad 0)), (3, .int a3), (4, .long a4), (6, .int a6)] [] x := by
  intro n9
  induction n9 with
  | zero => intro x a3 a4 a6 hf; cases hf
  | succ n9 ih => intro x a3 a4 a6 hf; exact tX6_digestMessage_6b hC F (fX6_digestMessage_6 F n9) ih x a3 a4 a6 hf
set_option maxHeartbeats 4000000 in
set_option maxRecDepth 100000 in
theorem kX6_digestMessage (l : Launch) (D : va_G) (cy : Nat → ClassId) (tX tY : Nat) (ad : Nat → Nat) (A : Nat → Prop) (hA : apart ad A 93) (F : Nat) (x : HT) (a1 : Int64) (a3 : Int32) {z : Int64 × HT} (hf : fX6_digestMessage F x a1 a3 = some z) : Met l yX6_digestMessage (Cond.code yX6_digestMessage cX6_digestMessage 8 (some .long) :: wAll) { frames := 4, cells := 0, slots := 0, locals := 96 } (cPc (eX cy ad) 93 ad D cy tX tY A [.ref (ad 0), .long a1, .int a3] x) (cQl (eX cy ad) 93 ad D A z) 0 0 A := by
  refine gMet hA (by decide) (Nat.le_of_ble_eq_true rfl) (fun p e s m below meth c hC H locs ls hP hS hl => ?_)
  have hC : Cf p s m _ meth c cX6_digestMessage 8 RX6 (some .long) D cy tX tY ad A 93 := hC
  have hl : lv_has ls 8 [(0, .ref (ad 0)), (1, .long a1), (3, .int a3)] := hl
  obtain ⟨hx, hb, -⟩ := id hC
  refine lv_lload_n hx hb dX6_digestMessage_0 rfl (lv_at hl 1 rfl) ?_
  refine lv_lstore (lv' := [(4, .long a1), (0, .ref (ad 0)), (1, .long a1), (3, .int a3)]) hx hb dX6_digestMessage_1 hl (by decide) rfl (fun ls hl => ?_)
  refine lv_iconst (v := 0) hx hb dX6_digestMessage_3 (by decide) ?_
  refine lv_istore (lv' := [(6, .int (0 : Int32)), (4, .long a1), (0, .ref (ad 0)), (1, .long a1), (3, .int a3)]) hx hb dX6_digestMessage_4 hl (by decide) rfl (fun ls hl => ?_)
  exact tX6_digestMessage_6 hC F F x a3 a1 (0 : Int32) hf H locs ls hP hS (lv_sub hl [2, 4, 1, 0] rfl)
set_option maxHeartbeats 4000000 in
set_option maxRecDepth 100000 in
theorem tX6_digest_104b (hC : Cf p s m args meth c cX6_digest 4 RX6 (some .long) D cy tX tY ad A 93) (F : Nat) {z : Int64 × HT} (rec104 : HT → Int64 → Int32 → Option (Int64 × HT)) (hrec104 : ∀ (x : HT) (a1 : Int64) (a3 : Int32), rec104 x a1 a3 = some z → Wd p l e { frames := 5, cells := 0, slots := 0, locals := 123 } s m args below meth c D (eX cy ad) 93 ad A (cQl (eX cy ad) 93 ad D A z) 4 104 [(0, .ref (ad 0)), (1, .long a1), (3, .int a3)] [] x) : ∀ (x : HT) (a1 : Int64) (a3 : Int32), fX6_digest_104b F rec104 x a1 a3 = some z → Wd p l e { frames := 5, cells := 0, slots := 0, locals := 123 } s m args below meth c D (eX cy ad) 93 ad A (cQl (eX cy ad) 93 ad D A z) 4 104 [(0, .ref (ad 0)), (1, .long a1), (3, .int a3)] [] x := by
  intro x a1 a3 hf H locs ls hP hS hl
  obtain ⟨hx, hb, -⟩ := id hC
  refine lv_iload_n hx hb dX6_digest_104 rfl (lv_at hl 2 rfl) ?_
  refine lv_aload_n hx hb dX6_digest_105 rfl (lv_at hl 0 rfl) ?_
  refine gfX6_12 hC hP dX6_digest_106 ?_
  refine gfX6_203 hC hP (by decide) dX6_digest_109 ?_
  refine lv_icmp_ge (tgt := 128) hx hb dX6_digest_112 (by decide) (fun c29 => ?_) (fun c29 => ?_)
  · have hf := it_t c29 hf
    refine lv_ldc2 (v := 31) hx hb hC.2.2.2.1 (hC.2.2.2.2.1 _ qw776) dX6_digest_128 ?_
    refine lv_lload_n hx hb dX6_digest_131 rfl (lv_at hl 1 rfl) ?_
    refine lv_lmul hx hb dX6_digest_132 ?_
    refine lv_aload_n hx hb dX6_digest_133 rfl (lv_at hl 0 rfl) ?_
    refine lv_iconst (v := -1) hx hb dX6_digest_134 (by decide) ?_
    obtain ⟨r31, x30, e32, hf⟩ := bd_some hf
    refine gVi (As := [.int (-1 : Int32)]) (rest := [.long ((31 : Int64) * a1)]) (k := 0) hC hP hS (kX6_stepsUntilDone l D cy tX tY ad A hC.2.2.2.2.2.2.2.2.1 F x (-1 : Int32) e32) glX6_148 ⟨rfl, rfl⟩ hdX6_stepsUntilDone ⟨Nat.le_of_ble_eq_true rfl, Nat.le_of_ble_eq_true rfl⟩ (by decide) (eX_0 cy ad _ _) rfl rfl hl.1 rfl (Nat.le_of_ble_eq_true rfl) dX6_digest_135 ⟨Nat.zero_le _, Nat.zero_le _⟩ (fun H locs hP hS => ?_)
    refine lv_i2l hx hb dX6_digest_138 rfl ?_
    refine lv_ladd hx hb dX6_digest_139 ?_
    exact gLret hC hP hS hf dX6_digest_140
  · have hf := it_f c29 hf
    refine lv_aload_n hx hb dX6_digest_115 rfl (lv_at hl 0 rfl) ?_
    refine lv_lload_n hx hb dX6_digest_116 rfl (lv_at hl 1 rfl) ?_
    refine lv_iload_n hx hb dX6_digest_117 rfl (lv_at hl 2 rfl) ?_
    obtain ⟨r34, x33, e35, hf⟩ := bd_some hf
    refine gVl (As := [.long a1, .int a3]) (rest := []) (k := 0) hC hP hS (kX6_digestMessage l D cy tX tY ad A hC.2.2.2.2.2.2.2.2.1 F x a1 a3 e35) glX6_207 ⟨rfl, rfl⟩ hdX6_digestMessage ⟨Nat.le_of_ble_eq_true rfl, Nat.le_of_ble_eq_true rfl⟩ (by decide) (eX_0 cy ad _ _) rfl rfl hl.1 rfl (Nat.le_of_ble_eq_true rfl) dX6_digest_118 ⟨Nat.zero_le _, Nat.zero_le _⟩ (fun H locs hP hS => ?_)
    refine lv_lstore_n (lv' := [(1, .long r34), (0, .ref (ad 0)), (3, .int a3)]) hx hb dX6_digest_121 rfl hl (by decide) rfl (fun ls hl => ?_)
    obtain ⟨b36, e37, hf⟩ := lt_some hf
    refine lv_iinc (v := b36) (lv' := [(3, .int b36), (1, .long r34), (0, .ref (ad 0))]) hx hb dX6_digest_122 hl (k := 2) rfl (by rw [e37]; rfl) (by decide) rfl (fun ls hl => ?_)
    refine lv_goto (tgt := 104) hx hb dX6_digest_125 (by decide) ?_
    exact hrec104 x33 r34 b36 hf H locs ls hP hS (lv_sub hl [2, 1, 0] rfl)
theorem tX6_digest_104 (hC : Cf p s m args meth c cX6_digest 4 RX6 (some .long) D cy tX tY ad A 93) (F : Nat) {z : Int64 × HT} : ∀ (n9 : Nat) (x : HT) (a1 : Int64) (a3 : Int32), fX6_digest_104 F n9 x a1 a3 = some z → Wd p l e { frames := 5, cells := 0, slots := 0, locals := 123 } s m args below meth c D (eX cy ad) 93 ad A (cQl (eX cy ad) 93 ad D A z) 4 104 [(0, .ref (ad 0)), (1, .long a1), (3, .int a3)] [] x := by
  intro n9
  induction n9 with
  | zero => intro x a1 a3 hf; cases hf
  | succ n9 ih => intro x a1 a3 hf; exact tX6_digest_104b hC F (fX6_digest_104 F n9) ih x a1 a3 hf
set_option maxHeartbeats 4000000 in
set_option maxRecDepth 100000 in
theorem tX6_digest_93 (hC : Cf p s m args meth c cX6_digest 4 RX6 (some .long) D cy tX tY ad A 93) (F : Nat) {z : Int64 × HT} (rec59 : HT → Int64 → Int32 → Option (Int64 × HT)) (hrec59 : ∀ (x : HT) (a1 : Int64) (a3 : Int32), rec59 x a1 a3 = some z → Wd p l e { frames := 5, cells := 0, slots := 0, locals := 123 } s m args below meth c D (eX cy ad) 93 ad A (cQl (eX cy ad) 93 ad D A z) 4 59 [(0, .ref (ad 0)), (1, .long a1), (3, .int a3)] [] x) : ∀ (x : HT) (a3 : Int32) (t0 : Int64) (t1 : Int32), fX6_digest_93 F rec59 x a3 t0 t1 = some z → Wd p l e { frames := 5, cells := 0, slots := 0, locals := 123 } s m args below meth c D (eX cy ad) 93 ad A (cQl (eX cy ad) 93 ad D A z) 4 93 [(0, .ref (ad 0)), (3, .int a3)] [.int t1, .long t0] x := by
  intro x a3 t0 t1 hf H locs ls hP hS hl
  obtain ⟨hx, hb, -⟩ := id hC
  refine lv_i2l hx hb dX6_digest_93 rfl ?_
  refine lv_ladd hx hb dX6_digest_94 ?_
  refine lv_topl (fun b25 e26 => ?_)
  have hf := lt_use e26 hf
  refine lv_lstore_n (lv' := [(1, .long b25), (0, .ref (ad 0)), (3, .int a3)]) hx hb dX6_digest_95 rfl hl (by decide) rfl (fun ls hl => ?_)
  obtain ⟨b27, e28, hf⟩ := lt_some hf
  refine lv_iinc (v := b27) (lv' := [(3, .int b27), (1, .long b25), (0, .ref (ad 0))]) hx hb dX6_digest_96 hl (k := 2) rfl (by rw [e28]; rfl) (by decide) rfl (fun ls hl => ?_)
  refine lv_goto (tgt := 59) hx hb dX6_digest_99 (by decide) ?_
  exact hrec59 x b25 b27 hf H locs ls hP hS (lv_sub hl [2, 1, 0] rfl)
set_option maxHeartbeats 4000000 in
set_option maxRecDepth 100000 in
theorem tX6_digest_59b (hC : Cf p s m args meth c cX6_digest 4 RX6 (some .long) D cy tX tY ad A 93) (F : Nat) {z : Int64 × HT} (rec59 : HT → Int64 → Int32 → Option (Int64 × HT)) (hrec59 : ∀ (x : HT) (a1 : Int64) (a3 : Int32), rec59 x a1 a3 = some z → Wd p l e { frames := 5, cells := 0, slots := 0, locals := 123 } s m args below meth c D (eX cy ad) 93 ad A (cQl (eX cy ad) 93 ad D A z) 4 59 [(0, .ref (ad 0)), (1, .long a1), (3, .int a3)] [] x) : ∀ (x : HT) (a1 : Int64) (a3 : Int32), fX6_digest_59b F rec59 x a1 a3 = some z → Wd p l e { frames := 5, cells := 0, slots := 0, locals := 123 } s m args below meth c D (eX cy ad) 93 ad A (cQl (eX cy ad) 93 ad D A z) 4 59 [(0, .ref (ad 0)), (1, .long a1), (3, .int a3)] [] x := by
  intro x a1 a3 hf H locs ls hP hS hl
  obtain ⟨hx, hb, -⟩ := id hC
  refine lv_iload_n hx hb dX6_digest_59 rfl (lv_at hl 2 rfl) ?_
  refine lv_aload_n hx hb dX6_digest_60 rfl (lv_at hl 0 rfl) ?_
  refine gfX6_32 hC hP dX6_digest_61 ?_
  obtain ⟨r18, x17, e19, hf⟩ := bd_some hf
  refine gVi (As := []) (rest := [.int a3]) (k := 59) hC hP hS (kX0_places l D cy tX tY ad A hC.2.2.2.2.2.2.2.2.1 F x e19) glX6_197 ⟨rfl, rfl⟩ hdX0_places ⟨Nat.le_of_ble_eq_true rfl, Nat.le_of_ble_eq_true rfl⟩ (by decide) (eX_59 cy ad _ _) rfl rfl hl.1 rfl (Nat.le_of_ble_eq_true rfl) dX6_digest_64 ⟨Nat.zero_le _, Nat.zero_le _⟩ (fun H locs hP hS => ?_)
  refine lv_iconst (v := 4) hx hb dX6_digest_67 (by decide) ?_
  refine lv_imul hx hb dX6_digest_68 ?_
  refine lv_icmp_ge (tgt := 102) hx hb dX6_digest_69 (by decide) (fun c20 => ?_) (fun c20 => ?_)
  · have hf := it_t c20 hf
    refine lv_iconst (v := 0) hx hb dX6_digest_102 (by decide) ?_
    refine lv_istore_n (lv' := [(3, .int (0 : Int32)), (0, .ref (ad 0)), (1, .long a1)]) hx hb dX6_digest_103 rfl hl (by decide) rfl (fun ls hl => ?_)
    exact tX6_digest_104 hC F F x17 a1 (0 : Int32) hf H locs ls hP hS (lv_sub hl [1, 2, 0] rfl)
  · have hf := it_f c20 hf
    refine lv_ldc2 (v := 31) hx hb hC.2.2.2.1 (hC.2.2.2.2.1 _ qw776) dX6_digest_72 ?_
    refine lv_lload_n hx hb dX6_digest_75 rfl (lv_at hl 1 rfl) ?_
    refine lv_lmul hx hb dX6_digest_76 ?_
    refine lv_aload_n hx hb dX6_digest_77 rfl (lv_at hl 0 rfl) ?_
    refine gfX6_12 hC hP dX6_digest_78 ?_
    refine lv_iload_n hx hb dX6_digest_81 rfl (lv_at hl 2 rfl) ?_
    obtain ⟨r22, x21, e23, hf⟩ := bd_some hf
    refine gVi (As := [.int a3]) (rest := [.long ((31 : Int64) * a1)]) (k := (7 * 0 + 1)) hC hP hS (kX2_isDown l D cy tX tY ad A hC.2.2.2.2.2.2.2.2.1 F (j := 0) (by decide) x17 a3 e23) glX6_200 ⟨rfl, rfl⟩ hdX2_isDown ⟨Nat.le_of_ble_eq_true rfl, Nat.le_of_ble_eq_true rfl⟩ (by omega) (eX_S (by decide) cy ad _ _) rfl rfl hl.1 rfl (Nat.le_of_ble_eq_true rfl) dX6_digest_82 ⟨Nat.zero_le _, Nat.zero_le _⟩ (fun H locs hP hS => ?_)
    refine lv_if_eq (tgt := 92) hx hb dX6_digest_85 (by decide) (fun c24 => ?_) (fun c24 => ?_)
    · have hf := it_t c24 hf
      refine lv_iconst (v := 0) hx hb dX6_digest_92 (by decide) ?_
      exact tX6_digest_93 hC F rec59 hrec59 x21 a3 ((31 : Int64) * a1) (0 : Int32) hf H locs ls hP hS (lv_sub hl [0, 2] rfl)
    · have hf := it_f c24 hf
      refine lv_iconst (v := 1) hx hb dX6_digest_88 (by decide) ?_
      refine lv_goto (tgt := 93) hx hb dX6_digest_89 (by decide) ?_
      exact tX6_digest_93 hC F rec59 hrec59 x21 a3 ((31 : Int64) * a1) (1 : Int32) hf H locs ls hP hS (lv_sub hl [0, 2] rfl)
theorem tX6_digest_59 (hC : Cf p s m args meth c cX6_digest 4 RX6 (some .long) D cy tX tY ad A 93) (F : Nat) {z : Int64 × HT} : ∀ (n9 : Nat) (x : HT) (a1 : Int64) (a3 : Int32), fX6_digest_59 F n9 x a1 a3 = some z → Wd p l e { frames := 5, cells := 0, slots := 0, locals := 123 } s m args below meth c D (eX cy ad) 93 ad A (cQl (eX cy ad) 93 ad D A z) 4 59 [(0, .ref (ad 0)), (1, .long a1), (3, .int a3)] [] x := by
  intro n9
  induction n9 with
  | zero => intro x a1 a3 hf; cases hf
  | succ n9 ih => intro x a1 a3 hf; exact tX6_digest_59b hC F (fX6_digest_59 F n9) ih x a1 a3 hf
set_option maxHeartbeats 4000000 in
set_option maxRecDepth 100000 in
theorem tX6_digest_32b (hC : Cf p s m args meth c cX6_digest 4 RX6 (some .long) D cy tX tY ad A 93) (F : Nat) {z : Int64 × HT} (rec32 : HT → Int64 → Int32 → Option (Int64 × HT)) (hrec32 : ∀ (x : HT) (a1 : Int64) (a3 : Int32), rec32 x a1 a3 = some z → Wd p l e { frames := 5, cells := 0, slots := 0, locals := 123 } s m args below meth c D (eX cy ad) 93 ad A (cQl (eX cy ad) 93 ad D A z) 4 32 [(0, .ref (ad 0)), (1, .long a1), (3, .int a3)] [] x) : ∀ (x : HT) (a1 : Int64) (a3 : Int32), fX6_digest_32b F rec32 x a1 a3 = some z → Wd p l e { frames := 5, cells := 0, slots := 0, locals := 123 } s m args below meth c D (eX cy ad) 93 ad A (cQl (eX cy ad) 93 ad D A z) 4 32 [(0, .ref (ad 0)), (1, .long a1), (3, .int a3)] [] x := by
  intro x a1 a3 hf H locs ls hP hS hl
  obtain ⟨hx, hb, -⟩ := id hC
  refine lv_iload_n hx hb dX6_digest_32 rfl (lv_at hl 2 rfl) ?_
  refine lv_bipush (v := 8) hx hb dX6_digest_33 (by decide) ?_
  refine lv_icmp_ge (tgt := 57) hx hb dX6_digest_35 (by decide) (fun c9 => ?_) (fun c9 => ?_)
  · have hf := it_t c9 hf
    refine lv_iconst (v := 0) hx hb dX6_digest_57 (by decide) ?_
    refine lv_istore_n (lv' := [(3, .int (0 : Int32)), (0, .ref (ad 0)), (1, .long a1)]) hx hb dX6_digest_58 rfl hl (by decide) rfl (fun ls hl => ?_)
    exact tX6_digest_59 hC F F x a1 (0 : Int32) hf H locs ls hP hS (lv_sub hl [1, 2, 0] rfl)
  · have hf := it_f c9 hf
    refine lv_ldc2 (v := 31) hx hb hC.2.2.2.1 (hC.2.2.2.2.1 _ qw776) dX6_digest_38 ?_
    refine lv_lload_n hx hb dX6_digest_41 rfl (lv_at hl 1 rfl) ?_
    refine lv_lmul hx hb dX6_digest_42 ?_
    refine lv_aload_n hx hb dX6_digest_43 rfl (lv_at hl 0 rfl) ?_
    refine lv_iload_n hx hb dX6_digest_44 rfl (lv_at hl 2 rfl) ?_
    obtain ⟨r11, x10, e12, hf⟩ := bd_some hf
    refine gVi (As := [.int a3]) (rest := [.long ((31 : Int64) * a1)]) (k := 0) hC hP hS (kX6_countFact l D cy tX tY ad A hC.2.2.2.2.2.2.2.2.1 F x a3 e12) glX6_151 ⟨rfl, rfl⟩ hdX6_countFact ⟨Nat.le_of_ble_eq_true rfl, Nat.le_of_ble_eq_true rfl⟩ (by decide) (eX_0 cy ad _ _) rfl rfl hl.1 rfl (Nat.le_of_ble_eq_true rfl) dX6_digest_45 ⟨Nat.zero_le _, Nat.zero_le _⟩ (fun H locs hP hS => ?_)
    refine lv_i2l hx hb dX6_digest_48 rfl ?_
    refine lv_ladd hx hb dX6_digest_49 ?_
    refine lv_topl (fun b13 e14 => ?_)
    have hf := lt_use e14 hf
    refine lv_lstore_n (lv' := [(1, .long b13), (0, .ref (ad 0)), (3, .int a3)]) hx hb dX6_digest_50 rfl hl (by decide) rfl (fun ls hl => ?_)
    obtain ⟨b15, e16, hf⟩ := lt_some hf
    refine lv_iinc (v := b15) (lv' := [(3, .int b15), (1, .long b13), (0, .ref (ad 0))]) hx hb dX6_digest_51 hl (k := 2) rfl (by rw [e16]; rfl) (by decide) rfl (fun ls hl => ?_)
    refine lv_goto (tgt := 32) hx hb dX6_digest_54 (by decide) ?_
    exact hrec32 x10 b13 b15 hf H locs ls hP hS (lv_sub hl [2, 1, 0] rfl)
theorem tX6_digest_32 (hC : Cf p s m args meth c cX6_digest 4 RX6 (some .long) D cy tX tY ad A 93) (F : Nat) {z : Int64 × HT} : ∀ (n9 : Nat) (x : HT) (a1 : Int64) (a3 : Int32), fX6_digest_32 F n9 x a1 a3 = some z → Wd p l e { frames := 5, cells := 0, slots := 0, locals := 123 } s m args below meth c D (eX cy ad) 93 ad A (cQl (eX cy ad) 93 ad D A z) 4 32 [(0, .ref (ad 0)), (1, .long a1), (3, .int a3)] [] x := by
  intro n9
  induction n9 with
  | zero => intro x a1 a3 hf; cases hf
  | succ n9 ih => intro x a1 a3 hf; exact tX6_digest_32b hC F (fX6_digest_32 F n9) ih x a1 a3 hf
set_option maxHeartbeats 4000000 in
set_option maxRecDepth 100000 in
theorem tX6_digest_6b (hC : Cf p s m args meth c cX6_digest 4 RX6 (some .long) D cy tX tY ad A 93) (F : Nat) {z : Int64 × HT} (rec6 : HT → Int64 → Int32 → Option (Int64 × HT)) (hrec6 : ∀ (x : HT) (a1 : Int64) (a3 : Int32), rec6 x a1 a3 = some z → Wd p l e { frames := 5, cells := 0, slots := 0, locals := 123 } s m args below meth c D (eX cy ad) 93 ad A (cQl (eX cy ad) 93 ad D A z) 4 6 [(0, .ref (ad 0)), (1, .long a1), (3, .int a3)] [] x) : ∀ (x : HT) (a1 : Int64) (a3 : Int32), fX6_digest_6b F rec6 x a1 a3 = some z → Wd p l e { frames := 5, cells := 0, slots := 0, locals := 123 } s m args below meth c D (eX cy ad) 93 ad A (cQl (eX cy ad) 93 ad D A z) 4 6 [(0, .ref (ad 0)), (1, .long a1), (3, .int a3)] [] x := by
  intro x a1 a3 hf H locs ls hP hS hl
  obtain ⟨hx, hb, -⟩ := id hC
  refine lv_iload_n hx hb dX6_digest_6 rfl (lv_at hl 2 rfl) ?_
  refine lv_iconst (v := 5) hx hb dX6_digest_7 (by decide) ?_
  refine lv_icmp_ge (tgt := 30) hx hb dX6_digest_8 (by decide) (fun c1 => ?_) (fun c1 => ?_)
  · have hf := it_t c1 hf
    refine lv_iconst (v := 0) hx hb dX6_digest_30 (by decide) ?_
    refine lv_istore_n (lv' := [(3, .int (0 : Int32)), (0, .ref (ad 0)), (1, .long a1)]) hx hb dX6_digest_31 rfl hl (by decide) rfl (fun ls hl => ?_)
    exact tX6_digest_32 hC F F x a1 (0 : Int32) hf H locs ls hP hS (lv_sub hl [1, 2, 0] rfl)
  · have hf := it_f c1 hf
    refine lv_ldc2 (v := 31) hx hb hC.2.2.2.1 (hC.2.2.2.2.1 _ qw776) dX6_digest_11 ?_
    refine lv_lload_n hx hb dX6_digest_14 rfl (lv_at hl 1 rfl) ?_
    refine lv_lmul hx hb dX6_digest_15 ?_
    refine lv_aload_n hx hb dX6_digest_16 rfl (lv_at hl 0 rfl) ?_
    refine lv_iload_n hx hb dX6_digest_17 rfl (lv_at hl 2 rfl) ?_
    obtain ⟨r3, x2, e4, hf⟩ := bd_some hf
    refine gVi (As := [.int a3]) (rest := [.long ((31 : Int64) * a1)]) (k := 0) hC hP hS (kX6_toldFact l D cy tX tY ad A hC.2.2.2.2.2.2.2.2.1 F x a3 e4) glX6_190 ⟨rfl, rfl⟩ hdX6_toldFact ⟨Nat.le_of_ble_eq_true rfl, Nat.le_of_ble_eq_true rfl⟩ (by decide) (eX_0 cy ad _ _) rfl rfl hl.1 rfl (Nat.le_of_ble_eq_true rfl) dX6_digest_18 ⟨Nat.zero_le _, Nat.zero_le _⟩ (fun H locs hP hS => ?_)
    refine lv_i2l hx hb dX6_digest_21 rfl ?_
    refine lv_ladd hx hb dX6_digest_22 ?_
    refine lv_topl (fun b5 e6 => ?_)
    have hf := lt_use e6 hf
    refine lv_lstore_n (lv' := [(1, .long b5), (0, .ref (ad 0)), (3, .int a3)]) hx hb dX6_digest_23 rfl hl (by decide) rfl (fun ls hl => ?_)
    obtain ⟨b7, e8, hf⟩ := lt_some hf
    refine lv_iinc (v := b7) (lv' := [(3, .int b7), (1, .long b5), (0, .ref (ad 0))]) hx hb dX6_digest_24 hl (k := 2) rfl (by rw [e8]; rfl) (by decide) rfl (fun ls hl => ?_)
    refine lv_goto (tgt := 6) hx hb dX6_digest_27 (by decide) ?_
    exact hrec6 x2 b5 b7 hf H locs ls hP hS (lv_sub hl [2, 1, 0] rfl)
theorem tX6_digest_6 (hC : Cf p s m args meth c cX6_digest 4 RX6 (some .long) D cy tX tY ad A 93) (F : Nat) {z : Int64 × HT} : ∀ (n9 : Nat) (x : HT) (a1 : Int64) (a3 : Int32), fX6_digest_6 F n9 x a1 a3 = some z → Wd p l e { frames := 5, cells := 0, slots := 0, locals := 123 } s m args below meth c D (eX cy ad) 93 ad A (cQl (eX cy ad) 93 ad D A z) 4 6 [(0, .ref (ad 0)), (1, .long a1), (3, .int a3)] [] x := by
  intro n9
  induction n9 with
  | zero => intro x a1 a3 hf; cases hf
  | succ n9 ih => intro x a1 a3 hf; exact tX6_digest_6b hC F (fX6_digest_6 F n9) ih x a1 a3 hf
set_option maxHeartbeats 4000000 in
set_option maxRecDepth 100000 in
theorem kX6_digest (l : Launch) (D : va_G) (cy : Nat → ClassId) (tX tY : Nat) (ad : Nat → Nat) (A : Nat → Prop) (hA : apart ad A 93) (F : Nat) (x : HT) {z : Int64 × HT} (hf : fX6_digest F x = some z) : Met l yX6_digest (Cond.code yX6_digest cX6_digest 4 (some .long) :: wAll) { frames := 5, cells := 0, slots := 0, locals := 123 } (cPc (eX cy ad) 93 ad D cy tX tY A [.ref (ad 0)] x) (cQl (eX cy ad) 93 ad D A z) 0 0 A := by
  refine gMet hA (by decide) (Nat.le_of_ble_eq_true rfl) (fun p e s m below meth c hC H locs ls hP hS hl => ?_)
  have hC : Cf p s m _ meth c cX6_digest 4 RX6 (some .long) D cy tX tY ad A 93 := hC
  have hl : lv_has ls 4 [(0, .ref (ad 0))] := hl
  obtain ⟨hx, hb, -⟩ := id hC
  refine lv_ldc2 (v := 2806) hx hb hC.2.2.2.1 (hC.2.2.2.2.1 _ qw775) dX6_digest_0 ?_
  refine lv_lstore_n (lv' := [(1, .long (2806 : Int64)), (0, .ref (ad 0))]) hx hb dX6_digest_3 rfl hl (by decide) rfl (fun ls hl => ?_)
  refine lv_iconst (v := 0) hx hb dX6_digest_4 (by decide) ?_
  refine lv_istore_n (lv' := [(3, .int (0 : Int32)), (1, .long (2806 : Int64)), (0, .ref (ad 0))]) hx hb dX6_digest_5 rfl hl (by decide) rfl (fun ls hl => ?_)
  exact tX6_digest_6 hC F F x (2806 : Int64) (0 : Int32) hf H locs ls hP hS (lv_sub hl [2, 1, 0] rfl)
