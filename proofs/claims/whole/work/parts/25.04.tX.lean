variable {p : Program} {l : Launch} {e : Env} {s : State} {m : MethodId} {args : Array Value} {below : List Frame} {meth : Method} {c : Code} {D : va_G} {cy : Nat → ClassId} {tX tY : Nat} {ad : Nat → Nat} {A : Nat → Prop}
set_option maxHeartbeats 4000000 in
set_option maxRecDepth 100000 in
theorem tX6_told_9 (hC : Cf p s m args meth c cX6_told 2 RX6 (some .int) D cy tX tY ad A 93) (F : Nat) {z : Int32 × HT} : ∀ (x : HT), fX6_told_9 F x = some z → Wd p l e { frames := 2, cells := 0, slots := 0, locals := 41 } s m args below meth c D (eX cy ad) 93 ad A (cQi (eX cy ad) 93 ad D A z) 2 9 [(0, .ref (ad 0))] [] x := by
  intro x hf H locs ls hP hS hl
  obtain ⟨hx, hb, -⟩ := id hC
  refine lv_aload_n hx hb dX6_told_9 rfl (lv_at hl 0 rfl) ?_
  refine lv_bipush (v := -2) hx hb dX6_told_10 (by decide) ?_
  obtain ⟨r7, x6, e8, hf⟩ := bd_some hf
  refine gVi (As := [.int (-2 : Int32)]) (rest := []) (k := 0) hC hP hS (kX6_refuse l D cy tX tY ad A hC.2.2.2.2.2.2.2.2.1 F x (-2 : Int32) e8) glX6_102 ⟨rfl, rfl⟩ hdX6_refuse ⟨Nat.le_of_ble_eq_true rfl, Nat.le_of_ble_eq_true rfl⟩ (by decide) (eX_0 cy ad _ _) rfl rfl hl.1 rfl (Nat.le_of_ble_eq_true rfl) dX6_told_12 ⟨Nat.zero_le _, Nat.zero_le _⟩ (fun H locs hP hS => ?_)
  refine lv_goto (tgt := 23) hx hb dX6_told_15 (by decide) ?_
  exact gIret hC hP hS hf dX6_told_23
set_option maxHeartbeats 4000000 in
set_option maxRecDepth 100000 in
theorem kX6_told (l : Launch) (D : va_G) (cy : Nat → ClassId) (tX tY : Nat) (ad : Nat → Nat) (A : Nat → Prop) (hA : apart ad A 93) (F : Nat) (x : HT) (a1 : Int32) {z : Int32 × HT} (hf : fX6_told F x a1 = some z) : Met l yX6_told (Cond.code yX6_told cX6_told 2 (some .int) :: wAll) { frames := 2, cells := 0, slots := 0, locals := 41 } (cPc (eX cy ad) 93 ad D cy tX tY A [.ref (ad 0), .int a1] x) (cQi (eX cy ad) 93 ad D A z) 0 0 A := by
  refine gMet hA (by decide) (Nat.le_of_ble_eq_true rfl) (fun p e s m below meth c hC H locs ls hP hS hl => ?_)
  have hC : Cf p s m _ meth c cX6_told 2 RX6 (some .int) D cy tX tY ad A 93 := hC
  have hl : lv_has ls 2 [(0, .ref (ad 0)), (1, .int a1)] := hl
  obtain ⟨hx, hb, -⟩ := id hC
  refine lv_iload_n hx hb dX6_told_0 rfl (lv_at hl 1 rfl) ?_
  refine lv_if_lt (tgt := 9) hx hb dX6_told_1 (by decide) (fun c1 => ?_) (fun c1 => ?_)
  · have hf := it_t c1 hf
    exact tX6_told_9 hC F x hf H locs ls hP hS (lv_sub hl [0] rfl)
  · have hf := it_f c1 hf
    refine lv_iload_n hx hb dX6_told_4 rfl (lv_at hl 1 rfl) ?_
    refine lv_iconst (v := 5) hx hb dX6_told_5 (by decide) ?_
    refine lv_icmp_lt (tgt := 18) hx hb dX6_told_6 (by decide) (fun c2 => ?_) (fun c2 => ?_)
    · have hf := it_t c2 hf
      refine lv_aload_n hx hb dX6_told_18 rfl (lv_at hl 0 rfl) ?_
      refine lv_iload_n hx hb dX6_told_19 rfl (lv_at hl 1 rfl) ?_
      obtain ⟨r4, x3, e5, hf⟩ := bd_some hf
      refine gVi (As := [.int a1]) (rest := []) (k := 0) hC hP hS (kX6_toldFact l D cy tX tY ad A hC.2.2.2.2.2.2.2.2.1 F x a1 e5) glX6_192 ⟨rfl, rfl⟩ hdX6_toldFact ⟨Nat.le_of_ble_eq_true rfl, Nat.le_of_ble_eq_true rfl⟩ (by decide) (eX_0 cy ad _ _) rfl rfl hl.1 rfl (Nat.le_of_ble_eq_true rfl) dX6_told_20 ⟨Nat.zero_le _, Nat.zero_le _⟩ (fun H locs hP hS => ?_)
      exact gIret hC hP hS hf dX6_told_23
    · have hf := it_f c2 hf
      exact tX6_told_9 hC F x hf H locs ls hP hS (lv_sub hl [0] rfl)
set_option maxHeartbeats 4000000 in
set_option maxRecDepth 100000 in
theorem tX6_digestMessage_88b (hC : Cf p s m args meth c cX6_digestMessage 8 RX6 (some .long) D cy tX tY ad A 93) (F : Nat) {z : Int64 × HT} (rec41 : HT → Int32 → Int64 → Int32 → Option (Int64 × HT)) (hrec41 : ∀ (x : HT) (a3 : Int32) (a4 : Int64) (a6 : Int32), rec41 x a3 a4 a6 = some z → Wd p l e { frames := 4, cells := 0, slots := 0, locals := 96 } s m args below meth c D (eX cy ad) 93 ad A (cQl (eX cy ad) 93 ad D A z) 8 41 [(0, .ref (ad 0)), (3, .int a3), (4, .long a4), (6, .int a6)] [] x) (rec88 : HT → Int32 → Int64 → Int32 → Int32 → Option (Int64 × HT)) (hrec88 : ∀ (x : HT) (a3 : Int32) (a4 : Int64) (a6 : Int32) (a7 : Int32), rec88 x a3 a4 a6 a7 = some z → Wd p l e { frames := 4, cells := 0, slots := 0, locals := 96 } s m args below meth c D (eX cy ad) 93 ad A (cQl (eX cy ad) 93 ad D A z) 8 88 [(0, .ref (ad 0)), (3, .int a3), (4, .long a4), (6, .int a6), (7, .int a7)] [] x) : ∀ (x : HT) (a3 : Int32) (a4 : Int64) (a6 : Int32) (a7 : Int32), fX6_digestMessage_88b F rec41 rec88 x a3 a4 a6 a7 = some z → Wd p l e { frames := 4, cells := 0, slots := 0, locals := 96 } s m args below meth c D (eX cy ad) 93 ad A (cQl (eX cy ad) 93 ad D A z) 8 88 [(0, .ref (ad 0)), (3, .int a3), (4, .long a4), (6, .int a6), (7, .int a7)] [] x := by
  intro x a3 a4 a6 a7 hf H locs ls hP hS hl
  obtain ⟨hx, hb, -⟩ := id hC
  refine lv_iload hx hb dX6_digestMessage_88 (lv_at hl 4 rfl) ?_
  refine lv_aload_n hx hb dX6_digestMessage_90 rfl (lv_at hl 0 rfl) ?_
  refine gfX6_39 hC hP dX6_digestMessage_91 ?_
  refine lv_iload hx hb dX6_digestMessage_94 (lv_at hl 3 rfl) ?_
  obtain ⟨r21, x20, e22, hf⟩ := bd_some hf
  refine gVi (As := [.int a6]) (rest := [.int a7]) (k := 63) hC hP hS (kX5_channelsOf l D cy tX tY ad A hC.2.2.2.2.2.2.2.2.1 F x a6 e22) glX6_134 ⟨rfl, rfl⟩ hdX5_channelsOf ⟨Nat.le_of_ble_eq_true rfl, Nat.le_of_ble_eq_true rfl⟩ (by decide) (eX_63 cy ad _ _) rfl rfl hl.1 rfl (Nat.le_of_ble_eq_true rfl) dX6_digestMessage_96 ⟨Nat.zero_le _, Nat.zero_le _⟩ (fun H locs hP hS => ?_)
  refine lv_icmp_gt (tgt := 136) hx hb dX6_digestMessage_99 (by decide) (fun c23 => ?_) (fun c23 => ?_)
  · have hf := it_t c23 hf
    obtain ⟨b24, e25, hf⟩ := lt_some hf
    refine lv_iinc (v := b24) (lv' := [(6, .int b24), (0, .ref (ad 0)), (3, .int a3), (4, .long a4), (7, .int a7)]) hx hb dX6_digestMessage_136 hl (k := 3) rfl (by rw [e25]; rfl) (by decide) rfl (fun ls hl => ?_)
    refine lv_goto (tgt := 41) hx hb dX6_digestMessage_139 (by decide) ?_
    exact hrec41 x20 a3 a4 b24 hf H locs ls hP hS (lv_sub hl [1, 2, 3, 0] rfl)
  · have hf := it_f c23 hf
    refine lv_ldc2 (v := 31) hx hb hC.2.2.2.1 (hC.2.2.2.2.1 _ qw770) dX6_digestMessage_102 ?_
    refine lv_lload hx hb dX6_digestMessage_105 (lv_at hl 2 rfl) ?_
    refine lv_lmul hx hb dX6_digestMessage_107 ?_
    refine lv_aload_n hx hb dX6_digestMessage_108 rfl (lv_at hl 0 rfl) ?_
    refine gfX6_32 hC hP dX6_digestMessage_109 ?_
    refine lv_aload_n hx hb dX6_digestMessage_112 rfl (lv_at hl 0 rfl) ?_
    refine gfX6_39 hC hP dX6_digestMessage_113 ?_
    refine lv_iload hx hb dX6_digestMessage_116 (lv_at hl 3 rfl) ?_
    refine lv_iload hx hb dX6_digestMessage_118 (lv_at hl 4 rfl) ?_
    obtain ⟨r27, x26, e28, hf⟩ := bd_some hf
    refine gVi (As := [.int a6, .int a7]) (rest := [.ref (ad 59), .long ((31 : Int64) * a4)]) (k := 63) hC hP hS (kX5_placeOf l D cy tX tY ad A hC.2.2.2.2.2.2.2.2.1 F x20 a6 a7 e28) glX6_137 ⟨rfl, rfl⟩ hdX5_placeOf ⟨Nat.le_of_ble_eq_true rfl, Nat.le_of_ble_eq_true rfl⟩ (by decide) (eX_63 cy ad _ _) rfl rfl hl.1 rfl (Nat.le_of_ble_eq_true rfl) dX6_digestMessage_120 ⟨Nat.zero_le _, Nat.zero_le _⟩ (fun H locs hP hS => ?_)
    obtain ⟨r30, x29, e31, hf⟩ := bd_some hf
    refine gVi (As := [.int r27]) (rest := [.long ((31 : Int64) * a4)]) (k := 59) hC hP hS (kX0_tell l D cy tX tY ad A hC.2.2.2.2.2.2.2.2.1 F x26 r27 e31) glX6_109 ⟨rfl, rfl⟩ hdX0_tell ⟨Nat.le_of_ble_eq_true rfl, Nat.le_of_ble_eq_true rfl⟩ (by decide) (eX_59 cy ad _ _) rfl rfl hl.1 rfl (Nat.le_of_ble_eq_true rfl) dX6_digestMessage_123 ⟨Nat.zero_le _, Nat.zero_le _⟩ (fun H locs hP hS => ?_)
    refine lv_i2l hx hb dX6_digestMessage_126 rfl ?_
    refine lv_ladd hx hb dX6_digestMessage_127 ?_
    refine lv_topl (fun b32 e33 => ?_)
    have hf := lt_use e33 hf
    refine lv_lstore (lv' := [(4, .long b32), (0, .ref (ad 0)), (3, .int a3), (6, .int a6), (7, .int a7)]) hx hb dX6_digestMessage_128 hl (by decide) rfl (fun ls hl => ?_)
    obtain ⟨b34, e35, hf⟩ := lt_some hf
    refine lv_iinc (v := b34) (lv' := [(7, .int b34), (4, .long b32), (0, .ref (ad 0)), (3, .int a3), (6, .int a6)]) hx hb dX6_digestMessage_130 hl (k := 4) rfl (by rw [e35]; rfl) (by decide) rfl (fun ls hl => ?_)
    refine lv_goto (tgt := 88) hx hb dX6_digestMessage_133 (by decide) ?_
    exact hrec88 x29 a3 b32 a6 b34 hf H locs ls hP hS (lv_sub hl [2, 3, 1, 4, 0] rfl)
theorem tX6_digestMessage_88 (hC : Cf p s m args meth c cX6_digestMessage 8 RX6 (some .long) D cy tX tY ad A 93) (F : Nat) {z : Int64 × HT} (rec41 : HT → Int32 → Int64 → Int32 → Option (Int64 × HT)) (hrec41 : ∀ (x : HT) (a3 : Int32) (a4 : Int64) (a6 : Int32), rec41 x a3 a4 a6 = some z → Wd p l e { frames := 4, cells := 0, slots := 0, locals := 96 } s m args below meth c D (eX cy ad) 93 ad A (cQl (eX cy ad) 93 ad D A z) 8 41 [(0, .ref (ad 0)), (3, .int a3), (4, .long a4), (6, .int a6)] [] x) : ∀ (n9 : Nat) (x : HT) (a3 : Int32) (a4 : Int64) (a6 : Int32) (a7 : Int32), fX6_digestMessage_88 F rec41 n9 x a3 a4 a6 a7 = some z → Wd p l e { frames := 4, cells := 0, slots := 0, locals := 96 } s m args below meth c D (eX cy ad) 93 ad A (cQl (eX cy ad) 93 ad D A z) 8 88 [(0, .ref (ad 0)), (3, .int a3), (4, .long a4), (6, .int a6), (7, .int a7)] [] x := by
  intro n9
  induction n9 with
  | zero => intro x a3 a4 a6 a7 hf; cases hf
  | succ n9 ih => intro x a3 a4 a6 a7 hf; exact tX6_digestMessage_88b hC F rec41 hrec41 (fX6_digestMessage_88 F rec41 n9) ih x a3 a4 a6 a7 hf
set_option maxHeartbeats 4000000 in
set_option maxRecDepth 100000 in
theorem tX6_digestMessage_54b (hC : Cf p s m args meth c cX6_digestMessage 8 RX6 (some .long) D cy tX tY ad A 93) (F : Nat) {z : Int64 × HT} (rec41 : HT → Int32 → Int64 → Int32 → Option (Int64 × HT)) (hrec41 : ∀ (x : HT) (a3 : Int32) (a4 : Int64) (a6 : Int32), rec41 x a3 a4 a6 = some z → Wd p l e { frames := 4, cells := 0, slots := 0, locals := 96 } s m args below meth c D (eX cy ad) 93 ad A (cQl (eX cy ad) 93 ad D A z) 8 41 [(0, .ref (ad 0)), (3, .int a3), (4, .long a4), (6, .int a6)] [] x) (rec54 : HT → Int32 → Int64 → Int32 → Int32 → Option (Int64 × HT)) (hrec54 : ∀ (x : HT) (a3 : Int32) (a4 : Int64) (a6 : Int32) (a7 : Int32), rec54 x a3 a4 a6 a7 = some z → Wd p l e { frames := 4, cells := 0, slots := 0, locals := 96 } s m args below meth c D (eX cy ad) 93 ad A (cQl (eX cy ad) 93 ad D A z) 8 54 [(0, .ref (ad 0)), (3, .int a3), (4, .long a4), (6, .int a6), (7, .int a7)] [] x) : ∀ (x : HT) (a3 : Int32) (a4 : Int64) (a6 : Int32) (a7 : Int32), fX6_digestMessage_54b F rec41 rec54 x a3 a4 a6 a7 = some z → Wd p l e { frames := 4, cells := 0, slots := 0, locals := 96 } s m args below meth c D (eX cy ad) 93 ad A (cQl (eX cy ad) 93 ad D A z) 8 54 [(0, .ref (ad 0)), (3, .int a3), (4, .long a4), (6, .int a6), (7, .int a7)] [] x := by
  intro x a3 a4 a6 a7 hf H locs ls hP hS hl
  obtain ⟨hx, hb, -⟩ := id hC
  refine lv_iload hx hb dX6_digestMessage_54 (lv_at hl 4 rfl) ?_
  refine lv_bipush (v := 9) hx hb dX6_digestMessage_56 (by decide) ?_
  refine lv_icmp_ge (tgt := 85) hx hb dX6_digestMessage_58 (by decide) (fun c12 => ?_) (fun c12 => ?_)
  · have hf := it_t c12 hf
    refine lv_iconst (v := 0) hx hb dX6_digestMessage_85 (by decide) ?_
    refine lv_istore (lv' := [(7, .int (0 : Int32)), (0, .ref (ad 0)), (3, .int a3), (4, .long a4), (6, .int a6)]) hx hb dX6_digestMessage_86 hl (by decide) rfl (fun ls hl => ?_)
    exact tX6_digestMessage_88 hC F rec41 hrec41 F x a3 a4 a6 (0 : Int32) hf H locs ls hP hS (lv_sub hl [1, 2, 3, 4, 0] rfl)
  · have hf := it_f c12 hf
    refine lv_ldc2 (v := 31) hx hb hC.2.2.2.1 (hC.2.2.2.2.1 _ qw770) dX6_digestMessage_61 ?_
    refine lv_lload hx hb dX6_digestMessage_64 (lv_at hl 2 rfl) ?_
    refine lv_lmul hx hb dX6_digestMessage_66 ?_
    refine lv_aload_n hx hb dX6_digestMessage_67 rfl (lv_at hl 0 rfl) ?_
    refine lv_iload hx hb dX6_digestMessage_68 (lv_at hl 3 rfl) ?_
    refine lv_iload hx hb dX6_digestMessage_70 (lv_at hl 4 rfl) ?_
    obtain ⟨r14, x13, e15, hf⟩ := bd_some hf
    refine gVi (As := [.int a6, .int a7]) (rest := [.long ((31 : Int64) * a4)]) (k := 0) hC hP hS (kX6_wormFact l D cy tX tY ad A hC.2.2.2.2.2.2.2.2.1 F x a6 a7 e15) glX6_131 ⟨rfl, rfl⟩ hdX6_wormFact ⟨Nat.le_of_ble_eq_true rfl, Nat.le_of_ble_eq_true rfl⟩ (by decide) (eX_0 cy ad _ _) rfl rfl hl.1 rfl (Nat.le_of_ble_eq_true rfl) dX6_digestMessage_72 ⟨Nat.zero_le _, Nat.zero_le _⟩ (fun H locs hP hS => ?_)
    refine lv_i2l hx hb dX6_digestMessage_75 rfl ?_
    refine lv_ladd hx hb dX6_digestMessage_76 ?_
    refine lv_topl (fun b16 e17 => ?_)
    have hf := lt_use e17 hf
    refine lv_lstore (lv' := [(4, .long b16), (0, .ref (ad 0)), (3, .int a3), (6, .int a6), (7, .int a7)]) hx hb dX6_digestMessage_77 hl (by decide) rfl (fun ls hl => ?_)
    obtain ⟨b18, e19, hf⟩ := lt_some hf
    refine lv_iinc (v := b18) (lv' := [(7, .int b18), (4, .long b16), (0, .ref (ad 0)), (3, .int a3), (6, .int a6)]) hx hb dX6_digestMessage_79 hl (k := 4) rfl (by rw [e19]; rfl) (by decide) rfl (fun ls hl => ?_)
    refine lv_goto (tgt := 54) hx hb dX6_digestMessage_82 (by decide) ?_
    exact hrec54 x13 a3 b16 a6 b18 hf H locs ls hP hS (lv_sub hl [2, 3, 1, 4, 0] rfl)
theorem tX6_digestMessage_54 (hC : Cf p s m args meth c cX6_digestMessage 8 RX6 (some .long) D cy tX tY ad A 93) (F : Nat) {z : Int64 × HT} (rec41 : HT → Int32 → Int64 → Int32 → Option (Int64 × HT)) (hrec41 : ∀ (x : HT) (a3 : Int32) (a4 : Int64) (a6 : Int32), rec41 x a3 a4 a6 = some z → Wd p l e { frames := 4, cells := 0, slots := 0, locals := 96 } s m args below meth c D (eX cy ad) 93 ad A (cQl (eX cy ad) 93 ad D A z) 8 41 [(0, .ref (ad 0)), (3, .int a3), (4, .long a4), (6, .int a6)] [] x) : ∀ (n9 : Nat) (x : HT) (a3 : Int32) (a4 : Int64) (a6 : Int32) (a7 : Int32), fX6_digestMessage_54 F rec41 n9 x a3 a4 a6 a7 = some z → Wd p l e { frames := 4, cells := 0, slots := 0, locals := 96 } s m args below meth c D (eX cy ad) 93 ad A (cQl (eX cy ad) 93 ad D A z) 8 54 [(0, .ref (ad 0)), (3, .int a3), (4, .long a4), (6, .int a6), (7, .int a7)] [] x := by
  intro n9
  induction n9 with
  | zero => intro x a3 a4 a6 a7 hf; cases hf
  | succ n9 ih => intro x a3 a4 a6 a7 hf; exact tX6_digestMessage_54b hC F rec41 hrec41 (fX6_digestMessage_54 F rec41 n9) ih x a3 a4 a6 a7 hf
set_option maxHeartbeats 4000000 in
set_option maxRecDepth 100000 in
theorem tX6_digestMessage_41b (hC : Cf p s m args meth c cX6_digestMessage 8 RX6 (some .long) D cy tX tY ad A 93) (F : Nat) {z : Int64 × HT} (rec41 : HT → Int32 → Int64 → Int32 → Option (Int64 × HT)) (hrec41 : ∀ (x : HT) (a3 : Int32) (a4 : Int64) (a6 : Int32), rec41 x a3 a4 a6 = some z → Wd p l e { frames := 4, cells := 0, slots := 0, locals := 96 } s m args below meth c D (eX cy ad) 93 ad A (cQl (eX cy ad) 93 ad D A z) 8 41 [(0, .ref (ad 0)), (3, .int a3), (4, .long a4), (6, .int a6)] [] x) : ∀ (x : HT) (a3 : Int32) (a4 : Int64) (a6 : Int32), fX6_digestMessage_41b F rec41 x a3 a4 a6 = some z → Wd p l e { frames := 4, cells := 0, slots := 0, locals := 96 } s m args below meth c D (eX cy ad) 93 ad A (cQl (eX cy ad) 93 ad D A z) 8 41 [(0, .ref (ad 0)), (3, .int a3), (4, .long a4), (6, .int a6)] [] x := by
  intro x a3 a4 a6 hf H locs ls hP hS hl
  obtain ⟨hx, hb, -⟩ := id hC
  refine lv_iload hx hb dX6_digestMessage_41 (lv_at hl 3 rfl) ?_
  refine lv_iload_n hx hb dX6_digestMessage_43 rfl (lv_at hl 1 rfl) ?_
  refine lv_iconst (v := 2) hx hb dX6_digestMessage_44 (by decide) ?_
  refine lv_imul hx hb dX6_digestMessage_45 ?_
  refine lv_iconst (v := 2) hx hb dX6_digestMessage_46 (by decide) ?_
  refine lv_iadd hx hb dX6_digestMessage_47 ?_
  refine lv_icmp_ge (tgt := 142) hx hb dX6_digestMessage_48 (by decide) (fun c11 => ?_) (fun c11 => ?_)
  · have hf := it_t c11 hf
    refine lv_lload hx hb dX6_digestMessage_142 (lv_at hl 2 rfl) ?_
    exact gLret hC hP hS hf dX6_digestMessage_144
  · have hf := it_f c11 hf
    refine lv_iconst (v := 0) hx hb dX6_digestMessage_51 (by decide) ?_
    refine lv_istore (lv' := [(7, .int (0 : Int32)), (0, .ref (ad 0)), (3, .int a3), (4, .long a4), (6, .int a6)]) hx hb dX6_digestMessage_52 hl (by decide) rfl (fun ls hl => ?_)
    exact tX6_digestMessage_54 hC F rec41 hrec41 F x a3 a4 a6 (0 : Int32) hf H locs ls hP hS (lv_sub hl [1, 2, 3, 4, 0] rfl)
theorem tX6_digestMessage_41 (hC : Cf p s m args meth c cX6_digestMessage 8 RX6 (some .long) D cy tX tY ad A 93) (F : Nat) {z : Int64 × HT} : ∀ (n9 : Nat) (x : HT) (a3 : Int32) (a4 : Int64) (a6 : Int32), fX6_digestMessage_41 F n9 x a3 a4 a6 = some z → Wd p l e { frames := 4, cells := 0, slots := 0, locals := 96 } s m args below meth c D (eX cy ad) 93 ad A (cQl (eX cy ad) 93 ad D A z) 8 41 [(0, .ref (ad 0)), (3, .int a3), (4, .long a4), (6, .int a6)] [] x := by
  intro n9
  induction n9 with
  | zero => intro x a3 a4 a6 hf; cases hf
  | succ n9 ih => intro x a3 a4 a6 hf; exact tX6_digestMessage_41b hC F (fX6_digestMessage_41 F n9) ih x a3 a4 a6 hf
set_option maxHeartbeats 4000000 in
set_option maxRecDepth 100000 in
theorem tX6_digestMessage_6b (hC : Cf p s m args meth c cX6_digestMessage 8 RX6 (some .long) D cy tX tY ad A 93) (F : Nat) {z : Int64 × HT} (rec6 : HT → Int32 → Int64 → Int32 → Option (Int64 × HT)) (hrec6 : ∀ (x : HT) (a3 : Int32) (a4 : Int64) (a6 : Int32), rec6 x a3 a4 a6 = some z → Wd p l e { frames := 4, cells := 0, slots := 0, locals := 96 } s m args below meth c D (eX cy ad) 93 ad A (cQl (eX cy ad) 93 ad D A z) 8 6 [(0, .ref (ad 0)), (3, .int a3), (4, .long a4), (6, .int a6)] [] x) : ∀ (x : HT) (a3 : Int32) (a4 : Int64) (a6 : Int32), fX6_digestMessage_6b F rec6 x a3 a4 a6 = some z → Wd p l e { frames := 4, cells := 0, slots := 0, locals := 96 } s m args below meth c D (eX cy ad) 93 ad A (cQl (eX cy ad) 93 ad D A z) 8 6 [(0, .ref (ad 0)), (3, .int a3), (4, .long a4), (6, .int a6)] [] x := by
  intro x a3 a4 a6 hf H locs ls hP hS hl
  obtain ⟨hx, hb, -⟩ := id hC
  refine lv_iload hx hb dX6_digestMessage_6 (lv_at hl 3 rfl) ?_
  refine lv_bipush (v := 6) hx hb dX6_digestMessage_8 (by decide) ?_
  refine lv_icmp_ge (tgt := 36) hx hb dX6_digestMessage_10 (by decide) (fun c1 => ?_) (fun c1 => ?_)
  · have hf := it_t c1 hf
    refine lv_iload_n hx hb dX6_digestMessage_36 rfl (lv_at hl 1 rfl) ?_
    refine lv_iconst (v := 2) hx hb dX6_digestMessage_37 (by decide) ?_
    refine lv_imul hx hb dX6_digestMessage_38 ?_
    refine lv_topi (fun b2 e3 => ?_)
    have hf := lt_use e3 hf
    refine lv_istore (lv' := [(6, .int b2), (0, .ref (ad 0)), (3, .int a3), (4, .long a4)]) hx hb dX6_digestMessage_39 hl (by decide) rfl (fun ls hl => ?_)
    exact tX6_digestMessage_41 hC F F x a3 a4 b2 hf H locs ls hP hS (lv_sub hl [1, 2, 3, 0] rfl)
  · have hf := it_f c1 hf
    refine lv_ldc2 (v := 31) hx hb hC.2.2.2.1 (hC.2.2.2.2.1 _ qw770) dX6_digestMessage_13 ?_
    refine lv_lload hx hb dX6_digestMessage_16 (lv_at hl 2 rfl) ?_
    refine lv_lmul hx hb dX6_digestMessage_18 ?_
    refine lv_aload_n hx hb dX6_digestMessage_19 rfl (lv_at hl 0 rfl) ?_
    refine lv_iload_n hx hb dX6_digestMessage_20 rfl (lv_at hl 1 rfl) ?_
    refine lv_iload hx hb dX6_digestMessage_21 (lv_at hl 3 rfl) ?_
    obtain ⟨r5, x4, e6, hf⟩ := bd_some hf
    refine gVi (As := [.int a3, .int a6]) (rest := [.long ((31 : Int64) * a4)]) (k := 0) hC hP hS (kX6_messageFact l D cy tX tY ad A hC.2.2.2.2.2.2.2.2.1 F x a3 a6 e6) glX6_147 ⟨rfl, rfl⟩ hdX6_messageFact ⟨Nat.le_of_ble_eq_true rfl, Nat.le_of_ble_eq_true rfl⟩ (by decide) (eX_0 cy ad _ _) rfl rfl hl.1 rfl (Nat.le_of_ble_eq_true rfl) dX6_digestMessage_23 ⟨Nat.zero_le _, Nat.zero_le _⟩ (fun H locs hP hS => ?_)
    refine lv_i2l hx hb dX6_digestMessage_26 rfl ?_
    refine lv_ladd hx hb dX6_digestMessage_27 ?_
    refine lv_topl (fun b7 e8 => ?_)
    have hf := lt_use e8 hf
    refine lv_lstore (lv' := [(4, .long b7), (0, .ref (ad 0)), (3, .int a3), (6, .int a6)]) hx hb dX6_digestMessage_28 hl (by decide) rfl (fun ls hl => ?_)
    obtain ⟨b9, e10, hf⟩ := lt_some hf
    refine lv_iinc (v := b9) (lv' := [(6, .int b9), (4, .long b7), (0, .ref (ad 0)), (3, .int a3)]) hx hb dX6_digestMessage_30 hl (k := 3) rfl (by rw [e10]; rfl) (by decide) rfl (fun ls hl => ?_)
    refine lv_goto (tgt := 6) hx hb dX6_digestMessage_33 (by decide) ?_
    exact hrec6 x4 a3 b7 b9 hf H locs ls hP hS (lv_sub hl [2, 3, 1, 0] rfl)
theorem tX6_digestMessage_6 (hC : Cf p s m args meth c cX6_digestMessage 8 RX6 (some .long) D cy tX tY ad A 93) (F : Nat) {z : Int64 × HT} : ∀ (n9 : Nat) (x : HT) (a3 : Int32) (a4 : Int64) (a6 : Int32), fX6_digestMessage_6 F n9 x a3 a4 a6 = some z → Wd p l e { frames := 4, cells := 0, slots := 0, locals := 96 } s m args below meth c D (eX cy ad) 93 ad A (cQl (eX cy ad) 93 ad D A z) 8 6 [(0, .ref (ad 0)), (3, .int a3), (4, .long a4), (6, .int a6)] [] x := by
  intro n9
  induction n9 with
  | zero => intro x a3 a4 a6 hf; cases hf
  | succ n9 ih => intro x a3 a4 a6 hf; exact tX6_digestMessage_6b hC F (fX6_digestMessage_6 F n9) ih x a3 a4 a6 hf
set_option maxHeartbeats 4000000 in
set_option maxRecDepth 100000 in
theorem kX6_digestMessage (l : Launch) (D : va_G) (cy : Nat → ClassId) (tX tY : Nat) (ad : Nat → Nat) (A : Nat → Prop) (hA : apart ad A 93) (F : Nat) (x : HT) (a1 : Int64) (a3 : Int32) {z : Int64 × HT} (hf : fX6_digestMessage F x a1 a3 = some z) : Met l yX6_digestMessage (Cond.code yX6_digestMessage cX6_digestMessage 8 (some .long) :: wAll) { frames := 4, cells := 0, slots := 0, locals := 96 } (cPc (eX cy ad) 93 ad D cy tX tY A [.ref (ad 0), .long a1, .int a3] x) (cQl (eX cy ad) 93 ad D A z) 0 0 A := by
  refine gMet hA (by decide) (Nat.le_of_ble_eq_true rfl) (fun p e s m below meth c hC H locs ls hP hS hl => ?_)
  have hC : Cf p s m _ meth c cX6_digestMessage 8 RX6 (some .long) D cy tX tY ad A 93 := hC
  have hl : lv_has ls 8 [(0, .ref (ad 0)), (1, .long a1), (3, .int a3)] := hl
  obtain ⟨hx, hb, -⟩ := id hC
  refine lv_lload_n hx hb dX6_digestMessage_0 rfl (lv_at hl 1 rfl) ?_
  refine lv_lstore (lv' := [(4, .long a1), (0, .ref (ad 0)), (1, .long a1), (3, .int a3)]) hx hb dX6_digestMessage_1 hl (by decide) rfl (fun ls hl => ?_)
  refine lv_iconst (v := 0) hx hb dX6_digestMessage_3 (by decide) ?_
  refine lv_istore (lv' := [(6, .int (0 : Int32)), (4, .long a1), (0, .ref (ad 0)), (1, .long a1), (3, .int a3)]) hx hb dX6_digestMessage_4 hl (by decide) rfl (fun ls hl => ?_)
  exact tX6_digestMessage_6 hC F F x a3 a1 (0 : Int32) hf H locs ls hP hS (lv_sub hl [2, 4, 1, 0] rfl)
set_option maxHeartbeats 4000000 in
set_option maxRecDepth 100000 in
theorem tX6_digest_104b (hC : Cf p s m args meth c cX6_digest 4 RX6 (some .long) D cy tX tY ad A 93) (F : Nat) {z : Int64 × HT} (rec104 : HT → Int64 → Int32 → Option (Int64 × HT)) (hrec104 : ∀ (x : HT) (a1 : Int64) (a3 : Int32), rec104 x a1 a3 = some z → Wd p l e { frames := 5, cells := 0, slots := 0, locals := 123 } s m args below meth c D (eX cy ad) 93 ad A (cQl (eX cy ad) 93 ad D A z) 4 104 [(0, .ref (ad 0)), (1, .long a1), (3, .int a3)] [] x) : ∀ (x : HT) (a1 : Int64) (a3 : Int32), fX6_digest_104b F rec104 x a1 a3 = some z → Wd p l e { frames := 5, cells := 0, slots := 0, locals := 123 } s m args below meth c D (eX cy ad) 93 ad A (cQl (eX cy ad) 93 ad D A z) 4 104 [(0, .ref (ad 0)), (1, .long a1), (3, .int a3)] [] x := by
  intro x a1 a3 hf H locs ls hP hS hl
  obtain ⟨hx, hb, -⟩ := id hC
  refine lv_iload_n hx hb dX6_digest_104 rfl (lv_at hl 2 rfl) ?_
  refine lv_aload_n hx hb dX6_digest_105 rfl (lv_at hl 0 rfl) ?_
  refine gfX6_12 hC hP dX6_digest_106 ?_
  refine gfX6_205 hC hP (by decide) dX6_digest_109 ?_
  refine lv_icmp_ge (tgt := 128) hx hb dX6_digest_112 (by decide) (fun c29 => ?_) (fun c29 => ?_)
  · have hf := it_t c29 hf
    refine lv_ldc2 (v := 31) hx hb hC.2.2.2.1 (hC.2.2.2.2.1 _ qw770) dX6_digest_128 ?_
    refine lv_lload_n hx hb dX6_digest_131 rfl (lv_at hl 1 rfl) ?_
    refine lv_lmul hx hb dX6_digest_132 ?_
    refine lv_aload_n hx hb dX6_digest_133 rfl (lv_at hl 0 rfl) ?_
    refine lv_iconst (v := -1) hx hb dX6_digest_134 (by decide) ?_
    obtain ⟨r31, x30, e32, hf⟩ := bd_some hf
    refine gVi (As := [.int (-1 : Int32)]) (rest := [.long ((31 : Int64) * a1)]) (k := 0) hC hP hS (kX6_stepsUntilDone l D cy tX tY ad A hC.2.2.2.2.2.2.2.2.1 F x (-1 : Int32) e32) glX6_150 ⟨rfl, rfl⟩ hdX6_stepsUntilDone ⟨Nat.le_of_ble_eq_true rfl, Nat.le_of_ble_eq_true rfl⟩ (by decide) (eX_0 cy ad _ _) rfl rfl hl.1 rfl (Nat.le_of_ble_eq_true rfl) dX6_digest_135 ⟨Nat.zero_le _, Nat.zero_le _⟩ (fun H locs hP hS => ?_)
    refine lv_i2l hx hb dX6_digest_138 rfl ?_
    refine lv_ladd hx hb dX6_digest_139 ?_
    exact gLret hC hP hS hf dX6_digest_140
  · have hf := it_f c29 hf
    refine lv_aload_n hx hb dX6_digest_115 rfl (lv_at hl 0 rfl) ?_
    refine lv_lload_n hx hb dX6_digest_116 rfl (lv_at hl 1 rfl) ?_
    refine lv_iload_n hx hb dX6_digest_117 rfl (lv_at hl 2 rfl) ?_
    obtain ⟨r34, x33, e35, hf⟩ := bd_some hf
    refine gVl (As := [.long a1, .int a3]) (rest := []) (k := 0) hC hP hS (kX6_digestMessage l D cy tX tY ad A hC.2.2.2.2.2.2.2.2.1 F x a1 a3 e35) glX6_209 ⟨rfl, rfl⟩ hdX6_digestMessage ⟨Nat.le_of_ble_eq_true rfl, Nat.le_of_ble_eq_true rfl⟩ (by decide) (eX_0 cy ad _ _) rfl rfl hl.1 rfl (Nat.le_of_ble_eq_true rfl) dX6_digest_118 ⟨Nat.zero_le _, Nat.zero_le _⟩ (fun H locs hP hS => ?_)
    refine lv_lstore_n (lv' := [(1, .long r34), (0, .ref (ad 0)), (3, .int a3)]) hx hb dX6_digest_121 rfl hl (by decide) rfl (fun ls hl => ?_)
    obtain ⟨b36, e37, hf⟩ := lt_some hf
    refine lv_iinc (v := b36) (lv' := [(3, .int b36), (1, .long r34), (0, .ref (ad 0))]) hx hb dX6_digest_122 hl (k := 2) rfl (by rw [e37]; rfl) (by decide) rfl (fun ls hl => ?_)
    refine lv_goto (tgt := 104) hx hb dX6_digest_125 (by decide) ?_
    exact hrec104 x33 r34 b36 hf H locs ls hP hS (lv_sub hl [2, 1, 0] rfl)
theorem tX6_digest_104 (hC : Cf p s m args meth c cX6_digest 4 RX6 (some .long) D cy tX tY ad A 93) (F : Nat) {z : Int64 × HT} : ∀ (n9 : Nat) (x : HT) (a1 : Int64) (a3 : Int32), fX6_digest_104 F n9 x a1 a3 = some z → Wd p l e { frames := 5, cells := 0, slots := 0, locals := 123 } s m args below meth c D (eX cy ad) 93 ad A (cQl (eX cy ad) 93 ad D A z) 4 104 [(0, .ref (ad 0)), (1, .long a1), (3, .int a3)] [] x := by
  intro n9
  induction n9 with
  | zero => intro x a1 a3 hf; cases hf
  | succ n9 ih => intro x a1 a3 hf; exact tX6_digest_104b hC F (fX6_digest_104 F n9) ih x a1 a3 hf
set_option maxHeartbeats 4000000 in
set_option maxRecDepth 100000 in
theorem tX6_digest_93 (hC : Cf p s m args meth c cX6_digest 4 RX6 (some .long) D cy tX tY ad A 93) (F : Nat) {z : Int64 × HT} (rec59 : HT → Int64 → Int32 → Option (Int64 × HT)) (hrec59 : ∀ (x : HT) (a1 : Int64) (a3 : Int32), rec59 x a1 a3 = some z → Wd p l e { frames := 5, cells := 0, slots := 0, locals := 123 } s m args below meth c D (eX cy ad) 93 ad A (cQl (eX cy ad) 93 ad D A z) 4 59 [(0, .ref (ad 0)), (1, .long a1), (3, .int a3)] [] x) : ∀ (x : HT) (a3 : Int32) (t0 : Int64) (t1 : Int32), fX6_digest_93 F rec59 x a3 t0 t1 = some z → Wd p l e { frames := 5, cells := 0, slots := 0, locals := 123 } s m args below meth c D (eX cy ad) 93 ad A (cQl (eX cy ad) 93 ad D A z) 4 93 [(0, .ref (ad 0)), (3, .int a3)] [.int t1, .long t0] x := by
  intro x a3 t0 t1 hf H locs ls hP hS hl
  obtain ⟨hx, hb, -⟩ := id hC
  refine lv_i2l hx hb dX6_digest_93 rfl ?_
  refine lv_ladd hx hb dX6_digest_94 ?_
  refine lv_topl (fun b25 e26 => ?_)
  have hf := lt_use e26 hf
  refine lv_lstore_n (lv' := [(1, .long b25), (0, .ref (ad 0)), (3, .int a3)]) hx hb dX6_digest_95 rfl hl (by decide) rfl (fun ls hl => ?_)
  obtain ⟨b27, e28, hf⟩ := lt_some hf
  refine lv_iinc (v := b27) (lv' := [(3, .int b27), (1, .long b25), (0, .ref (ad 0))]) hx hb dX6_digest_96 hl (k := 2) rfl (by rw [e28]; rfl) (by decide) rfl (fun ls hl => ?_)
  refine lv_goto (tgt := 59) hx hb dX6_digest_99 (by decide) ?_
  exact hrec59 x b25 b27 hf H locs ls hP hS (lv_sub hl [2, 1, 0] rfl)
set_option maxHeartbeats 4000000 in
set_option maxRecDepth 100000 in
theorem tX6_digest_59b (hC : Cf p s m args meth c cX6_digest 4 RX6 (some .long) D cy tX tY ad A 93) (F : Nat) {z : Int64 × HT} (rec59 : HT → Int64 → Int32 → Option (Int64 × HT)) (hrec59 : ∀ (x : HT) (a1 : Int64) (a3 : Int32), rec59 x a1 a3 = some z → Wd p l e { frames := 5, cells := 0, slots := 0, locals := 123 } s m args below meth c D (eX cy ad) 93 ad A (cQl (eX cy ad) 93 ad D A z) 4 59 [(0, .ref (ad 0)), (1, .long a1), (3, .int a3)] [] x) : ∀ (x : HT) (a1 : Int64) (a3 : Int32), fX6_digest_59b F rec59 x a1 a3 = some z → Wd p l e { frames := 5, cells := 0, slots := 0, locals := 123 } s m args below meth c D (eX cy ad) 93 ad A (cQl (eX cy ad) 93 ad D A z) 4 59 [(0, .ref (ad 0)), (1, .long a1), (3, .int a3)] [] x := by
  intro x a1 a3 hf H locs ls hP hS hl
  obtain ⟨hx, hb, -⟩ := id hC
  refine lv_iload_n hx hb dX6_digest_59 rfl (lv_at hl 2 rfl) ?_
  refine lv_aload_n hx hb dX6_digest_60 rfl (lv_at hl 0 rfl) ?_
  refine gfX6_32 hC hP dX6_digest_61 ?_
  obtain ⟨r18, x17, e19, hf⟩ := bd_some hf
  refine gVi (As := []) (rest := [.int a3]) (k := 59) hC hP hS (kX0_places l D cy tX tY ad A hC.2.2.2.2.2.2.2.2.1 F x e19) glX6_199 ⟨rfl, rfl⟩ hdX0_places ⟨Nat.le_of_ble_eq_true rfl, Nat.le_of_ble_eq_true rfl⟩ (by decide) (eX_59 cy ad _ _) rfl rfl hl.1 rfl (Nat.le_of_ble_eq_true rfl) dX6_digest_64 ⟨Nat.zero_le _, Nat.zero_le _⟩ (fun H locs hP hS => ?_)
  refine lv_iconst (v := 4) hx hb dX6_digest_67 (by decide) ?_
  refine lv_imul hx hb dX6_digest_68 ?_
  refine lv_icmp_ge (tgt := 102) hx hb dX6_digest_69 (by decide) (fun c20 => ?_) (fun c20 => ?_)
  · have hf := it_t c20 hf
    refine lv_iconst (v := 0) hx hb dX6_digest_102 (by decide) ?_
    refine lv_istore_n (lv' := [(3, .int (0 : Int32)), (0, .ref (ad 0)), (1, .long a1)]) hx hb dX6_digest_103 rfl hl (by decide) rfl (fun ls hl => ?_)
    exact tX6_digest_104 hC F F x17 a1 (0 : Int32) hf H locs ls hP hS (lv_sub hl [1, 2, 0] rfl)
  · have hf := it_f c20 hf
    refine lv_ldc2 (v := 31) hx hb hC.2.2.2.1 (hC.2.2.2.2.1 _ qw770) dX6_digest_72 ?_
    refine lv_lload_n hx hb dX6_digest_75 rfl (lv_at hl 1 rfl) ?_
    refine lv_lmul hx hb dX6_digest_76 ?_
    refine lv_aload_n hx hb dX6_digest_77 rfl (lv_at hl 0 rfl) ?_
    refine gfX6_12 hC hP dX6_digest_78 ?_
    refine lv_iload_n hx hb dX6_digest_81 rfl (lv_at hl 2 rfl) ?_
    obtain ⟨r22, x21, e23, hf⟩ := bd_some hf
    refine gVi (As := [.int a3]) (rest := [.long ((31 : Int64) * a1)]) (k := (7 * 0 + 1)) hC hP hS (kX2_isDown l D cy tX tY ad A hC.2.2.2.2.2.2.2.2.1 F (j := 0) (by decide) x17 a3 e23) glX6_202 ⟨rfl, rfl⟩ hdX2_isDown ⟨Nat.le_of_ble_eq_true rfl, Nat.le_of_ble_eq_true rfl⟩ (by omega) (eX_S (by decide) cy ad _ _) rfl rfl hl.1 rfl (Nat.le_of_ble_eq_true rfl) dX6_digest_82 ⟨Nat.zero_le _, Nat.zero_le _⟩ (fun H locs hP hS => ?_)
    refine lv_if_eq (tgt := 92) hx hb dX6_digest_85 (by decide) (fun c24 => ?_) (fun c24 => ?_)
    · have hf := it_t c24 hf
      refine lv_iconst (v := 0) hx hb dX6_digest_92 (by decide) ?_
      exact tX6_digest_93 hC F rec59 hrec59 x21 a3 ((31 : Int64) * a1) (0 : Int32) hf H locs ls hP hS (lv_sub hl [0, 2] rfl)
    · have hf := it_f c24 hf
      refine lv_iconst (v := 1) hx hb dX6_digest_88 (by decide) ?_
      refine lv_goto (tgt := 93) hx hb dX6_digest_89 (by decide) ?_
      exact tX6_digest_93 hC F rec59 hrec59 x21 a3 ((31 : Int64) * a1) (1 : Int32) hf H locs ls hP hS (lv_sub hl [0, 2] rfl)
theorem tX6_digest_59 (hC : Cf p s m args meth c cX6_digest 4 RX6 (some .long) D cy tX tY ad A 93) (F : Nat) {z : Int64 × HT} : ∀ (n9 : Nat) (x : HT) (a1 : Int64) (a3 : Int32), fX6_digest_59 F n9 x a1 a3 = some z → Wd p l e { frames := 5, cells := 0, slots := 0, locals := 123 } s m args below meth c D (eX cy ad) 93 ad A (cQl (eX cy ad) 93 ad D A z) 4 59 [(0, .ref (ad 0)), (1, .long a1), (3, .int a3)] [] x := by
  intro n9
  induction n9 with
  | zero => intro x a1 a3 hf; cases hf
  | succ n9 ih => intro x a1 a3 hf; exact tX6_digest_59b hC F (fX6_digest_59 F n9) ih x a1 a3 hf
set_option maxHeartbeats 4000000 in
set_option maxRecDepth 100000 in
theorem tX6_digest_32b (hC : Cf p s m args meth c cX6_digest 4 RX6 (some .long) D cy tX tY ad A 93) (F : Nat) {z : Int64 × HT} (rec32 : HT → Int64 → Int32 → Option (Int64 × HT)) (hrec32 : ∀ (x : HT) (a1 : Int64) (a3 : Int32), rec32 x a1 a3 = some z → Wd p l e { frames := 5, cells := 0, slots := 0, locals := 123 } s m args below meth c D (eX cy ad) 93 ad A (cQl (eX cy ad) 93 ad D A z) 4 32 [(0, .ref (ad 0)), (1, .long a1), (3, .int a3)] [] x) : ∀ (x : HT) (a1 : Int64) (a3 : Int32), fX6_digest_32b F rec32 x a1 a3 = some z → Wd p l e { frames := 5, cells := 0, slots := 0, locals := 123 } s m args below meth c D (eX cy ad) 93 ad A (cQl (eX cy ad) 93 ad D A z) 4 32 [(0, .ref (ad 0)), (1, .long a1), (3, .int a3)] [] x := by
  intro x a1 a3 hf H locs ls hP hS hl
  obtain ⟨hx, hb, -⟩ := id hC
  refine lv_iload_n hx hb dX6_digest_32 rfl (lv_at hl 2 rfl) ?_
  refine lv_bipush (v := 8) hx hb dX6_digest_33 (by decide) ?_
  refine lv_icmp_ge (tgt := 57) hx hb dX6_digest_35 (by decide) (fun c9 => ?_) (fun c9 => ?_)
  · have hf := it_t c9 hf
    refine lv_iconst (v := 0) hx hb dX6_digest_57 (by decide) ?_
    refine lv_istore_n (lv' := [(3, .int (0 : Int32)), (0, .ref (ad 0)), (1, .long a1)]) hx hb dX6_digest_58 rfl hl (by decide) rfl (fun ls hl => ?_)
    exact tX6_digest_59 hC F F x a1 (0 : Int32) hf H locs ls hP hS (lv_sub hl [1, 2, 0] rfl)
  · have hf := it_f c9 hf
    refine lv_ldc2 (v := 31) hx hb hC.2.2.2.1 (hC.2.2.2.2.1 _ qw770) dX6_digest_38 ?_
    refine lv_lload_n hx hb dX6_digest_41 rfl (lv_at hl 1 rfl) ?_
    refine lv_lmul hx hb dX6_digest_42 ?_
    refine lv_aload_n hx hb dX6_digest_43 rfl (lv_at hl 0 rfl) ?_
    refine lv_iload_n hx hb dX6_digest_44 rfl (lv_at hl 2 rfl) ?_
    obtain ⟨r11, x10, e12, hf⟩ := bd_some hf
    refine gVi (As := [.int a3]) (rest := [.long ((31 : Int64) * a1)]) (k := 0) hC hP hS (kX6_countFact l D cy tX tY ad A hC.2.2.2.2.2.2.2.2.1 F x a3 e12) glX6_153 ⟨rfl, rfl⟩ hdX6_countFact ⟨Nat.le_of_ble_eq_true rfl, Nat.le_of_ble_eq_true rfl⟩ (by decide) (eX_0 cy ad _ _) rfl rfl hl.1 rfl (Nat.le_of_ble_eq_true rfl) dX6_digest_45 ⟨Nat.zero_le _, Nat.zero_le _⟩ (fun H locs hP hS => ?_)
    refine lv_i2l hx hb dX6_digest_48 rfl ?_
    refine lv_ladd hx hb dX6_digest_49 ?_
    refine lv_topl (fun b13 e14 => ?_)
    have hf := lt_use e14 hf
    refine lv_lstore_n (lv' := [(1, .long b13), (0, .ref (ad 0)), (3, .int a3)]) hx hb dX6_digest_50 rfl hl (by decide) rfl (fun ls hl => ?_)
    obtain ⟨b15, e16, hf⟩ := lt_some hf
    refine lv_iinc (v := b15) (lv' := [(3, .int b15), (1, .long b13), (0, .ref (ad 0))]) hx hb dX6_digest_51 hl (k := 2) rfl (by rw [e16]; rfl) (by decide) rfl (fun ls hl => ?_)
    refine lv_goto (tgt := 32) hx hb dX6_digest_54 (by decide) ?_
    exact hrec32 x10 b13 b15 hf H locs ls hP hS (lv_sub hl [2, 1, 0] rfl)
theorem tX6_digest_32 (hC : Cf p s m args meth c cX6_digest 4 RX6 (some .long) D cy tX tY ad A 93) (F : Nat) {z : Int64 × HT} : ∀ (n9 : Nat) (x : HT) (a1 : Int64) (a3 : Int32), fX6_digest_32 F n9 x a1 a3 = some z → Wd p l e { frames := 5, cells := 0, slots := 0, locals := 123 } s m args below meth c D (eX cy ad) 93 ad A (cQl (eX cy ad) 93 ad D A z) 4 32 [(0, .ref (ad 0)), (1, .long a1), (3, .int a3)] [] x := by
  intro n9
  induction n9 with
  | zero => intro x a1 a3 hf; cases hf
  | succ n9 ih => intro x a1 a3 hf; exact tX6_digest_32b hC F (fX6_digest_32 F n9) ih x a1 a3 hf
set_option maxHeartbeats 4000000 in
set_option maxRecDepth 100000 in
theorem tX6_digest_6b (hC : Cf p s m args meth c cX6_digest 4 RX6 (some .long) D cy tX tY ad A 93) (F : Nat) {z : Int64 × HT} (rec6 : HT → Int64 → Int32 → Option (Int64 × HT)) (hrec6 : ∀ (x : HT) (a1 : Int64) (a3 : Int32), rec6 x a1 a3 = some z → Wd p l e { frames := 5, cells := 0, slots := 0, locals := 123 } s m args below meth c D (eX cy ad) 93 ad A (cQl (eX cy ad) 93 ad D A z) 4 6 [(0, .ref (ad 0)), (1, .long a1), (3, .int a3)] [] x) : ∀ (x : HT) (a1 : Int64) (a3 : Int32), fX6_digest_6b F rec6 x a1 a3 = some z → Wd p l e { frames := 5, cells := 0, slots := 0, locals := 123 } s m args below meth c D (eX cy ad) 93 ad A (cQl (eX cy ad) 93 ad D A z) 4 6 [(0, .ref (ad 0)), (1, .long a1), (3, .int a3)] [] x := by
  intro x a1 a3 hf H locs ls hP hS hl
  obtain ⟨hx, hb, -⟩ := id hC
  refine lv_iload_n hx hb dX6_digest_6 rfl (lv_at hl 2 rfl) ?_
  refine lv_iconst (v := 5) hx hb dX6_digest_7 (by decide) ?_
  refine lv_icmp_ge (tgt := 30) hx hb dX6_digest_8 (by decide) (fun c1 => ?_) (fun c1 => ?_)
  · have hf := it_t c1 hf
    refine lv_iconst (v := 0) hx hb dX6_digest_30 (by decide) ?_
    refine lv_istore_n (lv' := [(3, .int (0 : Int32)), (0, .ref (ad 0)), (1, .long a1)]) hx hb dX6_digest_31 rfl hl (by decide) rfl (fun ls hl => ?_)
    exact tX6_digest_32 hC F F x a1 (0 : Int32) hf H locs ls hP hS (lv_sub hl [1, 2, 0] rfl)
  · have hf := it_f c1 hf
    refine lv_ldc2 (v := 31) hx hb hC.2.2.2.1 (hC.2.2.2.2.1 _ qw770) dX6_digest_11 ?_
    refine lv_lload_n hx hb dX6_digest_14 rfl (lv_at hl 1 rfl) ?_
    refine lv_lmul hx hb dX6_digest_15 ?_
    refine lv_aload_n hx hb dX6_digest_16 rfl (lv_at hl 0 rfl) ?_
    refine lv_iload_n hx hb dX6_digest_17 rfl (lv_at hl 2 rfl) ?_
    obtain ⟨r3, x2, e4, hf⟩ := bd_some hf
    refine gVi (As := [.int a3]) (rest := [.long ((31 : Int64) * a1)]) (k := 0) hC hP hS (kX6_toldFact l D cy tX tY ad A hC.2.2.2.2.2.2.2.2.1 F x a3 e4) glX6_192 ⟨rfl, rfl⟩ hdX6_toldFact ⟨Nat.le_of_ble_eq_true rfl, Nat.le_of_ble_eq_true rfl⟩ (by decide) (eX_0 cy ad _ _) rfl rfl hl.1 rfl (Nat.le_of_ble_eq_true rfl) dX6_digest_18 ⟨Nat.zero_le _, Nat.zero_le _⟩ (fun H locs hP hS => ?_)
    refine lv_i2l hx hb dX6_digest_21 rfl ?_
    refine lv_ladd hx hb dX6_digest_22 ?_
    refine lv_topl (fun b5 e6 => ?_)
    have hf := lt_use e6 hf
    refine lv_lstore_n (lv' := [(1, .long b5), (0, .ref (ad 0)), (3, .int a3)]) hx hb dX6_digest_23 rfl hl (by decide) rfl (fun ls hl => ?_)
    obtain ⟨b7, e8, hf⟩ := lt_some hf
    refine lv_iinc (v := b7) (lv' := [(3, .int b7), (1, .long b5), (0, .ref (ad 0))]) hx hb dX6_digest_24 hl (k := 2) rfl (by rw [e8]; rfl) (by decide) rfl (fun ls hl => ?_)
    refine lv_goto (tgt := 6) hx hb dX6_digest_27 (by decide) ?_
    exact hrec6 x2 b5 b7 hf H locs ls hP hS (lv_sub hl [2, 1, 0] rfl)
theorem tX6_digest_6 (hC : Cf p s m args meth c cX6_digest 4 RX6 (some .long) D cy tX tY ad A 93) (F : Nat) {z : Int64 × HT} : ∀ (n9 : Nat) (x : HT) (a1 : Int64) (a3 : Int32), fX6_digest_6 F n9 x a1 a3 = some z → Wd p l e { frames := 5, cells := 0, slots := 0, locals := 123 } s m args below meth c D (eX cy ad) 93 ad A (cQl (eX cy ad) 93 ad D A z) 4 6 [(0, .ref (ad 0)), (1, .long a1), (3, .int a3)] [] x := by
  intro n9
  induction n9 with
  | zero => intro x a1 a3 hf; cases hf
  | succ n9 ih => intro x a1 a3 hf; exact tX6_digest_6b hC F (fX6_digest_6 F n9) ih x a1 a3 hf
set_option maxHeartbeats 4000000 in
set_option maxRecDepth 100000 in
theorem kX6_digest (l : Launch) (D : va_G) (cy : Nat → ClassId) (tX tY : Nat) (ad : Nat → Nat) (A : Nat → Prop) (hA : apart ad A 93) (F : Nat) (x : HT) {z : Int64 × HT} (hf : fX6_digest F x = some z) : Met l yX6_digest (Cond.code yX6_digest cX6_digest 4 (some .long) :: wAll) { frames := 5, cells := 0, slots := 0, locals := 123 } (cPc (eX cy ad) 93 ad D cy tX tY A [.ref (ad 0)] x) (cQl (eX cy ad) 93 ad D A z) 0 0 A := by
  refine gMet hA (by decide) (Nat.le_of_ble_eq_true rfl) (fun p e s m below meth c hC H locs ls hP hS hl => ?_)
  have hC : Cf p s m _ meth c cX6_digest 4 RX6 (some .long) D cy tX tY ad A 93 := hC
  have hl : lv_has ls 4 [(0, .ref (ad 0))] := hl
  obtain ⟨hx, hb, -⟩ := id hC
  refine lv_ldc2 (v := 2806) hx hb hC.2.2.2.1 (hC.2.2.2.2.1 _ qw769) dX6_digest_0 ?_
  refine lv_lstore_n (lv' := [(1, .long (2806 : Int64)), (0, .ref (ad 0))]) hx hb dX6_digest_3 rfl hl (by decide) rfl (fun ls hl => ?_)
  refine lv_iconst (v := 0) hx hb dX6_digest_4 (by decide) ?_
  refine lv_istore_n (lv' := [(3, .int (0 : Int32)), (1, .long (2806 : Int64)), (0, .ref (ad 0))]) hx hb dX6_digest_5 rfl hl (by decide) rfl (fun ls hl => ?_)
  exact tX6_digest_6 hC F F x (2806 : Int64) (0 : Int32) hf H locs ls hP hS (lv_sub hl [2, 1, 0] rfl)
