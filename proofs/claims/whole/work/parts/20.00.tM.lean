variable {p : Program} {l : Launch} {e : Env} {s : State} {m : MethodId} {args : Array Value} {below : List Frame} {meth : Method} {c : Code} {D : va_G} {cy : Nat → ClassId} {tX tY : Nat} {ad : Nat → Nat} {A : Nat → Prop}
set_option maxHeartbeats 4000000 in
set_option maxRecDepth 100000 in
theorem kX7_refuses (l : Launch) (D : va_G) (cy : Nat → ClassId) (tX tY : Nat) (ad : Nat → Nat) (A : Nat → Prop) (hA : apart ad A 12) (F : Nat) (x : HT) (a1 : Int32) {z : Int32 × HT} (hf : fX7_refuses F x a1 = some z) : Met l yX7_refuses (Cond.code yX7_refuses cX7_refuses 2 (some .int) :: wAll) { frames := 0, cells := 0, slots := 0, locals := 0 } (cPc (eM cy ad) 12 ad D cy tX tY A [.ref (ad 0), .int a1] x) (cQi (eM cy ad) 12 ad D A z) 0 0 A := by
  refine gMet hA (by decide) (Nat.le_of_ble_eq_true rfl) (fun p e s m below meth c hC H locs ls hP hS hl => ?_)
  have hC : Cf p s m _ meth c cX7_refuses 2 RX7 (some .int) D cy tX tY ad A 12 := hC
  have hl : lv_has ls 2 [(0, .ref (ad 0)), (1, .int a1)] := hl
  obtain ⟨hx, hb, -⟩ := id hC
  refine lv_aload_n hx hb dX7_refuses_0 rfl (lv_at hl 0 rfl) ?_
  refine gfX7_19 hC hP dX7_refuses_1 ?_
  refine lv_bipush (v := -2) hx hb dX7_refuses_4 (by decide) ?_
  refine lv_iload_n hx hb dX7_refuses_6 rfl (lv_at hl 1 rfl) ?_
  refine lv_isub hx hb dX7_refuses_7 ?_
  refine lv_dup2_11 hx hb dX7_refuses_8 rfl rfl ?_
  obtain ⟨h1, hf⟩ := ck_some hf
  refine gIal hC hP 4 (by decide) (eM_4 cy ad _ _) h1 dX7_refuses_9 ?_
  refine lv_iconst (v := 1) hx hb dX7_refuses_10 (by decide) ?_
  refine lv_iadd hx hb dX7_refuses_11 ?_
  obtain ⟨h2, hf⟩ := ck_some hf
  refine gIas hC hP hS 4 (by decide) (fun g9 => eM_4 cy ad g9 _) h2 dX7_refuses_12 (fun H locs hP hS => ?_)
  obtain ⟨x3, e4, hf⟩ := lt_some hf
  have hP : va_P D vwCl (wG (eM cy ad) 12 ad x3) H := by rw [e4]; exact hP
  refine lv_iload_n hx hb dX7_refuses_13 rfl (lv_at hl 1 rfl) ?_
  exact gIret hC hP hS hf dX7_refuses_14
set_option maxHeartbeats 4000000 in
set_option maxRecDepth 100000 in
theorem tX7_back_26b (hC : Cf p s m args meth c cX7_back 2 RX7 (some .int) D cy tX tY ad A 12) (F : Nat) {z : Int32 × HT} (rec26 : HT → Int32 → Option (Int32 × HT)) (hrec26 : ∀ (x : HT) (a1 : Int32), rec26 x a1 = some z → Wd p l e { frames := 1, cells := 0, slots := 0, locals := 21 } s m args below meth c D (eM cy ad) 12 ad A (cQi (eM cy ad) 12 ad D A z) 2 26 [(0, .ref (ad 0)), (1, .int a1)] [] x) : ∀ (x : HT) (a1 : Int32), fX7_back_26b F rec26 x a1 = some z → Wd p l e { frames := 1, cells := 0, slots := 0, locals := 21 } s m args below meth c D (eM cy ad) 12 ad A (cQi (eM cy ad) 12 ad D A z) 2 26 [(0, .ref (ad 0)), (1, .int a1)] [] x := by
  intro x a1 hf H locs ls hP hS hl
  obtain ⟨hx, hb, -⟩ := id hC
  refine lv_iload_n hx hb dX7_back_26 rfl (lv_at hl 1 rfl) ?_
  refine lv_bipush (v := 80) hx hb dX7_back_27 (by decide) ?_
  refine lv_icmp_ge (tgt := 58) hx hb dX7_back_29 (by decide) (fun c7 => ?_) (fun c7 => ?_)
  · have hf := it_t c7 hf
    refine lv_aload_n hx hb dX7_back_58 rfl (lv_at hl 0 rfl) ?_
    refine gfX7_43 hC hP dX7_back_59 ?_
    exact gIret hC hP hS hf dX7_back_62
  · have hf := it_f c7 hf
    refine lv_aload_n hx hb dX7_back_32 rfl (lv_at hl 0 rfl) ?_
    refine gfX7_7 hC hP dX7_back_33 ?_
    refine lv_iload_n hx hb dX7_back_36 rfl (lv_at hl 1 rfl) ?_
    refine lv_aload_n hx hb dX7_back_37 rfl (lv_at hl 0 rfl) ?_
    refine gfX7_16 hC hP dX7_back_38 ?_
    refine lv_bipush (v := 80) hx hb dX7_back_41 (by decide) ?_
    refine lv_aload_n hx hb dX7_back_43 rfl (lv_at hl 0 rfl) ?_
    refine gfX7_43 hC hP dX7_back_44 ?_
    refine lv_imul hx hb dX7_back_47 ?_
    refine lv_iload_n hx hb dX7_back_48 rfl (lv_at hl 1 rfl) ?_
    refine lv_iadd hx hb dX7_back_49 ?_
    obtain ⟨h8, hf⟩ := ck_some hf
    refine gIal hC hP 3 (by decide) (eM_3 cy ad _ _) h8 dX7_back_50 ?_
    obtain ⟨h9, hf⟩ := ck_some hf
    refine gIas hC hP hS 1 (by decide) (fun g9 => eM_1 cy ad g9 _) h9 dX7_back_51 (fun H locs hP hS => ?_)
    obtain ⟨x10, e11, hf⟩ := lt_some hf
    have hP : va_P D vwCl (wG (eM cy ad) 12 ad x10) H := by rw [e11]; exact hP
    obtain ⟨b12, e13, hf⟩ := lt_some hf
    refine lv_iinc (v := b12) (lv' := [(1, .int b12), (0, .ref (ad 0))]) hx hb dX7_back_52 hl (k := 1) rfl (by rw [e13]; rfl) (by decide) rfl (fun ls hl => ?_)
    refine lv_goto (tgt := 26) hx hb dX7_back_55 (by decide) ?_
    exact hrec26 x10 b12 hf H locs ls hP hS (lv_sub hl [1, 0] rfl)
theorem tX7_back_26 (hC : Cf p s m args meth c cX7_back 2 RX7 (some .int) D cy tX tY ad A 12) (F : Nat) {z : Int32 × HT} : ∀ (n9 : Nat) (x : HT) (a1 : Int32), fX7_back_26 F n9 x a1 = some z → Wd p l e { frames := 1, cells := 0, slots := 0, locals := 21 } s m args below meth c D (eM cy ad) 12 ad A (cQi (eM cy ad) 12 ad D A z) 2 26 [(0, .ref (ad 0)), (1, .int a1)] [] x := by
  intro n9
  induction n9 with
  | zero => intro x a1 hf; cases hf
  | succ n9 ih => intro x a1 hf; exact tX7_back_26b hC F (fX7_back_26 F n9) ih x a1 hf
set_option maxHeartbeats 4000000 in
set_option maxRecDepth 100000 in
theorem kX7_back (l : Launch) (D : va_G) (cy : Nat → ClassId) (tX tY : Nat) (ad : Nat → Nat) (A : Nat → Prop) (hA : apart ad A 12) (F : Nat) (x : HT) {z : Int32 × HT} (hf : fX7_back F x = some z) : Met l yX7_back (Cond.code yX7_back cX7_back 2 (some .int) :: wAll) { frames := 1, cells := 0, slots := 0, locals := 21 } (cPc (eM cy ad) 12 ad D cy tX tY A [.ref (ad 0)] x) (cQi (eM cy ad) 12 ad D A z) 0 0 A := by
  refine gMet hA (by decide) (Nat.le_of_ble_eq_true rfl) (fun p e s m below meth c hC H locs ls hP hS hl => ?_)
  have hC : Cf p s m _ meth c cX7_back 2 RX7 (some .int) D cy tX tY ad A 12 := hC
  have hl : lv_has ls 2 [(0, .ref (ad 0))] := hl
  obtain ⟨hx, hb, -⟩ := id hC
  refine lv_aload_n hx hb dX7_back_0 rfl (lv_at hl 0 rfl) ?_
  refine gfX7_43 hC hP dX7_back_1 ?_
  refine lv_if_ne (tgt := 14) hx hb dX7_back_4 (by decide) (fun c1 => ?_) (fun c1 => ?_)
  · have hf := it_f c1 hf
    refine lv_aload_n hx hb dX7_back_14 rfl (lv_at hl 0 rfl) ?_
    refine lv_dup hx hb dX7_back_15 rfl ?_
    refine gfX7_43 hC hP dX7_back_16 ?_
    refine lv_iconst (v := 1) hx hb dX7_back_19 (by decide) ?_
    refine lv_isub hx hb dX7_back_20 ?_
    refine pfX7_43 hC hP hS dX7_back_21 (fun H locs hP hS => ?_)
    obtain ⟨x2, e3, hf⟩ := lt_some hf
    have hP : va_P D vwCl (wG (eM cy ad) 12 ad x2) H := by rw [e3]; exact hP
    refine lv_iconst (v := 0) hx hb dX7_back_24 (by decide) ?_
    refine lv_istore_n (lv' := [(1, .int (0 : Int32)), (0, .ref (ad 0))]) hx hb dX7_back_25 rfl hl (by decide) rfl (fun ls hl => ?_)
    exact tX7_back_26 hC F F x2 (0 : Int32) hf H locs ls hP hS (lv_sub hl [1, 0] rfl)
  · have hf := it_t c1 hf
    refine lv_aload_n hx hb dX7_back_7 rfl (lv_at hl 0 rfl) ?_
    refine lv_bipush (v := -3) hx hb dX7_back_8 (by decide) ?_
    obtain ⟨r5, x4, e6, hf⟩ := bd_some hf
    refine gVi (As := [.int (-3 : Int32)]) (rest := []) (k := 0) hC hP hS (kX7_refuses l D cy tX tY ad A hC.2.2.2.2.2.2.2.2.1 F x (-3 : Int32) e6) glX7_47 ⟨rfl, rfl⟩ hdX7_refuses ⟨Nat.le_of_ble_eq_true rfl, Nat.le_of_ble_eq_true rfl⟩ (by decide) (eM_0 cy ad _ _) rfl rfl hl.1 rfl (Nat.le_of_ble_eq_true rfl) dX7_back_10 ⟨Nat.zero_le _, Nat.zero_le _⟩ (fun H locs hP hS => ?_)
    exact gIret hC hP hS hf dX7_back_13
set_option maxHeartbeats 4000000 in
set_option maxRecDepth 100000 in
theorem tX7_laysAside_2b (hC : Cf p s m args meth c cX7_laysAside 2 RX7 none D cy tX tY ad A 12) (F : Nat) {z : Unit × HT} (rec2 : HT → Int32 → Option (Unit × HT)) (hrec2 : ∀ (x : HT) (a1 : Int32), rec2 x a1 = some z → Wd p l e { frames := 0, cells := 0, slots := 0, locals := 0 } s m args below meth c D (eM cy ad) 12 ad A (cQv (eM cy ad) 12 ad D A z) 2 2 [(0, .ref (ad 0)), (1, .int a1)] [] x) : ∀ (x : HT) (a1 : Int32), fX7_laysAside_2b F rec2 x a1 = some z → Wd p l e { frames := 0, cells := 0, slots := 0, locals := 0 } s m args below meth c D (eM cy ad) 12 ad A (cQv (eM cy ad) 12 ad D A z) 2 2 [(0, .ref (ad 0)), (1, .int a1)] [] x := by
  intro x a1 hf H locs ls hP hS hl
  obtain ⟨hx, hb, -⟩ := id hC
  refine lv_iload_n hx hb dX7_laysAside_2 rfl (lv_at hl 1 rfl) ?_
  refine lv_bipush (v := 80) hx hb dX7_laysAside_3 (by decide) ?_
  refine lv_icmp_ge (tgt := 26) hx hb dX7_laysAside_5 (by decide) (fun c1 => ?_) (fun c1 => ?_)
  · have hf := it_t c1 hf
    exact gVret hC hP hS hf dX7_laysAside_26
  · have hf := it_f c1 hf
    refine lv_aload_n hx hb dX7_laysAside_8 rfl (lv_at hl 0 rfl) ?_
    refine gfX7_13 hC hP dX7_laysAside_9 ?_
    refine lv_iload_n hx hb dX7_laysAside_12 rfl (lv_at hl 1 rfl) ?_
    refine lv_aload_n hx hb dX7_laysAside_13 rfl (lv_at hl 0 rfl) ?_
    refine gfX7_7 hC hP dX7_laysAside_14 ?_
    refine lv_iload_n hx hb dX7_laysAside_17 rfl (lv_at hl 1 rfl) ?_
    obtain ⟨h2, hf⟩ := ck_some hf
    refine gIal hC hP 1 (by decide) (eM_1 cy ad _ _) h2 dX7_laysAside_18 ?_
    obtain ⟨h3, hf⟩ := ck_some hf
    refine gIas hC hP hS 2 (by decide) (fun g9 => eM_2 cy ad g9 _) h3 dX7_laysAside_19 (fun H locs hP hS => ?_)
    obtain ⟨x4, e5, hf⟩ := lt_some hf
    have hP : va_P D vwCl (wG (eM cy ad) 12 ad x4) H := by rw [e5]; exact hP
    obtain ⟨b6, e7, hf⟩ := lt_some hf
    refine lv_iinc (v := b6) (lv' := [(1, .int b6), (0, .ref (ad 0))]) hx hb dX7_laysAside_20 hl (k := 1) rfl (by rw [e7]; rfl) (by decide) rfl (fun ls hl => ?_)
    refine lv_goto (tgt := 2) hx hb dX7_laysAside_23 (by decide) ?_
    exact hrec2 x4 b6 hf H locs ls hP hS (lv_sub hl [1, 0] rfl)
theorem tX7_laysAside_2 (hC : Cf p s m args meth c cX7_laysAside 2 RX7 none D cy tX tY ad A 12) (F : Nat) {z : Unit × HT} : ∀ (n9 : Nat) (x : HT) (a1 : Int32), fX7_laysAside_2 F n9 x a1 = some z → Wd p l e { frames := 0, cells := 0, slots := 0, locals := 0 } s m args below meth c D (eM cy ad) 12 ad A (cQv (eM cy ad) 12 ad D A z) 2 2 [(0, .ref (ad 0)), (1, .int a1)] [] x := by
  intro n9
  induction n9 with
  | zero => intro x a1 hf; cases hf
  | succ n9 ih => intro x a1 hf; exact tX7_laysAside_2b hC F (fX7_laysAside_2 F n9) ih x a1 hf
set_option maxHeartbeats 4000000 in
set_option maxRecDepth 100000 in
theorem kX7_laysAside (l : Launch) (D : va_G) (cy : Nat → ClassId) (tX tY : Nat) (ad : Nat → Nat) (A : Nat → Prop) (hA : apart ad A 12) (F : Nat) (x : HT) {z : Unit × HT} (hf : fX7_laysAside F x = some z) : Met l yX7_laysAside (Cond.code yX7_laysAside cX7_laysAside 2 none :: wAll) { frames := 0, cells := 0, slots := 0, locals := 0 } (cPc (eM cy ad) 12 ad D cy tX tY A [.ref (ad 0)] x) (cQv (eM cy ad) 12 ad D A z) 0 0 A := by
  refine gMet hA (by decide) (Nat.le_of_ble_eq_true rfl) (fun p e s m below meth c hC H locs ls hP hS hl => ?_)
  have hC : Cf p s m _ meth c cX7_laysAside 2 RX7 none D cy tX tY ad A 12 := hC
  have hl : lv_has ls 2 [(0, .ref (ad 0))] := hl
  obtain ⟨hx, hb, -⟩ := id hC
  refine lv_iconst (v := 0) hx hb dX7_laysAside_0 (by decide) ?_
  refine lv_istore_n (lv' := [(1, .int (0 : Int32)), (0, .ref (ad 0))]) hx hb dX7_laysAside_1 rfl hl (by decide) rfl (fun ls hl => ?_)
  exact tX7_laysAside_2 hC F F x (0 : Int32) hf H locs ls hP hS (lv_sub hl [1, 0] rfl)
set_option maxHeartbeats 4000000 in
set_option maxRecDepth 100000 in
theorem tX7_in_14 (hC : Cf p s m args meth c cX7_in 3 RX7 (some .boolean) D cy tX tY ad A 12) (F : Nat) {z : Int32 × HT} : ∀ (x : HT), fX7_in_14 F x = some z → Wd p l e { frames := 0, cells := 0, slots := 0, locals := 0 } s m args below meth c D (eM cy ad) 12 ad A (cQi (eM cy ad) 12 ad D A z) 3 14 [] [] x := by
  intro x hf H locs ls hP hS hl
  obtain ⟨hx, hb, -⟩ := id hC
  refine lv_iconst (v := 0) hx hb dX7_in_14 (by decide) ?_
  exact gZret hC hP hS rfl hf dX7_in_15
set_option maxHeartbeats 4000000 in
set_option maxRecDepth 100000 in
theorem kX7_in (l : Launch) (D : va_G) (cy : Nat → ClassId) (tX tY : Nat) (ad : Nat → Nat) (A : Nat → Prop) (hA : apart ad A 12) (F : Nat) (x : HT) (a0 : Int32) (a1 : Int32) (a2 : Int32) {z : Int32 × HT} (hf : fX7_in F x a0 a1 a2 = some z) : Met l yX7_in (Cond.code yX7_in cX7_in 3 (some .boolean) :: wAll) { frames := 0, cells := 0, slots := 0, locals := 0 } (cPc (eM cy ad) 12 ad D cy tX tY A [.int a0, .int a1, .int a2] x) (cQi (eM cy ad) 12 ad D A z) 0 0 A := by
  refine gMet hA (by decide) (Nat.le_of_ble_eq_true rfl) (fun p e s m below meth c hC H locs ls hP hS hl => ?_)
  have hC : Cf p s m _ meth c cX7_in 3 RX7 (some .boolean) D cy tX tY ad A 12 := hC
  have hl : lv_has ls 3 [(0, .int a0), (1, .int a1), (2, .int a2)] := hl
  obtain ⟨hx, hb, -⟩ := id hC
  refine lv_iload_n hx hb dX7_in_0 rfl (lv_at hl 0 rfl) ?_
  refine lv_iload_n hx hb dX7_in_1 rfl (lv_at hl 1 rfl) ?_
  refine lv_icmp_lt (tgt := 14) hx hb dX7_in_2 (by decide) (fun c1 => ?_) (fun c1 => ?_)
  · have hf := it_t c1 hf
    exact tX7_in_14 hC F x hf H locs ls hP hS (lv_sub hl [] rfl)
  · have hf := it_f c1 hf
    refine lv_iload_n hx hb dX7_in_5 rfl (lv_at hl 0 rfl) ?_
    refine lv_iload_n hx hb dX7_in_6 rfl (lv_at hl 2 rfl) ?_
    refine lv_icmp_gt (tgt := 14) hx hb dX7_in_7 (by decide) (fun c2 => ?_) (fun c2 => ?_)
    · have hf := it_t c2 hf
      exact tX7_in_14 hC F x hf H locs ls hP hS (lv_sub hl [] rfl)
    · have hf := it_f c2 hf
      refine lv_iconst (v := 1) hx hb dX7_in_10 (by decide) ?_
      refine lv_goto (tgt := 15) hx hb dX7_in_11 (by decide) ?_
      exact gZret hC hP hS rfl hf dX7_in_15
set_option maxHeartbeats 4000000 in
set_option maxRecDepth 100000 in
theorem tX7_putMesh_40b (hC : Cf p s m args meth c cX7_putMesh 5 RX7 (some .int) D cy tX tY ad A 12) (F : Nat) {z : Int32 × HT} (rec40 : HT → Int32 → Int32 → Int32 → Int32 → Option (Int32 × HT)) (hrec40 : ∀ (x : HT) (a1 : Int32) (a2 : Int32) (a3 : Int32) (a4 : Int32), rec40 x a1 a2 a3 a4 = some z → Wd p l e { frames := 1, cells := 0, slots := 0, locals := 22 } s m args below meth c D (eM cy ad) 12 ad A (cQi (eM cy ad) 12 ad D A z) 5 40 [(0, .ref (ad 0)), (1, .int a1), (2, .int a2), (3, .int a3), (4, .int a4)] [] x) : ∀ (x : HT) (a1 : Int32) (a2 : Int32) (a3 : Int32) (a4 : Int32), fX7_putMesh_40b F rec40 x a1 a2 a3 a4 = some z → Wd p l e { frames := 1, cells := 0, slots := 0, locals := 22 } s m args below meth c D (eM cy ad) 12 ad A (cQi (eM cy ad) 12 ad D A z) 5 40 [(0, .ref (ad 0)), (1, .int a1), (2, .int a2), (3, .int a3), (4, .int a4)] [] x := by
  intro x a1 a2 a3 a4 hf H locs ls hP hS hl
  obtain ⟨hx, hb, -⟩ := id hC
  refine lv_iload hx hb dX7_putMesh_40 (lv_at hl 4 rfl) ?_
  refine lv_bipush (v := 80) hx hb dX7_putMesh_42 (by decide) ?_
  refine lv_icmp_ge (tgt := 61) hx hb dX7_putMesh_44 (by decide) (fun c13 => ?_) (fun c13 => ?_)
  · have hf := it_t c13 hf
    refine lv_aload_n hx hb dX7_putMesh_61 rfl (lv_at hl 0 rfl) ?_
    refine gfX7_7 hC hP dX7_putMesh_62 ?_
    refine lv_iconst (v := 0) hx hb dX7_putMesh_65 (by decide) ?_
    refine lv_iload_n hx hb dX7_putMesh_66 rfl (lv_at hl 1 rfl) ?_
    obtain ⟨h14, hf⟩ := ck_some hf
    refine gIas hC hP hS 1 (by decide) (fun g9 => eM_1 cy ad g9 _) h14 dX7_putMesh_67 (fun H locs hP hS => ?_)
    obtain ⟨x15, e16, hf⟩ := lt_some hf
    have hP : va_P D vwCl (wG (eM cy ad) 12 ad x15) H := by rw [e16]; exact hP
    refine lv_aload_n hx hb dX7_putMesh_68 rfl (lv_at hl 0 rfl) ?_
    refine gfX7_7 hC hP dX7_putMesh_69 ?_
    refine lv_iconst (v := 1) hx hb dX7_putMesh_72 (by decide) ?_
    refine lv_iload_n hx hb dX7_putMesh_73 rfl (lv_at hl 2 rfl) ?_
    obtain ⟨h17, hf⟩ := ck_some hf
    refine gIas hC hP hS 1 (by decide) (fun g9 => eM_1 cy ad g9 _) h17 dX7_putMesh_74 (fun H locs hP hS => ?_)
    obtain ⟨x18, e19, hf⟩ := lt_some hf
    have hP : va_P D vwCl (wG (eM cy ad) 12 ad x18) H := by rw [e19]; exact hP
    refine lv_iload_n hx hb dX7_putMesh_75 rfl (lv_at hl 3 rfl) ?_
    exact gIret hC hP hS hf dX7_putMesh_76
  · have hf := it_f c13 hf
    refine lv_aload_n hx hb dX7_putMesh_47 rfl (lv_at hl 0 rfl) ?_
    refine gfX7_7 hC hP dX7_putMesh_48 ?_
    refine lv_iload hx hb dX7_putMesh_51 (lv_at hl 4 rfl) ?_
    refine lv_iconst (v := 0) hx hb dX7_putMesh_53 (by decide) ?_
    obtain ⟨h20, hf⟩ := ck_some hf
    refine gIas hC hP hS 1 (by decide) (fun g9 => eM_1 cy ad g9 _) h20 dX7_putMesh_54 (fun H locs hP hS => ?_)
    obtain ⟨x21, e22, hf⟩ := lt_some hf
    have hP : va_P D vwCl (wG (eM cy ad) 12 ad x21) H := by rw [e22]; exact hP
    obtain ⟨b23, e24, hf⟩ := lt_some hf
    refine lv_iinc (v := b23) (lv' := [(4, .int b23), (0, .ref (ad 0)), (1, .int a1), (2, .int a2), (3, .int a3)]) hx hb dX7_putMesh_55 hl (k := 4) rfl (by rw [e24]; rfl) (by decide) rfl (fun ls hl => ?_)
    refine lv_goto (tgt := 40) hx hb dX7_putMesh_58 (by decide) ?_
    exact hrec40 x21 a1 a2 a3 b23 hf H locs ls hP hS (lv_sub hl [1, 2, 3, 4, 0] rfl)
theorem tX7_putMesh_40 (hC : Cf p s m args meth c cX7_putMesh 5 RX7 (some .int) D cy tX tY ad A 12) (F : Nat) {z : Int32 × HT} : ∀ (n9 : Nat) (x : HT) (a1 : Int32) (a2 : Int32) (a3 : Int32) (a4 : Int32), fX7_putMesh_40 F n9 x a1 a2 a3 a4 = some z → Wd p l e { frames := 1, cells := 0, slots := 0, locals := 22 } s m args below meth c D (eM cy ad) 12 ad A (cQi (eM cy ad) 12 ad D A z) 5 40 [(0, .ref (ad 0)), (1, .int a1), (2, .int a2), (3, .int a3), (4, .int a4)] [] x := by
  intro n9
  induction n9 with
  | zero => intro x a1 a2 a3 a4 hf; cases hf
  | succ n9 ih => intro x a1 a2 a3 a4 hf; exact tX7_putMesh_40b hC F (fX7_putMesh_40 F n9) ih x a1 a2 a3 a4 hf
set_option maxHeartbeats 4000000 in
set_option maxRecDepth 100000 in
theorem tX7_putMesh_20 (hC : Cf p s m args meth c cX7_putMesh 5 RX7 (some .int) D cy tX tY ad A 12) (F : Nat) {z : Int32 × HT} : ∀ (x : HT), fX7_putMesh_20 F x = some z → Wd p l e { frames := 1, cells := 0, slots := 0, locals := 22 } s m args below meth c D (eM cy ad) 12 ad A (cQi (eM cy ad) 12 ad D A z) 5 20 [] [] x := by
  intro x hf H locs ls hP hS hl
  obtain ⟨hx, hb, -⟩ := id hC
  refine lv_bipush (v := -2) hx hb dX7_putMesh_20 (by decide) ?_
  exact gIret hC hP hS hf dX7_putMesh_22
set_option maxHeartbeats 4000000 in
set_option maxRecDepth 100000 in
theorem kX7_putMesh (l : Launch) (D : va_G) (cy : Nat → ClassId) (tX tY : Nat) (ad : Nat → Nat) (A : Nat → Prop) (hA : apart ad A 12) (F : Nat) (x : HT) (a1 : Int32) (a2 : Int32) {z : Int32 × HT} (hf : fX7_putMesh F x a1 a2 = some z) : Met l yX7_putMesh (Cond.code yX7_putMesh cX7_putMesh 5 (some .int) :: wAll) { frames := 1, cells := 0, slots := 0, locals := 22 } (cPc (eM cy ad) 12 ad D cy tX tY A [.ref (ad 0), .int a1, .int a2] x) (cQi (eM cy ad) 12 ad D A z) 0 0 A := by
  refine gMet hA (by decide) (Nat.le_of_ble_eq_true rfl) (fun p e s m below meth c hC H locs ls hP hS hl => ?_)
  have hC : Cf p s m _ meth c cX7_putMesh 5 RX7 (some .int) D cy tX tY ad A 12 := hC
  have hl : lv_has ls 5 [(0, .ref (ad 0)), (1, .int a1), (2, .int a2)] := hl
  obtain ⟨hx, hb, -⟩ := id hC
  refine lv_iload_n hx hb dX7_putMesh_0 rfl (lv_at hl 1 rfl) ?_
  refine lv_iconst (v := 2) hx hb dX7_putMesh_1 (by decide) ?_
  refine lv_bipush (v := 6) hx hb dX7_putMesh_2 (by decide) ?_
  obtain ⟨r2, x1, e3, hf⟩ := bd_some hf
  refine gSi (As := [.int a1, .int (2 : Int32), .int (6 : Int32)]) (rest := []) hC hP hS (kX7_in l D cy tX tY ad A hC.2.2.2.2.2.2.2.2.1 F x a1 (2 : Int32) (6 : Int32) e3) glX7_54 ⟨rfl, rfl⟩ hdX7_in ⟨Nat.le_of_ble_eq_true rfl, Nat.le_of_ble_eq_true rfl⟩ rfl hl.1 rfl (Nat.le_of_ble_eq_true rfl) dX7_putMesh_4 ⟨Nat.zero_le _, Nat.zero_le _⟩ (fun H locs hP hS => ?_)
  refine lv_if_eq (tgt := 20) hx hb dX7_putMesh_7 (by decide) (fun c4 => ?_) (fun c4 => ?_)
  · have hf := it_t c4 hf
    exact tX7_putMesh_20 hC F x1 hf H locs ls hP hS (lv_sub hl [] rfl)
  · have hf := it_f c4 hf
    refine lv_iload_n hx hb dX7_putMesh_10 rfl (lv_at hl 2 rfl) ?_
    refine lv_iconst (v := 2) hx hb dX7_putMesh_11 (by decide) ?_
    refine lv_bipush (v := 6) hx hb dX7_putMesh_12 (by decide) ?_
    obtain ⟨r6, x5, e7, hf⟩ := bd_some hf
    refine gSi (As := [.int a2, .int (2 : Int32), .int (6 : Int32)]) (rest := []) hC hP hS (kX7_in l D cy tX tY ad A hC.2.2.2.2.2.2.2.2.1 F x1 a2 (2 : Int32) (6 : Int32) e7) glX7_54 ⟨rfl, rfl⟩ hdX7_in ⟨Nat.le_of_ble_eq_true rfl, Nat.le_of_ble_eq_true rfl⟩ rfl hl.1 rfl (Nat.le_of_ble_eq_true rfl) dX7_putMesh_14 ⟨Nat.zero_le _, Nat.zero_le _⟩ (fun H locs hP hS => ?_)
    refine lv_if_ne (tgt := 23) hx hb dX7_putMesh_17 (by decide) (fun c8 => ?_) (fun c8 => ?_)
    · have hf := it_f c8 hf
      refine lv_aload_n hx hb dX7_putMesh_23 rfl (lv_at hl 0 rfl) ?_
      refine gfX7_7 hC hP dX7_putMesh_24 ?_
      refine lv_iconst (v := 0) hx hb dX7_putMesh_27 (by decide) ?_
      obtain ⟨h9, hf⟩ := ck_some hf
      refine gIal hC hP 1 (by decide) (eM_1 cy ad _ _) h9 dX7_putMesh_28 ?_
      refine lv_aload_n hx hb dX7_putMesh_29 rfl (lv_at hl 0 rfl) ?_
      refine gfX7_7 hC hP dX7_putMesh_30 ?_
      refine lv_iconst (v := 1) hx hb dX7_putMesh_33 (by decide) ?_
      obtain ⟨h10, hf⟩ := ck_some hf
      refine gIal hC hP 1 (by decide) (eM_1 cy ad _ _) h10 dX7_putMesh_34 ?_
      refine lv_imul hx hb dX7_putMesh_35 ?_
      refine lv_topi (fun b11 e12 => ?_)
      have hf := lt_use e12 hf
      refine lv_istore_n (lv' := [(3, .int b11), (0, .ref (ad 0)), (1, .int a1), (2, .int a2)]) hx hb dX7_putMesh_36 rfl hl (by decide) rfl (fun ls hl => ?_)
      refine lv_iconst (v := 0) hx hb dX7_putMesh_37 (by decide) ?_
      refine lv_istore (lv' := [(4, .int (0 : Int32)), (3, .int b11), (0, .ref (ad 0)), (1, .int a1), (2, .int a2)]) hx hb dX7_putMesh_38 hl (by decide) rfl (fun ls hl => ?_)
      exact tX7_putMesh_40 hC F F x5 a1 a2 b11 (0 : Int32) hf H locs ls hP hS (lv_sub hl [2, 3, 4, 1, 0] rfl)
    · have hf := it_t c8 hf
      exact tX7_putMesh_20 hC F x5 hf H locs ls hP hS (lv_sub hl [] rfl)
set_option maxHeartbeats 4000000 in
set_option maxRecDepth 100000 in
theorem tX7_remembers_50b (hC : Cf p s m args meth c cX7_remembers 2 RX7 none D cy tX tY ad A 12) (F : Nat) {z : Unit × HT} (rec50 : HT → Int32 → Option (Unit × HT)) (hrec50 : ∀ (x : HT) (a1 : Int32), rec50 x a1 = some z → Wd p l e { frames := 0, cells := 0, slots := 0, locals := 0 } s m args below meth c D (eM cy ad) 12 ad A (cQv (eM cy ad) 12 ad D A z) 2 50 [(0, .ref (ad 0)), (1, .int a1)] [] x) : ∀ (x : HT) (a1 : Int32), fX7_remembers_50b F rec50 x a1 = some z → Wd p l e { frames := 0, cells := 0, slots := 0, locals := 0 } s m args below meth c D (eM cy ad) 12 ad A (cQv (eM cy ad) 12 ad D A z) 2 50 [(0, .ref (ad 0)), (1, .int a1)] [] x := by
  intro x a1 hf H locs ls hP hS hl
  obtain ⟨hx, hb, -⟩ := id hC
  refine lv_iload_n hx hb dX7_remembers_50 rfl (lv_at hl 1 rfl) ?_
  refine lv_bipush (v := 80) hx hb dX7_remembers_51 (by decide) ?_
  refine lv_icmp_ge (tgt := 82) hx hb dX7_remembers_53 (by decide) (fun c11 => ?_) (fun c11 => ?_)
  · have hf := it_t c11 hf
    refine lv_aload_n hx hb dX7_remembers_82 rfl (lv_at hl 0 rfl) ?_
    refine lv_dup hx hb dX7_remembers_83 rfl ?_
    refine gfX7_43 hC hP dX7_remembers_84 ?_
    refine lv_iconst (v := 1) hx hb dX7_remembers_87 (by decide) ?_
    refine lv_iadd hx hb dX7_remembers_88 ?_
    refine pfX7_43 hC hP hS dX7_remembers_89 (fun H locs hP hS => ?_)
    obtain ⟨x12, e13, hf⟩ := lt_some hf
    have hP : va_P D vwCl (wG (eM cy ad) 12 ad x12) H := by rw [e13]; exact hP
    exact gVret hC hP hS hf dX7_remembers_92
  · have hf := it_f c11 hf
    refine lv_aload_n hx hb dX7_remembers_56 rfl (lv_at hl 0 rfl) ?_
    refine gfX7_16 hC hP dX7_remembers_57 ?_
    refine lv_bipush (v := 80) hx hb dX7_remembers_60 (by decide) ?_
    refine lv_aload_n hx hb dX7_remembers_62 rfl (lv_at hl 0 rfl) ?_
    refine gfX7_43 hC hP dX7_remembers_63 ?_
    refine lv_imul hx hb dX7_remembers_66 ?_
    refine lv_iload_n hx hb dX7_remembers_67 rfl (lv_at hl 1 rfl) ?_
    refine lv_iadd hx hb dX7_remembers_68 ?_
    refine lv_aload_n hx hb dX7_remembers_69 rfl (lv_at hl 0 rfl) ?_
    refine gfX7_13 hC hP dX7_remembers_70 ?_
    refine lv_iload_n hx hb dX7_remembers_73 rfl (lv_at hl 1 rfl) ?_
    obtain ⟨h14, hf⟩ := ck_some hf
    refine gIal hC hP 2 (by decide) (eM_2 cy ad _ _) h14 dX7_remembers_74 ?_
    obtain ⟨h15, hf⟩ := ck_some hf
    refine gIas hC hP hS 3 (by decide) (fun g9 => eM_3 cy ad g9 _) h15 dX7_remembers_75 (fun H locs hP hS => ?_)
    obtain ⟨x16, e17, hf⟩ := lt_some hf
    have hP : va_P D vwCl (wG (eM cy ad) 12 ad x16) H := by rw [e17]; exact hP
    obtain ⟨b18, e19, hf⟩ := lt_some hf
    refine lv_iinc (v := b18) (lv' := [(1, .int b18), (0, .ref (ad 0))]) hx hb dX7_remembers_76 hl (k := 1) rfl (by rw [e19]; rfl) (by decide) rfl (fun ls hl => ?_)
    refine lv_goto (tgt := 50) hx hb dX7_remembers_79 (by decide) ?_
    exact hrec50 x16 b18 hf H locs ls hP hS (lv_sub hl [1, 0] rfl)
theorem tX7_remembers_50 (hC : Cf p s m args meth c cX7_remembers 2 RX7 none D cy tX tY ad A 12) (F : Nat) {z : Unit × HT} : ∀ (n9 : Nat) (x : HT) (a1 : Int32), fX7_remembers_50 F n9 x a1 = some z → Wd p l e { frames := 0, cells := 0, slots := 0, locals := 0 } s m args below meth c D (eM cy ad) 12 ad A (cQv (eM cy ad) 12 ad D A z) 2 50 [(0, .ref (ad 0)), (1, .int a1)] [] x := by
  intro n9
  induction n9 with
  | zero => intro x a1 hf; cases hf
  | succ n9 ih => intro x a1 hf; exact tX7_remembers_50b hC F (fX7_remembers_50 F n9) ih x a1 hf
set_option maxHeartbeats 4000000 in
set_option maxRecDepth 100000 in
theorem tX7_remembers_48 (hC : Cf p s m args meth c cX7_remembers 2 RX7 none D cy tX tY ad A 12) (F : Nat) {z : Unit × HT} : ∀ (x : HT), fX7_remembers_48 F x = some z → Wd p l e { frames := 0, cells := 0, slots := 0, locals := 0 } s m args below meth c D (eM cy ad) 12 ad A (cQv (eM cy ad) 12 ad D A z) 2 48 [(0, .ref (ad 0))] [] x := by
  intro x hf H locs ls hP hS hl
  obtain ⟨hx, hb, -⟩ := id hC
  refine lv_iconst (v := 0) hx hb dX7_remembers_48 (by decide) ?_
  refine lv_istore_n (lv' := [(1, .int (0 : Int32)), (0, .ref (ad 0))]) hx hb dX7_remembers_49 rfl hl (by decide) rfl (fun ls hl => ?_)
  exact tX7_remembers_50 hC F F x (0 : Int32) hf H locs ls hP hS (lv_sub hl [1, 0] rfl)
set_option maxHeartbeats 4000000 in
set_option maxRecDepth 100000 in
theorem tX7_remembers_10b (hC : Cf p s m args meth c cX7_remembers 2 RX7 none D cy tX tY ad A 12) (F : Nat) {z : Unit × HT} (rec10 : HT → Int32 → Option (Unit × HT)) (hrec10 : ∀ (x : HT) (a1 : Int32), rec10 x a1 = some z → Wd p l e { frames := 0, cells := 0, slots := 0, locals := 0 } s m args below meth c D (eM cy ad) 12 ad A (cQv (eM cy ad) 12 ad D A z) 2 10 [(0, .ref (ad 0)), (1, .int a1)] [] x) : ∀ (x : HT) (a1 : Int32), fX7_remembers_10b F rec10 x a1 = some z → Wd p l e { frames := 0, cells := 0, slots := 0, locals := 0 } s m args below meth c D (eM cy ad) 12 ad A (cQv (eM cy ad) 12 ad D A z) 2 10 [(0, .ref (ad 0)), (1, .int a1)] [] x := by
  intro x a1 hf H locs ls hP hS hl
  obtain ⟨hx, hb, -⟩ := id hC
  refine lv_iload_n hx hb dX7_remembers_10 rfl (lv_at hl 1 rfl) ?_
  refine lv_sipush (v := 320) hx hb dX7_remembers_11 (by decide) ?_
  refine lv_icmp_ge (tgt := 38) hx hb dX7_remembers_14 (by decide) (fun c2 => ?_) (fun c2 => ?_)
  · have hf := it_t c2 hf
    refine lv_aload_n hx hb dX7_remembers_38 rfl (lv_at hl 0 rfl) ?_
    refine lv_dup hx hb dX7_remembers_39 rfl ?_
    refine gfX7_43 hC hP dX7_remembers_40 ?_
    refine lv_iconst (v := 1) hx hb dX7_remembers_43 (by decide) ?_
    refine lv_isub hx hb dX7_remembers_44 ?_
    refine pfX7_43 hC hP hS dX7_remembers_45 (fun H locs hP hS => ?_)
    obtain ⟨x3, e4, hf⟩ := lt_some hf
    have hP : va_P D vwCl (wG (eM cy ad) 12 ad x3) H := by rw [e4]; exact hP
    exact tX7_remembers_48 hC F x3 hf H locs ls hP hS (lv_sub hl [0] rfl)
  · have hf := it_f c2 hf
    refine lv_aload_n hx hb dX7_remembers_17 rfl (lv_at hl 0 rfl) ?_
    refine gfX7_16 hC hP dX7_remembers_18 ?_
    refine lv_iload_n hx hb dX7_remembers_21 rfl (lv_at hl 1 rfl) ?_
    refine lv_aload_n hx hb dX7_remembers_22 rfl (lv_at hl 0 rfl) ?_
    refine gfX7_16 hC hP dX7_remembers_23 ?_
    refine lv_iload_n hx hb dX7_remembers_26 rfl (lv_at hl 1 rfl) ?_
    refine lv_bipush (v := 80) hx hb dX7_remembers_27 (by decide) ?_
    refine lv_iadd hx hb dX7_remembers_29 ?_
    obtain ⟨h5, hf⟩ := ck_some hf
    refine gIal hC hP 3 (by decide) (eM_3 cy ad _ _) h5 dX7_remembers_30 ?_
    obtain ⟨h6, hf⟩ := ck_some hf
    refine gIas hC hP hS 3 (by decide) (fun g9 => eM_3 cy ad g9 _) h6 dX7_remembers_31 (fun H locs hP hS => ?_)
    obtain ⟨x7, e8, hf⟩ := lt_some hf
    have hP : va_P D vwCl (wG (eM cy ad) 12 ad x7) H := by rw [e8]; exact hP
    obtain ⟨b9, e10, hf⟩ := lt_some hf
    refine lv_iinc (v := b9) (lv' := [(1, .int b9), (0, .ref (ad 0))]) hx hb dX7_remembers_32 hl (k := 1) rfl (by rw [e10]; rfl) (by decide) rfl (fun ls hl => ?_)
    refine lv_goto (tgt := 10) hx hb dX7_remembers_35 (by decide) ?_
    exact hrec10 x7 b9 hf H locs ls hP hS (lv_sub hl [1, 0] rfl)
theorem tX7_remembers_10 (hC : Cf p s m args meth c cX7_remembers 2 RX7 none D cy tX tY ad A 12) (F : Nat) {z : Unit × HT} : ∀ (n9 : Nat) (x : HT) (a1 : Int32), fX7_remembers_10 F n9 x a1 = some z → Wd p l e { frames := 0, cells := 0, slots := 0, locals := 0 } s m args below meth c D (eM cy ad) 12 ad A (cQv (eM cy ad) 12 ad D A z) 2 10 [(0, .ref (ad 0)), (1, .int a1)] [] x := by
  intro n9
  induction n9 with
  | zero => intro x a1 hf; cases hf
  | succ n9 ih => intro x a1 hf; exact tX7_remembers_10b hC F (fX7_remembers_10 F n9) ih x a1 hf
set_option maxHeartbeats 4000000 in
set_option maxRecDepth 100000 in
theorem kX7_remembers (l : Launch) (D : va_G) (cy : Nat → ClassId) (tX tY : Nat) (ad : Nat → Nat) (A : Nat → Prop) (hA : apart ad A 12) (F : Nat) (x : HT) {z : Unit × HT} (hf : fX7_remembers F x = some z) : Met l yX7_remembers (Cond.code yX7_remembers cX7_remembers 2 none :: wAll) { frames := 0, cells := 0, slots := 0, locals := 0 } (cPc (eM cy ad) 12 ad D cy tX tY A [.ref (ad 0)] x) (cQv (eM cy ad) 12 ad D A z) 0 0 A := by
  refine gMet hA (by decide) (Nat.le_of_ble_eq_true rfl) (fun p e s m below meth c hC H locs ls hP hS hl => ?_)
  have hC : Cf p s m _ meth c cX7_remembers 2 RX7 none D cy tX tY ad A 12 := hC
  have hl : lv_has ls 2 [(0, .ref (ad 0))] := hl
  obtain ⟨hx, hb, -⟩ := id hC
  refine lv_aload_n hx hb dX7_remembers_0 rfl (lv_at hl 0 rfl) ?_
  refine gfX7_43 hC hP dX7_remembers_1 ?_
  refine lv_iconst (v := 5) hx hb dX7_remembers_4 (by decide) ?_
  refine lv_icmp_ne (tgt := 48) hx hb dX7_remembers_5 (by decide) (fun c1 => ?_) (fun c1 => ?_)
  · have hf := it_f c1 hf
    exact tX7_remembers_48 hC F x hf H locs ls hP hS (lv_sub hl [0] rfl)
  · have hf := it_t c1 hf
    refine lv_iconst (v := 0) hx hb dX7_remembers_8 (by decide) ?_
    refine lv_istore_n (lv' := [(1, .int (0 : Int32)), (0, .ref (ad 0))]) hx hb dX7_remembers_9 rfl hl (by decide) rfl (fun ls hl => ?_)
    exact tX7_remembers_10 hC F F x (0 : Int32) hf H locs ls hP hS (lv_sub hl [1, 0] rfl)
set_option maxHeartbeats 4000000 in
set_option maxRecDepth 100000 in
theorem kX7_finished (l : Launch) (D : va_G) (cy : Nat → ClassId) (tX tY : Nat) (ad : Nat → Nat) (A : Nat → Prop) (hA : apart ad A 12) (F : Nat) (x : HT) (a1 : Int32) {z : Int32 × HT} (hf : fX7_finished F x a1 = some z) : Met l yX7_finished (Cond.code yX7_finished cX7_finished 2 (some .int) :: wAll) { frames := 1, cells := 0, slots := 0, locals := 21 } (cPc (eM cy ad) 12 ad D cy tX tY A [.ref (ad 0), .int a1] x) (cQi (eM cy ad) 12 ad D A z) 0 0 A := by
  refine gMet hA (by decide) (Nat.le_of_ble_eq_true rfl) (fun p e s m below meth c hC H locs ls hP hS hl => ?_)
  have hC : Cf p s m _ meth c cX7_finished 2 RX7 (some .int) D cy tX tY ad A 12 := hC
  have hl : lv_has ls 2 [(0, .ref (ad 0)), (1, .int a1)] := hl
  obtain ⟨hx, hb, -⟩ := id hC
  refine lv_iload_n hx hb dX7_finished_0 rfl (lv_at hl 1 rfl) ?_
  refine lv_bipush (v := -2) hx hb dX7_finished_1 (by decide) ?_
  refine lv_icmp_gt (tgt := 12) hx hb dX7_finished_3 (by decide) (fun c1 => ?_) (fun c1 => ?_)
  · have hf := it_t c1 hf
    refine lv_aload_n hx hb dX7_finished_12 rfl (lv_at hl 0 rfl) ?_
    obtain ⟨r3, x2, e4, hf⟩ := bd_some hf
    refine gVv (As := []) (rest := []) (k := 0) hC hP hS (kX7_remembers l D cy tX tY ad A hC.2.2.2.2.2.2.2.2.1 F x e4) glX7_51 ⟨rfl, rfl⟩ hdX7_remembers ⟨Nat.le_of_ble_eq_true rfl, Nat.le_of_ble_eq_true rfl⟩ (by decide) (eM_0 cy ad _ _) rfl rfl hl.1 rfl (Nat.le_of_ble_eq_true rfl) dX7_finished_13 ⟨Nat.zero_le _, Nat.zero_le _⟩ (fun H locs hP hS => ?_)
    refine lv_iload_n hx hb dX7_finished_16 rfl (lv_at hl 1 rfl) ?_
    exact gIret hC hP hS hf dX7_finished_17
  · have hf := it_f c1 hf
    refine lv_aload_n hx hb dX7_finished_6 rfl (lv_at hl 0 rfl) ?_
    refine lv_iload_n hx hb dX7_finished_7 rfl (lv_at hl 1 rfl) ?_
    obtain ⟨r6, x5, e7, hf⟩ := bd_some hf
    refine gVi (As := [.int a1]) (rest := []) (k := 0) hC hP hS (kX7_refuses l D cy tX tY ad A hC.2.2.2.2.2.2.2.2.1 F x a1 e7) glX7_47 ⟨rfl, rfl⟩ hdX7_refuses ⟨Nat.le_of_ble_eq_true rfl, Nat.le_of_ble_eq_true rfl⟩ (by decide) (eM_0 cy ad _ _) rfl rfl hl.1 rfl (Nat.le_of_ble_eq_true rfl) dX7_finished_8 ⟨Nat.zero_le _, Nat.zero_le _⟩ (fun H locs hP hS => ?_)
    exact gIret hC hP hS hf dX7_finished_11
set_option maxHeartbeats 4000000 in
set_option maxRecDepth 100000 in
theorem kX7_mesh (l : Launch) (D : va_G) (cy : Nat → ClassId) (tX tY : Nat) (ad : Nat → Nat) (A : Nat → Prop) (hA : apart ad A 12) (F : Nat) (x : HT) (a1 : Int32) (a2 : Int32) {z : Int32 × HT} (hf : fX7_mesh F x a1 a2 = some z) : Met l yX7_mesh (Cond.code yX7_mesh cX7_mesh 3 (some .int) :: wAll) { frames := 2, cells := 0, slots := 0, locals := 46 } (cPc (eM cy ad) 12 ad D cy tX tY A [.ref (ad 0), .int a1, .int a2] x) (cQi (eM cy ad) 12 ad D A z) 0 0 A := by
  refine gMet hA (by decide) (Nat.le_of_ble_eq_true rfl) (fun p e s m below meth c hC H locs ls hP hS hl => ?_)
  have hC : Cf p s m _ meth c cX7_mesh 3 RX7 (some .int) D cy tX tY ad A 12 := hC
  have hl : lv_has ls 3 [(0, .ref (ad 0)), (1, .int a1), (2, .int a2)] := hl
  obtain ⟨hx, hb, -⟩ := id hC
  refine lv_aload_n hx hb dX7_mesh_0 rfl (lv_at hl 0 rfl) ?_
  obtain ⟨r2, x1, e3, hf⟩ := bd_some hf
  refine gVv (As := []) (rest := []) (k := 0) hC hP hS (kX7_laysAside l D cy tX tY ad A hC.2.2.2.2.2.2.2.2.1 F x e3) glX7_139 ⟨rfl, rfl⟩ hdX7_laysAside ⟨Nat.le_of_ble_eq_true rfl, Nat.le_of_ble_eq_true rfl⟩ (by decide) (eM_0 cy ad _ _) rfl rfl hl.1 rfl (Nat.le_of_ble_eq_true rfl) dX7_mesh_1 ⟨Nat.zero_le _, Nat.zero_le _⟩ (fun H locs hP hS => ?_)
  refine lv_aload_n hx hb dX7_mesh_4 rfl (lv_at hl 0 rfl) ?_
  refine lv_aload_n hx hb dX7_mesh_5 rfl (lv_at hl 0 rfl) ?_
  refine lv_iload_n hx hb dX7_mesh_6 rfl (lv_at hl 1 rfl) ?_
  refine lv_iload_n hx hb dX7_mesh_7 rfl (lv_at hl 2 rfl) ?_
  obtain ⟨r5, x4, e6, hf⟩ := bd_some hf
  refine gVi (As := [.int a1, .int a2]) (rest := [.ref (ad 0)]) (k := 0) hC hP hS (kX7_putMesh l D cy tX tY ad A hC.2.2.2.2.2.2.2.2.1 F x1 a1 a2 e6) glX7_142 ⟨rfl, rfl⟩ hdX7_putMesh ⟨Nat.le_of_ble_eq_true rfl, Nat.le_of_ble_eq_true rfl⟩ (by decide) (eM_0 cy ad _ _) rfl rfl hl.1 rfl (Nat.le_of_ble_eq_true rfl) dX7_mesh_8 ⟨Nat.zero_le _, Nat.zero_le _⟩ (fun H locs hP hS => ?_)
  obtain ⟨r8, x7, e9, hf⟩ := bd_some hf
  refine gVi (As := [.int r5]) (rest := []) (k := 0) hC hP hS (kX7_finished l D cy tX tY ad A hC.2.2.2.2.2.2.2.2.1 F x4 r5 e9) glX7_145 ⟨rfl, rfl⟩ hdX7_finished ⟨Nat.le_of_ble_eq_true rfl, Nat.le_of_ble_eq_true rfl⟩ (by decide) (eM_0 cy ad _ _) rfl rfl hl.1 rfl (Nat.le_of_ble_eq_true rfl) dX7_mesh_11 ⟨Nat.zero_le _, Nat.zero_le _⟩ (fun H locs hP hS => ?_)
  exact gIret hC hP hS hf dX7_mesh_14
set_option maxHeartbeats 4000000 in
set_option maxRecDepth 100000 in
theorem tX7_isPlace_36 (hC : Cf p s m args meth c cX7_isPlace 3 RX7 (some .boolean) D cy tX tY ad A 12) (F : Nat) {z : Int32 × HT} : ∀ (x : HT), fX7_isPlace_36 F x = some z → Wd p l e { frames := 1, cells := 0, slots := 0, locals := 22 } s m args below meth c D (eM cy ad) 12 ad A (cQi (eM cy ad) 12 ad D A z) 3 36 [] [] x := by
  intro x hf H locs ls hP hS hl
  obtain ⟨hx, hb, -⟩ := id hC
  refine lv_iconst (v := 0) hx hb dX7_isPlace_36 (by decide) ?_
  exact gZret hC hP hS rfl hf dX7_isPlace_37
set_option maxHeartbeats 4000000 in
set_option maxRecDepth 100000 in
theorem kX7_isPlace (l : Launch) (D : va_G) (cy : Nat → ClassId) (tX tY : Nat) (ad : Nat → Nat) (A : Nat → Prop) (hA : apart ad A 12) (F : Nat) (x : HT) (a1 : Int32) (a2 : Int32) {z : Int32 × HT} (hf : fX7_isPlace F x a1 a2 = some z) : Met l yX7_isPlace (Cond.code yX7_isPlace cX7_isPlace 3 (some .boolean) :: wAll) { frames := 1, cells := 0, slots := 0, locals := 22 } (cPc (eM cy ad) 12 ad D cy tX tY A [.ref (ad 0), .int a1, .int a2] x) (cQi (eM cy ad) 12 ad D A z) 0 0 A := by
  refine gMet hA (by decide) (Nat.le_of_ble_eq_true rfl) (fun p e s m below meth c hC H locs ls hP hS hl => ?_)
  have hC : Cf p s m _ meth c cX7_isPlace 3 RX7 (some .boolean) D cy tX tY ad A 12 := hC
  have hl : lv_has ls 3 [(0, .ref (ad 0)), (1, .int a1), (2, .int a2)] := hl
  obtain ⟨hx, hb, -⟩ := id hC
  refine lv_iload_n hx hb dX7_isPlace_0 rfl (lv_at hl 1 rfl) ?_
  refine lv_iconst (v := 0) hx hb dX7_isPlace_1 (by decide) ?_
  refine lv_aload_n hx hb dX7_isPlace_2 rfl (lv_at hl 0 rfl) ?_
  refine gfX7_7 hC hP dX7_isPlace_3 ?_
  refine lv_iconst (v := 0) hx hb dX7_isPlace_6 (by decide) ?_
  obtain ⟨h1, hf⟩ := ck_some hf
  refine gIal hC hP 1 (by decide) (eM_1 cy ad _ _) h1 dX7_isPlace_7 ?_
  refine lv_iconst (v := 1) hx hb dX7_isPlace_8 (by decide) ?_
  refine lv_isub hx hb dX7_isPlace_9 ?_
  obtain ⟨r3, x2, e4, hf⟩ := bd_some hf
  refine gSi (As := [.int a1, .int (0 : Int32), .int ((x.1 1 (0 : Int32).toNatClampNeg) - (1 : Int32))]) (rest := []) hC hP hS (kX7_in l D cy tX tY ad A hC.2.2.2.2.2.2.2.2.1 F x a1 (0 : Int32) ((x.1 1 (0 : Int32).toNatClampNeg) - (1 : Int32)) e4) glX7_54 ⟨rfl, rfl⟩ hdX7_in ⟨Nat.le_of_ble_eq_true rfl, Nat.le_of_ble_eq_true rfl⟩ rfl hl.1 rfl (Nat.le_of_ble_eq_true rfl) dX7_isPlace_10 ⟨Nat.zero_le _, Nat.zero_le _⟩ (fun H locs hP hS => ?_)
  refine lv_if_eq (tgt := 36) hx hb dX7_isPlace_13 (by decide) (fun c5 => ?_) (fun c5 => ?_)
  · have hf := it_t c5 hf
    exact tX7_isPlace_36 hC F x2 hf H locs ls hP hS (lv_sub hl [] rfl)
  · have hf := it_f c5 hf
    refine lv_iload_n hx hb dX7_isPlace_16 rfl (lv_at hl 2 rfl) ?_
    refine lv_iconst (v := 0) hx hb dX7_isPlace_17 (by decide) ?_
    refine lv_aload_n hx hb dX7_isPlace_18 rfl (lv_at hl 0 rfl) ?_
    refine gfX7_7 hC hP dX7_isPlace_19 ?_
    refine lv_iconst (v := 1) hx hb dX7_isPlace_22 (by decide) ?_
    obtain ⟨h6, hf⟩ := ck_some hf
    refine gIal hC hP 1 (by decide) (eM_1 cy ad _ _) h6 dX7_isPlace_23 ?_
    refine lv_iconst (v := 1) hx hb dX7_isPlace_24 (by decide) ?_
    refine lv_isub hx hb dX7_isPlace_25 ?_
    obtain ⟨r8, x7, e9, hf⟩ := bd_some hf
    refine gSi (As := [.int a2, .int (0 : Int32), .int ((x2.1 1 (1 : Int32).toNatClampNeg) - (1 : Int32))]) (rest := []) hC hP hS (kX7_in l D cy tX tY ad A hC.2.2.2.2.2.2.2.2.1 F x2 a2 (0 : Int32) ((x2.1 1 (1 : Int32).toNatClampNeg) - (1 : Int32)) e9) glX7_54 ⟨rfl, rfl⟩ hdX7_in ⟨Nat.le_of_ble_eq_true rfl, Nat.le_of_ble_eq_true rfl⟩ rfl hl.1 rfl (Nat.le_of_ble_eq_true rfl) dX7_isPlace_26 ⟨Nat.zero_le _, Nat.zero_le _⟩ (fun H locs hP hS => ?_)
    refine lv_if_eq (tgt := 36) hx hb dX7_isPlace_29 (by decide) (fun c10 => ?_) (fun c10 => ?_)
    · have hf := it_t c10 hf
      exact tX7_isPlace_36 hC F x7 hf H locs ls hP hS (lv_sub hl [] rfl)
    · have hf := it_f c10 hf
      refine lv_iconst (v := 1) hx hb dX7_isPlace_32 (by decide) ?_
      refine lv_goto (tgt := 37) hx hb dX7_isPlace_33 (by decide) ?_
      exact gZret hC hP hS rfl hf dX7_isPlace_37
set_option maxHeartbeats 4000000 in
set_option maxRecDepth 100000 in
theorem kX7_spotOf (l : Launch) (D : va_G) (cy : Nat → ClassId) (tX tY : Nat) (ad : Nat → Nat) (A : Nat → Prop) (hA : apart ad A 12) (F : Nat) (x : HT) (a1 : Int32) (a2 : Int32) {z : Int32 × HT} (hf : fX7_spotOf F x a1 a2 = some z) : Met l yX7_spotOf (Cond.code yX7_spotOf cX7_spotOf 3 (some .int) :: wAll) { frames := 0, cells := 0, slots := 0, locals := 0 } (cPc (eM cy ad) 12 ad D cy tX tY A [.ref (ad 0), .int a1, .int a2] x) (cQi (eM cy ad) 12 ad D A z) 0 0 A := by
  refine gMet hA (by decide) (Nat.le_of_ble_eq_true rfl) (fun p e s m below meth c hC H locs ls hP hS hl => ?_)
  have hC : Cf p s m _ meth c cX7_spotOf 3 RX7 (some .int) D cy tX tY ad A 12 := hC
  have hl : lv_has ls 3 [(0, .ref (ad 0)), (1, .int a1), (2, .int a2)] := hl
  obtain ⟨hx, hb, -⟩ := id hC
  refine lv_iconst (v := 4) hx hb dX7_spotOf_0 (by decide) ?_
  refine lv_bipush (v := 8) hx hb dX7_spotOf_1 (by decide) ?_
  refine lv_iload_n hx hb dX7_spotOf_3 rfl (lv_at hl 1 rfl) ?_
  refine lv_imul hx hb dX7_spotOf_4 ?_
  refine lv_iadd hx hb dX7_spotOf_5 ?_
  refine lv_iload_n hx hb dX7_spotOf_6 rfl (lv_at hl 2 rfl) ?_
  refine lv_iadd hx hb dX7_spotOf_7 ?_
  exact gIret hC hP hS hf dX7_spotOf_8
set_option maxHeartbeats 4000000 in
set_option maxRecDepth 100000 in
theorem tX7_labelOf_28 (hC : Cf p s m args meth c cX7_labelOf 3 RX7 (some .int) D cy tX tY ad A 12) (F : Nat) {z : Int32 × HT} : ∀ (x : HT) (t0 : Int32) (t1 : Int32), fX7_labelOf_28 F x t0 t1 = some z → Wd p l e { frames := 0, cells := 0, slots := 0, locals := 0 } s m args below meth c D (eM cy ad) 12 ad A (cQi (eM cy ad) 12 ad D A z) 3 28 [] [.int t1, .int t0] x := by
  intro x t0 t1 hf H locs ls hP hS hl
  obtain ⟨hx, hb, -⟩ := id hC
  refine lv_iadd hx hb dX7_labelOf_28 ?_
  exact gIret hC hP hS hf dX7_labelOf_29
set_option maxHeartbeats 4000000 in
set_option maxRecDepth 100000 in
theorem kX7_labelOf (l : Launch) (D : va_G) (cy : Nat → ClassId) (tX tY : Nat) (ad : Nat → Nat) (A : Nat → Prop) (hA : apart ad A 12) (F : Nat) (x : HT) (a1 : Int32) (a2 : Int32) {z : Int32 × HT} (hf : fX7_labelOf F x a1 a2 = some z) : Met l yX7_labelOf (Cond.code yX7_labelOf cX7_labelOf 3 (some .int) :: wAll) { frames := 0, cells := 0, slots := 0, locals := 0 } (cPc (eM cy ad) 12 ad D cy tX tY A [.ref (ad 0), .int a1, .int a2] x) (cQi (eM cy ad) 12 ad D A z) 0 0 A := by
  refine gMet hA (by decide) (Nat.le_of_ble_eq_true rfl) (fun p e s m below meth c hC H locs ls hP hS hl => ?_)
  have hC : Cf p s m _ meth c cX7_labelOf 3 RX7 (some .int) D cy tX tY ad A 12 := hC
  have hl : lv_has ls 3 [(0, .ref (ad 0)), (1, .int a1), (2, .int a2)] := hl
  obtain ⟨hx, hb, -⟩ := id hC
  refine lv_iload_n hx hb dX7_labelOf_0 rfl (lv_at hl 2 rfl) ?_
  refine lv_aload_n hx hb dX7_labelOf_1 rfl (lv_at hl 0 rfl) ?_
  refine gfX7_7 hC hP dX7_labelOf_2 ?_
  refine lv_iconst (v := 0) hx hb dX7_labelOf_5 (by decide) ?_
  obtain ⟨h1, hf⟩ := ck_some hf
  refine gIal hC hP 1 (by decide) (eM_1 cy ad _ _) h1 dX7_labelOf_6 ?_
  refine lv_imul hx hb dX7_labelOf_7 ?_
  refine lv_iload_n hx hb dX7_labelOf_8 rfl (lv_at hl 2 rfl) ?_
  refine lv_iconst (v := 2) hx hb dX7_labelOf_9 (by decide) ?_
  refine lv_irem hx hb dX7_labelOf_10 (by decide) ?_
  refine lv_if_ne (tgt := 18) hx hb dX7_labelOf_11 (by decide) (fun c2 => ?_) (fun c2 => ?_)
  · have hf := it_f c2 hf
    refine lv_aload_n hx hb dX7_labelOf_18 rfl (lv_at hl 0 rfl) ?_
    refine gfX7_7 hC hP dX7_labelOf_19 ?_
    refine lv_iconst (v := 0) hx hb dX7_labelOf_22 (by decide) ?_
    obtain ⟨h3, hf⟩ := ck_some hf
    refine gIal hC hP 1 (by decide) (eM_1 cy ad _ _) h3 dX7_labelOf_23 ?_
    refine lv_iconst (v := 1) hx hb dX7_labelOf_24 (by decide) ?_
    refine lv_isub hx hb dX7_labelOf_25 ?_
    refine lv_iload_n hx hb dX7_labelOf_26 rfl (lv_at hl 1 rfl) ?_
    refine lv_isub hx hb dX7_labelOf_27 ?_
    exact tX7_labelOf_28 hC F x (a2 * (x.1 1 (0 : Int32).toNatClampNeg)) (((x.1 1 (0 : Int32).toNatClampNeg) - (1 : Int32)) - a1) hf H locs ls hP hS (lv_sub hl [] rfl)
  · have hf := it_t c2 hf
    refine lv_iload_n hx hb dX7_labelOf_14 rfl (lv_at hl 1 rfl) ?_
    refine lv_goto (tgt := 28) hx hb dX7_labelOf_15 (by decide) ?_
    exact tX7_labelOf_28 hC F x (a2 * (x.1 1 (0 : Int32).toNatClampNeg)) a1 hf H locs ls hP hS (lv_sub hl [] rfl)
set_option maxHeartbeats 4000000 in
set_option maxRecDepth 100000 in
theorem tX7_putMessage_46b (hC : Cf p s m args meth c cX7_putMessage 6 RX7 (some .int) D cy tX tY ad A 12) (F : Nat) {z : Int32 × HT} (rec46 : HT → Int32 → Int32 → Int32 → Int32 → Int32 → Option (Int32 × HT)) (hrec46 : ∀ (x : HT) (a1 : Int32) (a2 : Int32) (a3 : Int32) (a4 : Int32) (a5 : Int32), rec46 x a1 a2 a3 a4 a5 = some z → Wd p l e { frames := 2, cells := 0, slots := 0, locals := 44 } s m args below meth c D (eM cy ad) 12 ad A (cQi (eM cy ad) 12 ad D A z) 6 46 [(0, .ref (ad 0)), (1, .int a1), (2, .int a2), (3, .int a3), (4, .int a4), (5, .int a5)] [] x) : ∀ (x : HT) (a1 : Int32) (a2 : Int32) (a3 : Int32) (a4 : Int32) (a5 : Int32), fX7_putMessage_46b F rec46 x a1 a2 a3 a4 a5 = some z → Wd p l e { frames := 2, cells := 0, slots := 0, locals := 44 } s m args below meth c D (eM cy ad) 12 ad A (cQi (eM cy ad) 12 ad D A z) 6 46 [(0, .ref (ad 0)), (1, .int a1), (2, .int a2), (3, .int a3), (4, .int a4), (5, .int a5)] [] x := by
  intro x a1 a2 a3 a4 a5 hf H locs ls hP hS hl
  obtain ⟨hx, hb, -⟩ := id hC
  refine lv_iload hx hb dX7_putMessage_46 (lv_at hl 5 rfl) ?_
  refine lv_bipush (v := 8) hx hb dX7_putMessage_48 (by decide) ?_
  refine lv_icmp_ge (tgt := 73) hx hb dX7_putMessage_50 (by decide) (fun c14 => ?_) (fun c14 => ?_)
  · have hf := it_t c14 hf
    refine lv_aload_n hx hb dX7_putMessage_73 rfl (lv_at hl 0 rfl) ?_
    refine gfX7_7 hC hP dX7_putMessage_74 ?_
    refine lv_aload_n hx hb dX7_putMessage_77 rfl (lv_at hl 0 rfl) ?_
    refine lv_iload hx hb dX7_putMessage_78 (lv_at hl 4 rfl) ?_
    refine lv_iconst (v := 0) hx hb dX7_putMessage_80 (by decide) ?_
    obtain ⟨r16, x15, e17, hf⟩ := bd_some hf
    refine gVi (As := [.int a4, .int (0 : Int32)]) (rest := [.ref (ad 1)]) (k := 0) hC hP hS (kX7_spotOf l D cy tX tY ad A hC.2.2.2.2.2.2.2.2.1 F x a4 (0 : Int32) e17) glX7_109 ⟨rfl, rfl⟩ hdX7_spotOf ⟨Nat.le_of_ble_eq_true rfl, Nat.le_of_ble_eq_true rfl⟩ (by decide) (eM_0 cy ad _ _) rfl rfl hl.1 rfl (Nat.le_of_ble_eq_true rfl) dX7_putMessage_81 ⟨Nat.zero_le _, Nat.zero_le _⟩ (fun H locs hP hS => ?_)
    refine lv_aload_n hx hb dX7_putMessage_84 rfl (lv_at hl 0 rfl) ?_
    refine lv_iload_n hx hb dX7_putMessage_85 rfl (lv_at hl 1 rfl) ?_
    refine lv_iload_n hx hb dX7_putMessage_86 rfl (lv_at hl 2 rfl) ?_
    obtain ⟨r19, x18, e20, hf⟩ := bd_some hf
    refine gVi (As := [.int a1, .int a2]) (rest := [.int r16, .ref (ad 1)]) (k := 0) hC hP hS (kX7_labelOf l D cy tX tY ad A hC.2.2.2.2.2.2.2.2.1 F x15 a1 a2 e20) glX7_68 ⟨rfl, rfl⟩ hdX7_labelOf ⟨Nat.le_of_ble_eq_true rfl, Nat.le_of_ble_eq_true rfl⟩ (by decide) (eM_0 cy ad _ _) rfl rfl hl.1 rfl (Nat.le_of_ble_eq_true rfl) dX7_putMessage_87 ⟨Nat.zero_le _, Nat.zero_le _⟩ (fun H locs hP hS => ?_)
    obtain ⟨h21, hf⟩ := ck_some hf
    refine gIas hC hP hS 1 (by decide) (fun g9 => eM_1 cy ad g9 _) h21 dX7_putMessage_90 (fun H locs hP hS => ?_)
    obtain ⟨x22, e23, hf⟩ := lt_some hf
    have hP : va_P D vwCl (wG (eM cy ad) 12 ad x22) H := by rw [e23]; exact hP
    refine lv_aload_n hx hb dX7_putMessage_91 rfl (lv_at hl 0 rfl) ?_
    refine gfX7_7 hC hP dX7_putMessage_92 ?_
    refine lv_aload_n hx hb dX7_putMessage_95 rfl (lv_at hl 0 rfl) ?_
    refine lv_iload hx hb dX7_putMessage_96 (lv_at hl 4 rfl) ?_
    refine lv_iconst (v := 1) hx hb dX7_putMessage_98 (by decide) ?_
    obtain ⟨r25, x24, e26, hf⟩ := bd_some hf
    refine gVi (As := [.int a4, .int (1 : Int32)]) (rest := [.ref (ad 1)]) (k := 0) hC hP hS (kX7_spotOf l D cy tX tY ad A hC.2.2.2.2.2.2.2.2.1 F x22 a4 (1 : Int32) e26) glX7_109 ⟨rfl, rfl⟩ hdX7_spotOf ⟨Nat.le_of_ble_eq_true rfl, Nat.le_of_ble_eq_true rfl⟩ (by decide) (eM_0 cy ad _ _) rfl rfl hl.1 rfl (Nat.le_of_ble_eq_true rfl) dX7_putMessage_99 ⟨Nat.zero_le _, Nat.zero_le _⟩ (fun H locs hP hS => ?_)
    refine lv_iload_n hx hb dX7_putMessage_102 rfl (lv_at hl 3 rfl) ?_
    obtain ⟨h27, hf⟩ := ck_some hf
    refine gIas hC hP hS 1 (by decide) (fun g9 => eM_1 cy ad g9 _) h27 dX7_putMessage_103 (fun H locs hP hS => ?_)
    obtain ⟨x28, e29, hf⟩ := lt_some hf
    have hP : va_P D vwCl (wG (eM cy ad) 12 ad x28) H := by rw [e29]; exact hP
    refine lv_aload_n hx hb dX7_putMessage_104 rfl (lv_at hl 0 rfl) ?_
    refine gfX7_7 hC hP dX7_putMessage_105 ?_
    refine lv_iconst (v := 3) hx hb dX7_putMessage_108 (by decide) ?_
    refine lv_dup2_11 hx hb dX7_putMessage_109 rfl rfl ?_
    obtain ⟨h30, hf⟩ := ck_some hf
    refine gIal hC hP 1 (by decide) (eM_1 cy ad _ _) h30 dX7_putMessage_110 ?_
    refine lv_iconst (v := 1) hx hb dX7_putMessage_111 (by decide) ?_
    refine lv_iadd hx hb dX7_putMessage_112 ?_
    obtain ⟨h31, hf⟩ := ck_some hf
    refine gIas hC hP hS 1 (by decide) (fun g9 => eM_1 cy ad g9 _) h31 dX7_putMessage_113 (fun H locs hP hS => ?_)
    obtain ⟨x32, e33, hf⟩ := lt_some hf
    have hP : va_P D vwCl (wG (eM cy ad) 12 ad x32) H := by rw [e33]; exact hP
    refine lv_iload hx hb dX7_putMessage_114 (lv_at hl 4 rfl) ?_
    exact gIret hC hP hS hf dX7_putMessage_116
  · have hf := it_f c14 hf
    refine lv_aload_n hx hb dX7_putMessage_53 rfl (lv_at hl 0 rfl) ?_
    refine gfX7_7 hC hP dX7_putMessage_54 ?_
    refine lv_aload_n hx hb dX7_putMessage_57 rfl (lv_at hl 0 rfl) ?_
    refine lv_iload hx hb dX7_putMessage_58 (lv_at hl 4 rfl) ?_
    refine lv_iload hx hb dX7_putMessage_60 (lv_at hl 5 rfl) ?_
    obtain ⟨r35, x34, e36, hf⟩ := bd_some hf
    refine gVi (As := [.int a4, .int a5]) (rest := [.ref (ad 1)]) (k := 0) hC hP hS (kX7_spotOf l D cy tX tY ad A hC.2.2.2.2.2.2.2.2.1 F x a4 a5 e36) glX7_109 ⟨rfl, rfl⟩ hdX7_spotOf ⟨Nat.le_of_ble_eq_true rfl, Nat.le_of_ble_eq_true rfl⟩ (by decide) (eM_0 cy ad _ _) rfl rfl hl.1 rfl (Nat.le_of_ble_eq_true rfl) dX7_putMessage_62 ⟨Nat.zero_le _, Nat.zero_le _⟩ (fun H locs hP hS => ?_)
    refine lv_iconst (v := 0) hx hb dX7_putMessage_65 (by decide) ?_
    obtain ⟨h37, hf⟩ := ck_some hf
    refine gIas hC hP hS 1 (by decide) (fun g9 => eM_1 cy ad g9 _) h37 dX7_putMessage_66 (fun H locs hP hS => ?_)
    obtain ⟨x38, e39, hf⟩ := lt_some hf
    have hP : va_P D vwCl (wG (eM cy ad) 12 ad x38) H := by rw [e39]; exact hP
    obtain ⟨b40, e41, hf⟩ := lt_some hf
    refine lv_iinc (v := b40) (lv' := [(5, .int b40), (0, .ref (ad 0)), (1, .int a1), (2, .int a2), (3, .int a3), (4, .int a4)]) hx hb dX7_putMessage_67 hl (k := 5) rfl (by rw [e41]; rfl) (by decide) rfl (fun ls hl => ?_)
    refine lv_goto (tgt := 46) hx hb dX7_putMessage_70 (by decide) ?_
    exact hrec46 x38 a1 a2 a3 a4 b40 hf H locs ls hP hS (lv_sub hl [1, 2, 3, 4, 5, 0] rfl)
theorem tX7_putMessage_46 (hC : Cf p s m args meth c cX7_putMessage 6 RX7 (some .int) D cy tX tY ad A 12) (F : Nat) {z : Int32 × HT} : ∀ (n9 : Nat) (x : HT) (a1 : Int32) (a2 : Int32) (a3 : Int32) (a4 : Int32) (a5 : Int32), fX7_putMessage_46 F n9 x a1 a2 a3 a4 a5 = some z → Wd p l e { frames := 2, cells := 0, slots := 0, locals := 44 } s m args below meth c D (eM cy ad) 12 ad A (cQi (eM cy ad) 12 ad D A z) 6 46 [(0, .ref (ad 0)), (1, .int a1), (2, .int a2), (3, .int a3), (4, .int a4), (5, .int a5)] [] x := by
  intro n9
  induction n9 with
  | zero => intro x a1 a2 a3 a4 a5 hf; cases hf
  | succ n9 ih => intro x a1 a2 a3 a4 a5 hf; exact tX7_putMessage_46b hC F (fX7_putMessage_46 F n9) ih x a1 a2 a3 a4 a5 hf
set_option maxHeartbeats 4000000 in
set_option maxRecDepth 100000 in
theorem tX7_putMessage_19 (hC : Cf p s m args meth c cX7_putMessage 6 RX7 (some .int) D cy tX tY ad A 12) (F : Nat) {z : Int32 × HT} : ∀ (x : HT), fX7_putMessage_19 F x = some z → Wd p l e { frames := 2, cells := 0, slots := 0, locals := 44 } s m args below meth c D (eM cy ad) 12 ad A (cQi (eM cy ad) 12 ad D A z) 6 19 [] [] x := by
  intro x hf H locs ls hP hS hl
  obtain ⟨hx, hb, -⟩ := id hC
  refine lv_bipush (v := -2) hx hb dX7_putMessage_19 (by decide) ?_
  exact gIret hC hP hS hf dX7_putMessage_21
set_option maxHeartbeats 4000000 in
set_option maxRecDepth 100000 in
theorem kX7_putMessage (l : Launch) (D : va_G) (cy : Nat → ClassId) (tX tY : Nat) (ad : Nat → Nat) (A : Nat → Prop) (hA : apart ad A 12) (F : Nat) (x : HT) (a1 : Int32) (a2 : Int32) (a3 : Int32) {z : Int32 × HT} (hf : fX7_putMessage F x a1 a2 a3 = some z) : Met l yX7_putMessage (Cond.code yX7_putMessage cX7_putMessage 6 (some .int) :: wAll) { frames := 2, cells := 0, slots := 0, locals := 44 } (cPc (eM cy ad) 12 ad D cy tX tY A [.ref (ad 0), .int a1, .int a2, .int a3] x) (cQi (eM cy ad) 12 ad D A z) 0 0 A := by
  refine gMet hA (by decide) (Nat.le_of_ble_eq_true rfl) (fun p e s m below meth c hC H locs ls hP hS hl => ?_)
  have hC : Cf p s m _ meth c cX7_putMessage 6 RX7 (some .int) D cy tX tY ad A 12 := hC
  have hl : lv_has ls 6 [(0, .ref (ad 0)), (1, .int a1), (2, .int a2), (3, .int a3)] := hl
  obtain ⟨hx, hb, -⟩ := id hC
  refine lv_aload_n hx hb dX7_putMessage_0 rfl (lv_at hl 0 rfl) ?_
  refine lv_iload_n hx hb dX7_putMessage_1 rfl (lv_at hl 1 rfl) ?_
  refine lv_iload_n hx hb dX7_putMessage_2 rfl (lv_at hl 2 rfl) ?_
  obtain ⟨r2, x1, e3, hf⟩ := bd_some hf
  refine gVi (As := [.int a1, .int a2]) (rest := []) (k := 0) hC hP hS (kX7_isPlace l D cy tX tY ad A hC.2.2.2.2.2.2.2.2.1 F x a1 a2 e3) glX7_64 ⟨rfl, rfl⟩ hdX7_isPlace ⟨Nat.le_of_ble_eq_true rfl, Nat.le_of_ble_eq_true rfl⟩ (by decide) (eM_0 cy ad _ _) rfl rfl hl.1 rfl (Nat.le_of_ble_eq_true rfl) dX7_putMessage_3 ⟨Nat.zero_le _, Nat.zero_le _⟩ (fun H locs hP hS => ?_)
  refine lv_if_eq (tgt := 19) hx hb dX7_putMessage_6 (by decide) (fun c4 => ?_) (fun c4 => ?_)
  · have hf := it_t c4 hf
    exact tX7_putMessage_19 hC F x1 hf H locs ls hP hS (lv_sub hl [] rfl)
  · have hf := it_f c4 hf
    refine lv_iload_n hx hb dX7_putMessage_9 rfl (lv_at hl 3 rfl) ?_
    refine lv_iconst (v := 1) hx hb dX7_putMessage_10 (by decide) ?_
    refine lv_bipush (v := 9) hx hb dX7_putMessage_11 (by decide) ?_
    obtain ⟨r6, x5, e7, hf⟩ := bd_some hf
    refine gSi (As := [.int a3, .int (1 : Int32), .int (9 : Int32)]) (rest := []) hC hP hS (kX7_in l D cy tX tY ad A hC.2.2.2.2.2.2.2.2.1 F x1 a3 (1 : Int32) (9 : Int32) e7) glX7_54 ⟨rfl, rfl⟩ hdX7_in ⟨Nat.le_of_ble_eq_true rfl, Nat.le_of_ble_eq_true rfl⟩ rfl hl.1 rfl (Nat.le_of_ble_eq_true rfl) dX7_putMessage_13 ⟨Nat.zero_le _, Nat.zero_le _⟩ (fun H locs hP hS => ?_)
    refine lv_if_ne (tgt := 22) hx hb dX7_putMessage_16 (by decide) (fun c8 => ?_) (fun c8 => ?_)
    · have hf := it_f c8 hf
      refine lv_aload_n hx hb dX7_putMessage_22 rfl (lv_at hl 0 rfl) ?_
      refine gfX7_7 hC hP dX7_putMessage_23 ?_
      refine lv_iconst (v := 3) hx hb dX7_putMessage_26 (by decide) ?_
      obtain ⟨h9, hf⟩ := ck_some hf
      refine gIal hC hP 1 (by decide) (eM_1 cy ad _ _) h9 dX7_putMessage_27 ?_
      refine lv_iconst (v := 5) hx hb dX7_putMessage_28 (by decide) ?_
      refine lv_icmp_ne (tgt := 35) hx hb dX7_putMessage_29 (by decide) (fun c10 => ?_) (fun c10 => ?_)
      · have hf := it_f c10 hf
        refine lv_aload_n hx hb dX7_putMessage_35 rfl (lv_at hl 0 rfl) ?_
        refine gfX7_7 hC hP dX7_putMessage_36 ?_
        refine lv_iconst (v := 3) hx hb dX7_putMessage_39 (by decide) ?_
        obtain ⟨h11, hf⟩ := ck_some hf
        refine gIal hC hP 1 (by decide) (eM_1 cy ad _ _) h11 dX7_putMessage_40 ?_
        refine lv_topi (fun b12 e13 => ?_)
        have hf := lt_use e13 hf
        refine lv_istore (lv' := [(4, .int b12), (0, .ref (ad 0)), (1, .int a1), (2, .int a2), (3, .int a3)]) hx hb dX7_putMessage_41 hl (by decide) rfl (fun ls hl => ?_)
        refine lv_iconst (v := 0) hx hb dX7_putMessage_43 (by decide) ?_
        refine lv_istore (lv' := [(5, .int (0 : Int32)), (4, .int b12), (0, .ref (ad 0)), (1, .int a1), (2, .int a2), (3, .int a3)]) hx hb dX7_putMessage_44 hl (by decide) rfl (fun ls hl => ?_)
        exact tX7_putMessage_46 hC F F x5 a1 a2 a3 b12 (0 : Int32) hf H locs ls hP hS (lv_sub hl [2, 3, 4, 5, 1, 0] rfl)
      · have hf := it_t c10 hf
        refine lv_bipush (v := -4) hx hb dX7_putMessage_32 (by decide) ?_
        exact gIret hC hP hS hf dX7_putMessage_34
    · have hf := it_t c8 hf
      exact tX7_putMessage_19 hC F x5 hf H locs ls hP hS (lv_sub hl [] rfl)
set_option maxHeartbeats 4000000 in
set_option maxRecDepth 100000 in
theorem kX7_message (l : Launch) (D : va_G) (cy : Nat → ClassId) (tX tY : Nat) (ad : Nat → Nat) (A : Nat → Prop) (hA : apart ad A 12) (F : Nat) (x : HT) (a1 : Int32) (a2 : Int32) (a3 : Int32) {z : Int32 × HT} (hf : fX7_message F x a1 a2 a3 = some z) : Met l yX7_message (Cond.code yX7_message cX7_message 4 (some .int) :: wAll) { frames := 3, cells := 0, slots := 0, locals := 69 } (cPc (eM cy ad) 12 ad D cy tX tY A [.ref (ad 0), .int a1, .int a2, .int a3] x) (cQi (eM cy ad) 12 ad D A z) 0 0 A := by
  refine gMet hA (by decide) (Nat.le_of_ble_eq_true rfl) (fun p e s m below meth c hC H locs ls hP hS hl => ?_)
  have hC : Cf p s m _ meth c cX7_message 4 RX7 (some .int) D cy tX tY ad A 12 := hC
  have hl : lv_has ls 4 [(0, .ref (ad 0)), (1, .int a1), (2, .int a2), (3, .int a3)] := hl
  obtain ⟨hx, hb, -⟩ := id hC
  refine lv_aload_n hx hb dX7_message_0 rfl (lv_at hl 0 rfl) ?_
  obtain ⟨r2, x1, e3, hf⟩ := bd_some hf
  refine gVv (As := []) (rest := []) (k := 0) hC hP hS (kX7_laysAside l D cy tX tY ad A hC.2.2.2.2.2.2.2.2.1 F x e3) glX7_139 ⟨rfl, rfl⟩ hdX7_laysAside ⟨Nat.le_of_ble_eq_true rfl, Nat.le_of_ble_eq_true rfl⟩ (by decide) (eM_0 cy ad _ _) rfl rfl hl.1 rfl (Nat.le_of_ble_eq_true rfl) dX7_message_1 ⟨Nat.zero_le _, Nat.zero_le _⟩ (fun H locs hP hS => ?_)
  refine lv_aload_n hx hb dX7_message_4 rfl (lv_at hl 0 rfl) ?_
  refine lv_aload_n hx hb dX7_message_5 rfl (lv_at hl 0 rfl) ?_
  refine lv_iload_n hx hb dX7_message_6 rfl (lv_at hl 1 rfl) ?_
  refine lv_iload_n hx hb dX7_message_7 rfl (lv_at hl 2 rfl) ?_
  refine lv_iload_n hx hb dX7_message_8 rfl (lv_at hl 3 rfl) ?_
  obtain ⟨r5, x4, e6, hf⟩ := bd_some hf
  refine gVi (As := [.int a1, .int a2, .int a3]) (rest := [.ref (ad 0)]) (k := 0) hC hP hS (kX7_putMessage l D cy tX tY ad A hC.2.2.2.2.2.2.2.2.1 F x1 a1 a2 a3 e6) glX7_148 ⟨rfl, rfl⟩ hdX7_putMessage ⟨Nat.le_of_ble_eq_true rfl, Nat.le_of_ble_eq_true rfl⟩ (by decide) (eM_0 cy ad _ _) rfl rfl hl.1 rfl (Nat.le_of_ble_eq_true rfl) dX7_message_9 ⟨Nat.zero_le _, Nat.zero_le _⟩ (fun H locs hP hS => ?_)
  obtain ⟨r8, x7, e9, hf⟩ := bd_some hf
  refine gVi (As := [.int r5]) (rest := []) (k := 0) hC hP hS (kX7_finished l D cy tX tY ad A hC.2.2.2.2.2.2.2.2.1 F x4 r5 e9) glX7_145 ⟨rfl, rfl⟩ hdX7_finished ⟨Nat.le_of_ble_eq_true rfl, Nat.le_of_ble_eq_true rfl⟩ (by decide) (eM_0 cy ad _ _) rfl rfl hl.1 rfl (Nat.le_of_ble_eq_true rfl) dX7_message_12 ⟨Nat.zero_le _, Nat.zero_le _⟩ (fun H locs hP hS => ?_)
  exact gIret hC hP hS hf dX7_message_15
set_option maxHeartbeats 4000000 in
set_option maxRecDepth 100000 in
theorem kX7_isMessage (l : Launch) (D : va_G) (cy : Nat → ClassId) (tX tY : Nat) (ad : Nat → Nat) (A : Nat → Prop) (hA : apart ad A 12) (F : Nat) (x : HT) (a1 : Int32) {z : Int32 × HT} (hf : fX7_isMessage F x a1 = some z) : Met l yX7_isMessage (Cond.code yX7_isMessage cX7_isMessage 2 (some .boolean) :: wAll) { frames := 1, cells := 0, slots := 0, locals := 22 } (cPc (eM cy ad) 12 ad D cy tX tY A [.ref (ad 0), .int a1] x) (cQi (eM cy ad) 12 ad D A z) 0 0 A := by
  refine gMet hA (by decide) (Nat.le_of_ble_eq_true rfl) (fun p e s m below meth c hC H locs ls hP hS hl => ?_)
  have hC : Cf p s m _ meth c cX7_isMessage 2 RX7 (some .boolean) D cy tX tY ad A 12 := hC
  have hl : lv_has ls 2 [(0, .ref (ad 0)), (1, .int a1)] := hl
  obtain ⟨hx, hb, -⟩ := id hC
  refine lv_iload_n hx hb dX7_isMessage_0 rfl (lv_at hl 1 rfl) ?_
  refine lv_iconst (v := 0) hx hb dX7_isMessage_1 (by decide) ?_
  refine lv_aload_n hx hb dX7_isMessage_2 rfl (lv_at hl 0 rfl) ?_
  refine gfX7_7 hC hP dX7_isMessage_3 ?_
  refine lv_iconst (v := 3) hx hb dX7_isMessage_6 (by decide) ?_
  obtain ⟨h1, hf⟩ := ck_some hf
  refine gIal hC hP 1 (by decide) (eM_1 cy ad _ _) h1 dX7_isMessage_7 ?_
  refine lv_iconst (v := 1) hx hb dX7_isMessage_8 (by decide) ?_
  refine lv_isub hx hb dX7_isMessage_9 ?_
  obtain ⟨r3, x2, e4, hf⟩ := bd_some hf
  refine gSi (As := [.int a1, .int (0 : Int32), .int ((x.1 1 (3 : Int32).toNatClampNeg) - (1 : Int32))]) (rest := []) hC hP hS (kX7_in l D cy tX tY ad A hC.2.2.2.2.2.2.2.2.1 F x a1 (0 : Int32) ((x.1 1 (3 : Int32).toNatClampNeg) - (1 : Int32)) e4) glX7_54 ⟨rfl, rfl⟩ hdX7_in ⟨Nat.le_of_ble_eq_true rfl, Nat.le_of_ble_eq_true rfl⟩ rfl hl.1 rfl (Nat.le_of_ble_eq_true rfl) dX7_isMessage_10 ⟨Nat.zero_le _, Nat.zero_le _⟩ (fun H locs hP hS => ?_)
  obtain ⟨h5, hf⟩ := ck_some hf
  exact gZret hC hP hS h5 hf dX7_isMessage_13
set_option maxHeartbeats 4000000 in
set_option maxRecDepth 100000 in
theorem kX7_of0 (l : Launch) (D : va_G) (cy : Nat → ClassId) (tX tY : Nat) (ad : Nat → Nat) (A : Nat → Prop) (hA : apart ad A 12) (F : Nat) (x : HT) (a1 : Int32) (a2 : Int32) {z : Int32 × HT} (hf : fX7_of0 F x a1 a2 = some z) : Met l yX7_of0 (Cond.code yX7_of0 cX7_of0 3 (some .int) :: wAll) { frames := 0, cells := 0, slots := 0, locals := 0 } (cPc (eM cy ad) 12 ad D cy tX tY A [.ref (ad 0), .int a1, .int a2] x) (cQi (eM cy ad) 12 ad D A z) 0 0 A := by
  refine gMet hA (by decide) (Nat.le_of_ble_eq_true rfl) (fun p e s m below meth c hC H locs ls hP hS hl => ?_)
  have hC : Cf p s m _ meth c cX7_of0 3 RX7 (some .int) D cy tX tY ad A 12 := hC
  have hl : lv_has ls 3 [(0, .ref (ad 0)), (1, .int a1), (2, .int a2)] := hl
  obtain ⟨hx, hb, -⟩ := id hC
  refine lv_aload_n hx hb dX7_of0_0 rfl (lv_at hl 0 rfl) ?_
  refine gfX7_7 hC hP dX7_of0_1 ?_
  refine lv_iconst (v := 4) hx hb dX7_of0_4 (by decide) ?_
  refine lv_bipush (v := 8) hx hb dX7_of0_5 (by decide) ?_
  refine lv_iload_n hx hb dX7_of0_7 rfl (lv_at hl 1 rfl) ?_
  refine lv_imul hx hb dX7_of0_8 ?_
  refine lv_iadd hx hb dX7_of0_9 ?_
  refine lv_iload_n hx hb dX7_of0_10 rfl (lv_at hl 2 rfl) ?_
  refine lv_iadd hx hb dX7_of0_11 ?_
  obtain ⟨h1, hf⟩ := ck_some hf
  refine gIal hC hP 1 (by decide) (eM_1 cy ad _ _) h1 dX7_of0_12 ?_
  exact gIret hC hP hS hf dX7_of0_13
set_option maxHeartbeats 4000000 in
set_option maxRecDepth 100000 in
theorem kX7_isGoal (l : Launch) (D : va_G) (cy : Nat → ClassId) (tX tY : Nat) (ad : Nat → Nat) (A : Nat → Prop) (hA : apart ad A 12) (F : Nat) (x : HT) (a1 : Int32) (a2 : Int32) {z : Int32 × HT} (hf : fX7_isGoal F x a1 a2 = some z) : Met l yX7_isGoal (Cond.code yX7_isGoal cX7_isGoal 3 (some .boolean) :: wAll) { frames := 1, cells := 0, slots := 0, locals := 22 } (cPc (eM cy ad) 12 ad D cy tX tY A [.ref (ad 0), .int a1, .int a2] x) (cQi (eM cy ad) 12 ad D A z) 0 0 A := by
  refine gMet hA (by decide) (Nat.le_of_ble_eq_true rfl) (fun p e s m below meth c hC H locs ls hP hS hl => ?_)
  have hC : Cf p s m _ meth c cX7_isGoal 3 RX7 (some .boolean) D cy tX tY ad A 12 := hC
  have hl : lv_has ls 3 [(0, .ref (ad 0)), (1, .int a1), (2, .int a2)] := hl
  obtain ⟨hx, hb, -⟩ := id hC
  refine lv_aload_n hx hb dX7_isGoal_0 rfl (lv_at hl 0 rfl) ?_
  refine lv_iload_n hx hb dX7_isGoal_1 rfl (lv_at hl 1 rfl) ?_
  refine lv_iconst (v := 2) hx hb dX7_isGoal_2 (by decide) ?_
  refine lv_iload_n hx hb dX7_isGoal_3 rfl (lv_at hl 2 rfl) ?_
  refine lv_bipush (v := 18) hx hb dX7_isGoal_4 (by decide) ?_
  refine lv_idiv hx hb dX7_isGoal_6 (by decide) ?_
  refine lv_iadd hx hb dX7_isGoal_7 ?_
  obtain ⟨r2, x1, e3, hf⟩ := bd_some hf
  refine gVi (As := [.int a1, .int ((2 : Int32) + (a2 / (18 : Int32)))]) (rest := []) (k := 0) hC hP hS (kX7_of0 l D cy tX tY ad A hC.2.2.2.2.2.2.2.2.1 F x a1 ((2 : Int32) + (a2 / (18 : Int32))) e3) glX7_78 ⟨rfl, rfl⟩ hdX7_of0 ⟨Nat.le_of_ble_eq_true rfl, Nat.le_of_ble_eq_true rfl⟩ (by decide) (eM_0 cy ad _ _) rfl rfl hl.1 rfl (Nat.le_of_ble_eq_true rfl) dX7_isGoal_8 ⟨Nat.zero_le _, Nat.zero_le _⟩ (fun H locs hP hS => ?_)
  refine lv_iload_n hx hb dX7_isGoal_11 rfl (lv_at hl 2 rfl) ?_
  refine lv_bipush (v := 18) hx hb dX7_isGoal_12 (by decide) ?_
  refine lv_irem hx hb dX7_isGoal_14 (by decide) ?_
  refine lv_ishr hx hb dX7_isGoal_15 ?_
  refine lv_iconst (v := 1) hx hb dX7_isGoal_16 (by decide) ?_
  refine lv_iand hx hb dX7_isGoal_17 ?_
  refine lv_iconst (v := 1) hx hb dX7_isGoal_18 (by decide) ?_
  refine lv_icmp_ne (tgt := 26) hx hb dX7_isGoal_19 (by decide) (fun c4 => ?_) (fun c4 => ?_)
  · have hf := it_f c4 hf
    refine lv_iconst (v := 0) hx hb dX7_isGoal_26 (by decide) ?_
    exact gZret hC hP hS rfl hf dX7_isGoal_27
  · have hf := it_t c4 hf
    refine lv_iconst (v := 1) hx hb dX7_isGoal_22 (by decide) ?_
    refine lv_goto (tgt := 27) hx hb dX7_isGoal_23 (by decide) ?_
    exact gZret hC hP hS rfl hf dX7_isGoal_27
set_option maxHeartbeats 4000000 in
set_option maxRecDepth 100000 in
theorem tX7_goalsOf_25 (hC : Cf p s m args meth c cX7_goalsOf 4 RX7 (some .int) D cy tX tY ad A 12) (F : Nat) {z : Int32 × HT} (rec4 : HT → Int32 → Int32 → Int32 → Option (Int32 × HT)) (hrec4 : ∀ (x : HT) (a1 : Int32) (a2 : Int32) (a3 : Int32), rec4 x a1 a2 a3 = some z → Wd p l e { frames := 2, cells := 0, slots := 0, locals := 44 } s m args below meth c D (eM cy ad) 12 ad A (cQi (eM cy ad) 12 ad D A z) 4 4 [(0, .ref (ad 0)), (1, .int a1), (2, .int a2), (3, .int a3)] [] x) : ∀ (x : HT) (a1 : Int32) (a3 : Int32) (t0 : Int32) (t1 : Int32), fX7_goalsOf_25 F rec4 x a1 a3 t0 t1 = some z → Wd p l e { frames := 2, cells := 0, slots := 0, locals := 44 } s m args below meth c D (eM cy ad) 12 ad A (cQi (eM cy ad) 12 ad D A z) 4 25 [(0, .ref (ad 0)), (1, .int a1), (3, .int a3)] [.int t1, .int t0] x := by
  intro x a1 a3 t0 t1 hf H locs ls hP hS hl
  obtain ⟨hx, hb, -⟩ := id hC
  refine lv_iadd hx hb dX7_goalsOf_25 ?_
  refine lv_topi (fun b6 e7 => ?_)
  have hf := lt_use e7 hf
  refine lv_istore_n (lv' := [(2, .int b6), (0, .ref (ad 0)), (1, .int a1), (3, .int a3)]) hx hb dX7_goalsOf_26 rfl hl (by decide) rfl (fun ls hl => ?_)
  obtain ⟨b8, e9, hf⟩ := lt_some hf
  refine lv_iinc (v := b8) (lv' := [(3, .int b8), (2, .int b6), (0, .ref (ad 0)), (1, .int a1)]) hx hb dX7_goalsOf_27 hl (k := 3) rfl (by rw [e9]; rfl) (by decide) rfl (fun ls hl => ?_)
  refine lv_goto (tgt := 4) hx hb dX7_goalsOf_30 (by decide) ?_
  exact hrec4 x a1 b6 b8 hf H locs ls hP hS (lv_sub hl [2, 3, 1, 0] rfl)
set_option maxHeartbeats 4000000 in
set_option maxRecDepth 100000 in
theorem tX7_goalsOf_4b (hC : Cf p s m args meth c cX7_goalsOf 4 RX7 (some .int) D cy tX tY ad A 12) (F : Nat) {z : Int32 × HT} (rec4 : HT → Int32 → Int32 → Int32 → Option (Int32 × HT)) (hrec4 : ∀ (x : HT) (a1 : Int32) (a2 : Int32) (a3 : Int32), rec4 x a1 a2 a3 = some z → Wd p l e { frames := 2, cells := 0, slots := 0, locals := 44 } s m args below meth c D (eM cy ad) 12 ad A (cQi (eM cy ad) 12 ad D A z) 4 4 [(0, .ref (ad 0)), (1, .int a1), (2, .int a2), (3, .int a3)] [] x) : ∀ (x : HT) (a1 : Int32) (a2 : Int32) (a3 : Int32), fX7_goalsOf_4b F rec4 x a1 a2 a3 = some z → Wd p l e { frames := 2, cells := 0, slots := 0, locals := 44 } s m args below meth c D (eM cy ad) 12 ad A (cQi (eM cy ad) 12 ad D A z) 4 4 [(0, .ref (ad 0)), (1, .int a1), (2, .int a2), (3, .int a3)] [] x := by
  intro x a1 a2 a3 hf H locs ls hP hS hl
  obtain ⟨hx, hb, -⟩ := id hC
  refine lv_iload_n hx hb dX7_goalsOf_4 rfl (lv_at hl 3 rfl) ?_
  refine lv_bipush (v := 36) hx hb dX7_goalsOf_5 (by decide) ?_
  refine lv_icmp_ge (tgt := 33) hx hb dX7_goalsOf_7 (by decide) (fun c1 => ?_) (fun c1 => ?_)
  · have hf := it_t c1 hf
    refine lv_iload_n hx hb dX7_goalsOf_33 rfl (lv_at hl 2 rfl) ?_
    exact gIret hC hP hS hf dX7_goalsOf_34
  · have hf := it_f c1 hf
    refine lv_iload_n hx hb dX7_goalsOf_10 rfl (lv_at hl 2 rfl) ?_
    refine lv_aload_n hx hb dX7_goalsOf_11 rfl (lv_at hl 0 rfl) ?_
    refine lv_iload_n hx hb dX7_goalsOf_12 rfl (lv_at hl 1 rfl) ?_
    refine lv_iload_n hx hb dX7_goalsOf_13 rfl (lv_at hl 3 rfl) ?_
    obtain ⟨r3, x2, e4, hf⟩ := bd_some hf
    refine gVi (As := [.int a1, .int a3]) (rest := [.int a2]) (k := 0) hC hP hS (kX7_isGoal l D cy tX tY ad A hC.2.2.2.2.2.2.2.2.1 F x a1 a3 e4) glX7_81 ⟨rfl, rfl⟩ hdX7_isGoal ⟨Nat.le_of_ble_eq_true rfl, Nat.le_of_ble_eq_true rfl⟩ (by decide) (eM_0 cy ad _ _) rfl rfl hl.1 rfl (Nat.le_of_ble_eq_true rfl) dX7_goalsOf_14 ⟨Nat.zero_le _, Nat.zero_le _⟩ (fun H locs hP hS => ?_)
    refine lv_if_eq (tgt := 24) hx hb dX7_goalsOf_17 (by decide) (fun c5 => ?_) (fun c5 => ?_)
    · have hf := it_t c5 hf
      refine lv_iconst (v := 0) hx hb dX7_goalsOf_24 (by decide) ?_
      exact tX7_goalsOf_25 hC F rec4 hrec4 x2 a1 a3 a2 (0 : Int32) hf H locs ls hP hS (lv_sub hl [0, 1, 3] rfl)
    · have hf := it_f c5 hf
      refine lv_iconst (v := 1) hx hb dX7_goalsOf_20 (by decide) ?_
      refine lv_goto (tgt := 25) hx hb dX7_goalsOf_21 (by decide) ?_
      exact tX7_goalsOf_25 hC F rec4 hrec4 x2 a1 a3 a2 (1 : Int32) hf H locs ls hP hS (lv_sub hl [0, 1, 3] rfl)
theorem tX7_goalsOf_4 (hC : Cf p s m args meth c cX7_goalsOf 4 RX7 (some .int) D cy tX tY ad A 12) (F : Nat) {z : Int32 × HT} : ∀ (n9 : Nat) (x : HT) (a1 : Int32) (a2 : Int32) (a3 : Int32), fX7_goalsOf_4 F n9 x a1 a2 a3 = some z → Wd p l e { frames := 2, cells := 0, slots := 0, locals := 44 } s m args below meth c D (eM cy ad) 12 ad A (cQi (eM cy ad) 12 ad D A z) 4 4 [(0, .ref (ad 0)), (1, .int a1), (2, .int a2), (3, .int a3)] [] x := by
  intro n9
  induction n9 with
  | zero => intro x a1 a2 a3 hf; cases hf
  | succ n9 ih => intro x a1 a2 a3 hf; exact tX7_goalsOf_4b hC F (fX7_goalsOf_4 F n9) ih x a1 a2 a3 hf
set_option maxHeartbeats 4000000 in
set_option maxRecDepth 100000 in
theorem kX7_goalsOf (l : Launch) (D : va_G) (cy : Nat → ClassId) (tX tY : Nat) (ad : Nat → Nat) (A : Nat → Prop) (hA : apart ad A 12) (F : Nat) (x : HT) (a1 : Int32) {z : Int32 × HT} (hf : fX7_goalsOf F x a1 = some z) : Met l yX7_goalsOf (Cond.code yX7_goalsOf cX7_goalsOf 4 (some .int) :: wAll) { frames := 2, cells := 0, slots := 0, locals := 44 } (cPc (eM cy ad) 12 ad D cy tX tY A [.ref (ad 0), .int a1] x) (cQi (eM cy ad) 12 ad D A z) 0 0 A := by
  refine gMet hA (by decide) (Nat.le_of_ble_eq_true rfl) (fun p e s m below meth c hC H locs ls hP hS hl => ?_)
  have hC : Cf p s m _ meth c cX7_goalsOf 4 RX7 (some .int) D cy tX tY ad A 12 := hC
  have hl : lv_has ls 4 [(0, .ref (ad 0)), (1, .int a1)] := hl
  obtain ⟨hx, hb, -⟩ := id hC
  refine lv_iconst (v := 0) hx hb dX7_goalsOf_0 (by decide) ?_
  refine lv_istore_n (lv' := [(2, .int (0 : Int32)), (0, .ref (ad 0)), (1, .int a1)]) hx hb dX7_goalsOf_1 rfl hl (by decide) rfl (fun ls hl => ?_)
  refine lv_iconst (v := 0) hx hb dX7_goalsOf_2 (by decide) ?_
  refine lv_istore_n (lv' := [(3, .int (0 : Int32)), (2, .int (0 : Int32)), (0, .ref (ad 0)), (1, .int a1)]) hx hb dX7_goalsOf_3 rfl hl (by decide) rfl (fun ls hl => ?_)
  exact tX7_goalsOf_4 hC F F x a1 (0 : Int32) (0 : Int32) hf H locs ls hP hS (lv_sub hl [2, 3, 1, 0] rfl)
set_option maxHeartbeats 4000000 in
set_option maxRecDepth 100000 in
theorem tX7_putGoal_53 (hC : Cf p s m args meth c cX7_putGoal 5 RX7 (some .int) D cy tX tY ad A 12) (F : Nat) {z : Int32 × HT} : ∀ (x : HT), fX7_putGoal_53 F x = some z → Wd p l e { frames := 3, cells := 0, slots := 0, locals := 67 } s m args below meth c D (eM cy ad) 12 ad A (cQi (eM cy ad) 12 ad D A z) 5 53 [] [] x := by
  intro x hf H locs ls hP hS hl
  obtain ⟨hx, hb, -⟩ := id hC
  refine lv_bipush (v := -3) hx hb dX7_putGoal_53 (by decide) ?_
  exact gIret hC hP hS hf dX7_putGoal_55
set_option maxHeartbeats 4000000 in
set_option maxRecDepth 100000 in
theorem tX7_putGoal_32 (hC : Cf p s m args meth c cX7_putGoal 5 RX7 (some .int) D cy tX tY ad A 12) (F : Nat) {z : Int32 × HT} : ∀ (x : HT), fX7_putGoal_32 F x = some z → Wd p l e { frames := 3, cells := 0, slots := 0, locals := 67 } s m args below meth c D (eM cy ad) 12 ad A (cQi (eM cy ad) 12 ad D A z) 5 32 [] [] x := by
  intro x hf H locs ls hP hS hl
  obtain ⟨hx, hb, -⟩ := id hC
  refine lv_bipush (v := -2) hx hb dX7_putGoal_32 (by decide) ?_
  exact gIret hC hP hS hf dX7_putGoal_34
set_option maxHeartbeats 4000000 in
set_option maxRecDepth 100000 in
theorem kX7_putGoal (l : Launch) (D : va_G) (cy : Nat → ClassId) (tX tY : Nat) (ad : Nat → Nat) (A : Nat → Prop) (hA : apart ad A 12) (F : Nat) (x : HT) (a1 : Int32) (a2 : Int32) (a3 : Int32) {z : Int32 × HT} (hf : fX7_putGoal F x a1 a2 a3 = some z) : Met l yX7_putGoal (Cond.code yX7_putGoal cX7_putGoal 5 (some .int) :: wAll) { frames := 3, cells := 0, slots := 0, locals := 67 } (cPc (eM cy ad) 12 ad D cy tX tY A [.ref (ad 0), .int a1, .int a2, .int a3] x) (cQi (eM cy ad) 12 ad D A z) 0 0 A := by
  refine gMet hA (by decide) (Nat.le_of_ble_eq_true rfl) (fun p e s m below meth c hC H locs ls hP hS hl => ?_)
  have hC : Cf p s m _ meth c cX7_putGoal 5 RX7 (some .int) D cy tX tY ad A 12 := hC
  have hl : lv_has ls 5 [(0, .ref (ad 0)), (1, .int a1), (2, .int a2), (3, .int a3)] := hl
  obtain ⟨hx, hb, -⟩ := id hC
  refine lv_aload_n hx hb dX7_putGoal_0 rfl (lv_at hl 0 rfl) ?_
  refine lv_iload_n hx hb dX7_putGoal_1 rfl (lv_at hl 1 rfl) ?_
  obtain ⟨r2, x1, e3, hf⟩ := bd_some hf
  refine gVi (As := [.int a1]) (rest := []) (k := 0) hC hP hS (kX7_isMessage l D cy tX tY ad A hC.2.2.2.2.2.2.2.2.1 F x a1 e3) glX7_120 ⟨rfl, rfl⟩ hdX7_isMessage ⟨Nat.le_of_ble_eq_true rfl, Nat.le_of_ble_eq_true rfl⟩ (by decide) (eM_0 cy ad _ _) rfl rfl hl.1 rfl (Nat.le_of_ble_eq_true rfl) dX7_putGoal_2 ⟨Nat.zero_le _, Nat.zero_le _⟩ (fun H locs hP hS => ?_)
  refine lv_if_eq (tgt := 32) hx hb dX7_putGoal_5 (by decide) (fun c4 => ?_) (fun c4 => ?_)
  · have hf := it_t c4 hf
    exact tX7_putGoal_32 hC F x1 hf H locs ls hP hS (lv_sub hl [] rfl)
  · have hf := it_f c4 hf
    refine lv_aload_n hx hb dX7_putGoal_8 rfl (lv_at hl 0 rfl) ?_
    refine lv_iload_n hx hb dX7_putGoal_9 rfl (lv_at hl 2 rfl) ?_
    refine lv_iload_n hx hb dX7_putGoal_10 rfl (lv_at hl 3 rfl) ?_
    obtain ⟨r6, x5, e7, hf⟩ := bd_some hf
    refine gVi (As := [.int a2, .int a3]) (rest := []) (k := 0) hC hP hS (kX7_isPlace l D cy tX tY ad A hC.2.2.2.2.2.2.2.2.1 F x1 a2 a3 e7) glX7_64 ⟨rfl, rfl⟩ hdX7_isPlace ⟨Nat.le_of_ble_eq_true rfl, Nat.le_of_ble_eq_true rfl⟩ (by decide) (eM_0 cy ad _ _) rfl rfl hl.1 rfl (Nat.le_of_ble_eq_true rfl) dX7_putGoal_11 ⟨Nat.zero_le _, Nat.zero_le _⟩ (fun H locs hP hS => ?_)
    refine lv_if_eq (tgt := 32) hx hb dX7_putGoal_14 (by decide) (fun c8 => ?_) (fun c8 => ?_)
    · have hf := it_t c8 hf
      exact tX7_putGoal_32 hC F x5 hf H locs ls hP hS (lv_sub hl [] rfl)
    · have hf := it_f c8 hf
      refine lv_aload_n hx hb dX7_putGoal_17 rfl (lv_at hl 0 rfl) ?_
      refine lv_iload_n hx hb dX7_putGoal_18 rfl (lv_at hl 2 rfl) ?_
      refine lv_iload_n hx hb dX7_putGoal_19 rfl (lv_at hl 3 rfl) ?_
      obtain ⟨r10, x9, e11, hf⟩ := bd_some hf
      refine gVi (As := [.int a2, .int a3]) (rest := []) (k := 0) hC hP hS (kX7_labelOf l D cy tX tY ad A hC.2.2.2.2.2.2.2.2.1 F x5 a2 a3 e11) glX7_68 ⟨rfl, rfl⟩ hdX7_labelOf ⟨Nat.le_of_ble_eq_true rfl, Nat.le_of_ble_eq_true rfl⟩ (by decide) (eM_0 cy ad _ _) rfl rfl hl.1 rfl (Nat.le_of_ble_eq_true rfl) dX7_putGoal_20 ⟨Nat.zero_le _, Nat.zero_le _⟩ (fun H locs hP hS => ?_)
      refine lv_aload_n hx hb dX7_putGoal_23 rfl (lv_at hl 0 rfl) ?_
      refine lv_iload_n hx hb dX7_putGoal_24 rfl (lv_at hl 1 rfl) ?_
      refine lv_iconst (v := 0) hx hb dX7_putGoal_25 (by decide) ?_
      obtain ⟨r13, x12, e14, hf⟩ := bd_some hf
      refine gVi (As := [.int a1, .int (0 : Int32)]) (rest := [.int r10]) (k := 0) hC hP hS (kX7_of0 l D cy tX tY ad A hC.2.2.2.2.2.2.2.2.1 F x9 a1 (0 : Int32) e14) glX7_78 ⟨rfl, rfl⟩ hdX7_of0 ⟨Nat.le_of_ble_eq_true rfl, Nat.le_of_ble_eq_true rfl⟩ (by decide) (eM_0 cy ad _ _) rfl rfl hl.1 rfl (Nat.le_of_ble_eq_true rfl) dX7_putGoal_26 ⟨Nat.zero_le _, Nat.zero_le _⟩ (fun H locs hP hS => ?_)
      refine lv_icmp_ne (tgt := 35) hx hb dX7_putGoal_29 (by decide) (fun c15 => ?_) (fun c15 => ?_)
      · have hf := it_f c15 hf
        refine lv_aload_n hx hb dX7_putGoal_35 rfl (lv_at hl 0 rfl) ?_
        refine lv_iload_n hx hb dX7_putGoal_36 rfl (lv_at hl 1 rfl) ?_
        refine lv_iconst (v := 4) hx hb dX7_putGoal_37 (by decide) ?_
        obtain ⟨r17, x16, e18, hf⟩ := bd_some hf
        refine gVi (As := [.int a1, .int (4 : Int32)]) (rest := []) (k := 0) hC hP hS (kX7_of0 l D cy tX tY ad A hC.2.2.2.2.2.2.2.2.1 F x12 a1 (4 : Int32) e18) glX7_78 ⟨rfl, rfl⟩ hdX7_of0 ⟨Nat.le_of_ble_eq_true rfl, Nat.le_of_ble_eq_true rfl⟩ (by decide) (eM_0 cy ad _ _) rfl rfl hl.1 rfl (Nat.le_of_ble_eq_true rfl) dX7_putGoal_38 ⟨Nat.zero_le _, Nat.zero_le _⟩ (fun H locs hP hS => ?_)
        refine lv_if_gt (tgt := 53) hx hb dX7_putGoal_41 (by decide) (fun c19 => ?_) (fun c19 => ?_)
        · have hf := it_t c19 hf
          exact tX7_putGoal_53 hC F x16 hf H locs ls hP hS (lv_sub hl [] rfl)
        · have hf := it_f c19 hf
          refine lv_aload_n hx hb dX7_putGoal_44 rfl (lv_at hl 0 rfl) ?_
          refine lv_iload_n hx hb dX7_putGoal_45 rfl (lv_at hl 1 rfl) ?_
          refine lv_iconst (v := 5) hx hb dX7_putGoal_46 (by decide) ?_
          obtain ⟨r21, x20, e22, hf⟩ := bd_some hf
          refine gVi (As := [.int a1, .int (5 : Int32)]) (rest := []) (k := 0) hC hP hS (kX7_of0 l D cy tX tY ad A hC.2.2.2.2.2.2.2.2.1 F x16 a1 (5 : Int32) e22) glX7_78 ⟨rfl, rfl⟩ hdX7_of0 ⟨Nat.le_of_ble_eq_true rfl, Nat.le_of_ble_eq_true rfl⟩ (by decide) (eM_0 cy ad _ _) rfl rfl hl.1 rfl (Nat.le_of_ble_eq_true rfl) dX7_putGoal_47 ⟨Nat.zero_le _, Nat.zero_le _⟩ (fun H locs hP hS => ?_)
          refine lv_if_le (tgt := 56) hx hb dX7_putGoal_50 (by decide) (fun c23 => ?_) (fun c23 => ?_)
          · have hf := it_t c23 hf
            refine lv_aload_n hx hb dX7_putGoal_56 rfl (lv_at hl 0 rfl) ?_
            refine lv_iload_n hx hb dX7_putGoal_57 rfl (lv_at hl 2 rfl) ?_
            refine lv_iload_n hx hb dX7_putGoal_58 rfl (lv_at hl 3 rfl) ?_
            obtain ⟨r25, x24, e26, hf⟩ := bd_some hf
            refine gVi (As := [.int a2, .int a3]) (rest := []) (k := 0) hC hP hS (kX7_labelOf l D cy tX tY ad A hC.2.2.2.2.2.2.2.2.1 F x20 a2 a3 e26) glX7_68 ⟨rfl, rfl⟩ hdX7_labelOf ⟨Nat.le_of_ble_eq_true rfl, Nat.le_of_ble_eq_true rfl⟩ (by decide) (eM_0 cy ad _ _) rfl rfl hl.1 rfl (Nat.le_of_ble_eq_true rfl) dX7_putGoal_59 ⟨Nat.zero_le _, Nat.zero_le _⟩ (fun H locs hP hS => ?_)
            refine lv_istore (lv' := [(4, .int r25), (0, .ref (ad 0)), (1, .int a1), (2, .int a2), (3, .int a3)]) hx hb dX7_putGoal_62 hl (by decide) rfl (fun ls hl => ?_)
            refine lv_aload_n hx hb dX7_putGoal_64 rfl (lv_at hl 1 rfl) ?_
            refine gfX7_7 hC hP dX7_putGoal_65 ?_
            refine lv_aload_n hx hb dX7_putGoal_68 rfl (lv_at hl 1 rfl) ?_
            refine lv_iload_n hx hb dX7_putGoal_69 rfl (lv_at hl 2 rfl) ?_
            refine lv_iconst (v := 2) hx hb dX7_putGoal_70 (by decide) ?_
            refine lv_iload hx hb dX7_putGoal_71 (lv_at hl 0 rfl) ?_
            refine lv_bipush (v := 18) hx hb dX7_putGoal_73 (by decide) ?_
            refine lv_idiv hx hb dX7_putGoal_75 (by decide) ?_
            refine lv_iadd hx hb dX7_putGoal_76 ?_
            obtain ⟨r28, x27, e29, hf⟩ := bd_some hf
            refine gVi (As := [.int a1, .int ((2 : Int32) + (r25 / (18 : Int32)))]) (rest := [.ref (ad 1)]) (k := 0) hC hP hS (kX7_spotOf l D cy tX tY ad A hC.2.2.2.2.2.2.2.2.1 F x24 a1 ((2 : Int32) + (r25 / (18 : Int32))) e29) glX7_109 ⟨rfl, rfl⟩ hdX7_spotOf ⟨Nat.le_of_ble_eq_true rfl, Nat.le_of_ble_eq_true rfl⟩ (by decide) (eM_0 cy ad _ _) rfl rfl hl.1 rfl (Nat.le_of_ble_eq_true rfl) dX7_putGoal_77 ⟨Nat.zero_le _, Nat.zero_le _⟩ (fun H locs hP hS => ?_)
            refine lv_dup2_11 hx hb dX7_putGoal_80 rfl rfl ?_
            obtain ⟨h30, hf⟩ := ck_some hf
            refine gIal hC hP 1 (by decide) (eM_1 cy ad _ _) h30 dX7_putGoal_81 ?_
            refine lv_iconst (v := 1) hx hb dX7_putGoal_82 (by decide) ?_
            refine lv_iload hx hb dX7_putGoal_83 (lv_at hl 0 rfl) ?_
            refine lv_bipush (v := 18) hx hb dX7_putGoal_85 (by decide) ?_
            refine lv_irem hx hb dX7_putGoal_87 (by decide) ?_
            refine lv_ishl hx hb dX7_putGoal_88 ?_
            refine lv_ixor hx hb dX7_putGoal_89 ?_
            obtain ⟨h31, hf⟩ := ck_some hf
            refine gIas hC hP hS 1 (by decide) (fun g9 => eM_1 cy ad g9 _) h31 dX7_putGoal_90 (fun H locs hP hS => ?_)
            obtain ⟨x32, e33, hf⟩ := lt_some hf
            have hP : va_P D vwCl (wG (eM cy ad) 12 ad x32) H := by rw [e33]; exact hP
            refine lv_aload_n hx hb dX7_putGoal_91 rfl (lv_at hl 1 rfl) ?_
            refine lv_iload_n hx hb dX7_putGoal_92 rfl (lv_at hl 2 rfl) ?_
            obtain ⟨r35, x34, e36, hf⟩ := bd_some hf
            refine gVi (As := [.int a1]) (rest := []) (k := 0) hC hP hS (kX7_goalsOf l D cy tX tY ad A hC.2.2.2.2.2.2.2.2.1 F x32 a1 e36) glX7_123 ⟨rfl, rfl⟩ hdX7_goalsOf ⟨Nat.le_of_ble_eq_true rfl, Nat.le_of_ble_eq_true rfl⟩ (by decide) (eM_0 cy ad _ _) rfl rfl hl.1 rfl (Nat.le_of_ble_eq_true rfl) dX7_putGoal_93 ⟨Nat.zero_le _, Nat.zero_le _⟩ (fun H locs hP hS => ?_)
            exact gIret hC hP hS hf dX7_putGoal_96
          · have hf := it_f c23 hf
            exact tX7_putGoal_53 hC F x20 hf H locs ls hP hS (lv_sub hl [] rfl)
      · have hf := it_t c15 hf
        exact tX7_putGoal_32 hC F x12 hf H locs ls hP hS (lv_sub hl [] rfl)
set_option maxHeartbeats 4000000 in
set_option maxRecDepth 100000 in
theorem kX7_goal (l : Launch) (D : va_G) (cy : Nat → ClassId) (tX tY : Nat) (ad : Nat → Nat) (A : Nat → Prop) (hA : apart ad A 12) (F : Nat) (x : HT) (a1 : Int32) (a2 : Int32) (a3 : Int32) {z : Int32 × HT} (hf : fX7_goal F x a1 a2 a3 = some z) : Met l yX7_goal (Cond.code yX7_goal cX7_goal 4 (some .int) :: wAll) { frames := 4, cells := 0, slots := 0, locals := 91 } (cPc (eM cy ad) 12 ad D cy tX tY A [.ref (ad 0), .int a1, .int a2, .int a3] x) (cQi (eM cy ad) 12 ad D A z) 0 0 A := by
  refine gMet hA (by decide) (Nat.le_of_ble_eq_true rfl) (fun p e s m below meth c hC H locs ls hP hS hl => ?_)
  have hC : Cf p s m _ meth c cX7_goal 4 RX7 (some .int) D cy tX tY ad A 12 := hC
  have hl : lv_has ls 4 [(0, .ref (ad 0)), (1, .int a1), (2, .int a2), (3, .int a3)] := hl
  obtain ⟨hx, hb, -⟩ := id hC
  refine lv_aload_n hx hb dX7_goal_0 rfl (lv_at hl 0 rfl) ?_
  obtain ⟨r2, x1, e3, hf⟩ := bd_some hf
  refine gVv (As := []) (rest := []) (k := 0) hC hP hS (kX7_laysAside l D cy tX tY ad A hC.2.2.2.2.2.2.2.2.1 F x e3) glX7_139 ⟨rfl, rfl⟩ hdX7_laysAside ⟨Nat.le_of_ble_eq_true rfl, Nat.le_of_ble_eq_true rfl⟩ (by decide) (eM_0 cy ad _ _) rfl rfl hl.1 rfl (Nat.le_of_ble_eq_true rfl) dX7_goal_1 ⟨Nat.zero_le _, Nat.zero_le _⟩ (fun H locs hP hS => ?_)
  refine lv_aload_n hx hb dX7_goal_4 rfl (lv_at hl 0 rfl) ?_
  refine lv_aload_n hx hb dX7_goal_5 rfl (lv_at hl 0 rfl) ?_
  refine lv_iload_n hx hb dX7_goal_6 rfl (lv_at hl 1 rfl) ?_
  refine lv_iload_n hx hb dX7_goal_7 rfl (lv_at hl 2 rfl) ?_
  refine lv_iload_n hx hb dX7_goal_8 rfl (lv_at hl 3 rfl) ?_
  obtain ⟨r5, x4, e6, hf⟩ := bd_some hf
  refine gVi (As := [.int a1, .int a2, .int a3]) (rest := [.ref (ad 0)]) (k := 0) hC hP hS (kX7_putGoal l D cy tX tY ad A hC.2.2.2.2.2.2.2.2.1 F x1 a1 a2 a3 e6) glX7_152 ⟨rfl, rfl⟩ hdX7_putGoal ⟨Nat.le_of_ble_eq_true rfl, Nat.le_of_ble_eq_true rfl⟩ (by decide) (eM_0 cy ad _ _) rfl rfl hl.1 rfl (Nat.le_of_ble_eq_true rfl) dX7_goal_9 ⟨Nat.zero_le _, Nat.zero_le _⟩ (fun H locs hP hS => ?_)
  obtain ⟨r8, x7, e9, hf⟩ := bd_some hf
  refine gVi (As := [.int r5]) (rest := []) (k := 0) hC hP hS (kX7_finished l D cy tX tY ad A hC.2.2.2.2.2.2.2.2.1 F x4 r5 e9) glX7_145 ⟨rfl, rfl⟩ hdX7_finished ⟨Nat.le_of_ble_eq_true rfl, Nat.le_of_ble_eq_true rfl⟩ (by decide) (eM_0 cy ad _ _) rfl rfl hl.1 rfl (Nat.le_of_ble_eq_true rfl) dX7_goal_12 ⟨Nat.zero_le _, Nat.zero_le _⟩ (fun H locs hP hS => ?_)
  exact gIret hC hP hS hf dX7_goal_15
set_option maxHeartbeats 4000000 in
set_option maxRecDepth 100000 in
theorem kX7_xOf (l : Launch) (D : va_G) (cy : Nat → ClassId) (tX tY : Nat) (ad : Nat → Nat) (A : Nat → Prop) (hA : apart ad A 12) (F : Nat) (x : HT) (a1 : Int32) {z : Int32 × HT} (hf : fX7_xOf F x a1 = some z) : Met l yX7_xOf (Cond.code yX7_xOf cX7_xOf 3 (some .int) :: wAll) { frames := 0, cells := 0, slots := 0, locals := 0 } (cPc (eM cy ad) 12 ad D cy tX tY A [.ref (ad 0), .int a1] x) (cQi (eM cy ad) 12 ad D A z) 0 0 A := by
  refine gMet hA (by decide) (Nat.le_of_ble_eq_true rfl) (fun p e s m below meth c hC H locs ls hP hS hl => ?_)
  have hC : Cf p s m _ meth c cX7_xOf 3 RX7 (some .int) D cy tX tY ad A 12 := hC
  have hl : lv_has ls 3 [(0, .ref (ad 0)), (1, .int a1)] := hl
  obtain ⟨hx, hb, -⟩ := id hC
  refine lv_iload_n hx hb dX7_xOf_0 rfl (lv_at hl 1 rfl) ?_
  refine lv_aload_n hx hb dX7_xOf_1 rfl (lv_at hl 0 rfl) ?_
  refine gfX7_7 hC hP dX7_xOf_2 ?_
  refine lv_iconst (v := 0) hx hb dX7_xOf_5 (by decide) ?_
  obtain ⟨h1, hf⟩ := ck_some hf
  refine gIal hC hP 1 (by decide) (eM_1 cy ad _ _) h1 dX7_xOf_6 ?_
  obtain ⟨h2, hf⟩ := ck_some hf
  refine lv_irem hx hb dX7_xOf_7 (nz_ne h2) ?_
  refine lv_topi (fun b3 e4 => ?_)
  have hf := lt_use e4 hf
  refine lv_istore_n (lv' := [(2, .int b3), (0, .ref (ad 0)), (1, .int a1)]) hx hb dX7_xOf_8 rfl hl (by decide) rfl (fun ls hl => ?_)
  refine lv_iload_n hx hb dX7_xOf_9 rfl (lv_at hl 2 rfl) ?_
  refine lv_aload_n hx hb dX7_xOf_10 rfl (lv_at hl 1 rfl) ?_
  refine gfX7_7 hC hP dX7_xOf_11 ?_
  refine lv_iconst (v := 0) hx hb dX7_xOf_14 (by decide) ?_
  obtain ⟨h5, hf⟩ := ck_some hf
  refine gIal hC hP 1 (by decide) (eM_1 cy ad _ _) h5 dX7_xOf_15 ?_
  obtain ⟨h6, hf⟩ := ck_some hf
  refine lv_idiv hx hb dX7_xOf_16 (nz_ne h6) ?_
  refine lv_iconst (v := 2) hx hb dX7_xOf_17 (by decide) ?_
  refine lv_irem hx hb dX7_xOf_18 (by decide) ?_
  refine lv_if_ne (tgt := 26) hx hb dX7_xOf_19 (by decide) (fun c7 => ?_) (fun c7 => ?_)
  · have hf := it_f c7 hf
    refine lv_aload_n hx hb dX7_xOf_26 rfl (lv_at hl 1 rfl) ?_
    refine gfX7_7 hC hP dX7_xOf_27 ?_
    refine lv_iconst (v := 0) hx hb dX7_xOf_30 (by decide) ?_
    obtain ⟨h8, hf⟩ := ck_some hf
    refine gIal hC hP 1 (by decide) (eM_1 cy ad _ _) h8 dX7_xOf_31 ?_
    refine lv_iconst (v := 1) hx hb dX7_xOf_32 (by decide) ?_
    refine lv_isub hx hb dX7_xOf_33 ?_
    refine lv_iload_n hx hb dX7_xOf_34 rfl (lv_at hl 0 rfl) ?_
    refine lv_isub hx hb dX7_xOf_35 ?_
    exact gIret hC hP hS hf dX7_xOf_36
  · have hf := it_t c7 hf
    refine lv_iload_n hx hb dX7_xOf_22 rfl (lv_at hl 0 rfl) ?_
    refine lv_goto (tgt := 36) hx hb dX7_xOf_23 (by decide) ?_
    exact gIret hC hP hS hf dX7_xOf_36
set_option maxHeartbeats 4000000 in
set_option maxRecDepth 100000 in
theorem kX7_yOf (l : Launch) (D : va_G) (cy : Nat → ClassId) (tX tY : Nat) (ad : Nat → Nat) (A : Nat → Prop) (hA : apart ad A 12) (F : Nat) (x : HT) (a1 : Int32) {z : Int32 × HT} (hf : fX7_yOf F x a1 = some z) : Met l yX7_yOf (Cond.code yX7_yOf cX7_yOf 2 (some .int) :: wAll) { frames := 0, cells := 0, slots := 0, locals := 0 } (cPc (eM cy ad) 12 ad D cy tX tY A [.ref (ad 0), .int a1] x) (cQi (eM cy ad) 12 ad D A z) 0 0 A := by
  refine gMet hA (by decide) (Nat.le_of_ble_eq_true rfl) (fun p e s m below meth c hC H locs ls hP hS hl => ?_)
  have hC : Cf p s m _ meth c cX7_yOf 2 RX7 (some .int) D cy tX tY ad A 12 := hC
  have hl : lv_has ls 2 [(0, .ref (ad 0)), (1, .int a1)] := hl
  obtain ⟨hx, hb, -⟩ := id hC
  refine lv_iload_n hx hb dX7_yOf_0 rfl (lv_at hl 1 rfl) ?_
  refine lv_aload_n hx hb dX7_yOf_1 rfl (lv_at hl 0 rfl) ?_
  refine gfX7_7 hC hP dX7_yOf_2 ?_
  refine lv_iconst (v := 0) hx hb dX7_yOf_5 (by decide) ?_
  obtain ⟨h1, hf⟩ := ck_some hf
  refine gIal hC hP 1 (by decide) (eM_1 cy ad _ _) h1 dX7_yOf_6 ?_
  obtain ⟨h2, hf⟩ := ck_some hf
  refine lv_idiv hx hb dX7_yOf_7 (nz_ne h2) ?_
  exact gIret hC hP hS hf dX7_yOf_8
set_option maxHeartbeats 4000000 in
set_option maxRecDepth 100000 in
theorem tX7_beside_49 (hC : Cf p s m args meth c cX7_beside 5 RX7 (some .int) D cy tX tY ad A 12) (F : Nat) {z : Int32 × HT} : ∀ (x : HT) (a3 : Int32) (t0 : Int32) (t1 : Int32), fX7_beside_49 F x a3 t0 t1 = some z → Wd p l e { frames := 2, cells := 0, slots := 0, locals := 44 } s m args below meth c D (eM cy ad) 12 ad A (cQi (eM cy ad) 12 ad D A z) 5 49 [(0, .ref (ad 0)), (3, .int a3)] [.int t1, .int t0] x := by
  intro x a3 t0 t1 hf H locs ls hP hS hl
  obtain ⟨hx, hb, -⟩ := id hC
  refine lv_iadd hx hb dX7_beside_49 ?_
  refine lv_topi (fun b13 e14 => ?_)
  have hf := lt_use e14 hf
  refine lv_istore (lv' := [(4, .int b13), (0, .ref (ad 0)), (3, .int a3)]) hx hb dX7_beside_50 hl (by decide) rfl (fun ls hl => ?_)
  refine lv_aload_n hx hb dX7_beside_52 rfl (lv_at hl 1 rfl) ?_
  refine lv_iload_n hx hb dX7_beside_53 rfl (lv_at hl 2 rfl) ?_
  refine lv_iload hx hb dX7_beside_54 (lv_at hl 0 rfl) ?_
  obtain ⟨r16, x15, e17, hf⟩ := bd_some hf
  refine gVi (As := [.int a3, .int b13]) (rest := []) (k := 0) hC hP hS (kX7_isPlace l D cy tX tY ad A hC.2.2.2.2.2.2.2.2.1 F x a3 b13 e17) glX7_64 ⟨rfl, rfl⟩ hdX7_isPlace ⟨Nat.le_of_ble_eq_true rfl, Nat.le_of_ble_eq_true rfl⟩ (by decide) (eM_0 cy ad _ _) rfl rfl hl.1 rfl (Nat.le_of_ble_eq_true rfl) dX7_beside_56 ⟨Nat.zero_le _, Nat.zero_le _⟩ (fun H locs hP hS => ?_)
  refine lv_if_eq (tgt := 72) hx hb dX7_beside_59 (by decide) (fun c18 => ?_) (fun c18 => ?_)
  · have hf := it_t c18 hf
    refine lv_iconst (v := -1) hx hb dX7_beside_72 (by decide) ?_
    exact gIret hC hP hS hf dX7_beside_73
  · have hf := it_f c18 hf
    refine lv_aload_n hx hb dX7_beside_62 rfl (lv_at hl 1 rfl) ?_
    refine lv_iload_n hx hb dX7_beside_63 rfl (lv_at hl 2 rfl) ?_
    refine lv_iload hx hb dX7_beside_64 (lv_at hl 0 rfl) ?_
    obtain ⟨r20, x19, e21, hf⟩ := bd_some hf
    refine gVi (As := [.int a3, .int b13]) (rest := []) (k := 0) hC hP hS (kX7_labelOf l D cy tX tY ad A hC.2.2.2.2.2.2.2.2.1 F x15 a3 b13 e21) glX7_68 ⟨rfl, rfl⟩ hdX7_labelOf ⟨Nat.le_of_ble_eq_true rfl, Nat.le_of_ble_eq_true rfl⟩ (by decide) (eM_0 cy ad _ _) rfl rfl hl.1 rfl (Nat.le_of_ble_eq_true rfl) dX7_beside_66 ⟨Nat.zero_le _, Nat.zero_le _⟩ (fun H locs hP hS => ?_)
    refine lv_goto (tgt := 73) hx hb dX7_beside_69 (by decide) ?_
    exact gIret hC hP hS hf dX7_beside_73
set_option maxHeartbeats 4000000 in
set_option maxRecDepth 100000 in
theorem tX7_beside_23 (hC : Cf p s m args meth c cX7_beside 5 RX7 (some .int) D cy tX tY ad A 12) (F : Nat) {z : Int32 × HT} : ∀ (x : HT) (a1 : Int32) (a2 : Int32) (t0 : Int32) (t1 : Int32), fX7_beside_23 F x a1 a2 t0 t1 = some z → Wd p l e { frames := 2, cells := 0, slots := 0, locals := 44 } s m args below meth c D (eM cy ad) 12 ad A (cQi (eM cy ad) 12 ad D A z) 5 23 [(0, .ref (ad 0)), (1, .int a1), (2, .int a2)] [.int t1, .int t0] x := by
  intro x a1 a2 t0 t1 hf H locs ls hP hS hl
  obtain ⟨hx, hb, -⟩ := id hC
  refine lv_iadd hx hb dX7_beside_23 ?_
  refine lv_topi (fun b6 e7 => ?_)
  have hf := lt_use e7 hf
  refine lv_istore_n (lv' := [(3, .int b6), (0, .ref (ad 0)), (1, .int a1), (2, .int a2)]) hx hb dX7_beside_24 rfl hl (by decide) rfl (fun ls hl => ?_)
  refine lv_aload_n hx hb dX7_beside_25 rfl (lv_at hl 1 rfl) ?_
  refine lv_iload_n hx hb dX7_beside_26 rfl (lv_at hl 2 rfl) ?_
  obtain ⟨r9, x8, e10, hf⟩ := bd_some hf
  refine gVi (As := [.int a1]) (rest := []) (k := 0) hC hP hS (kX7_yOf l D cy tX tY ad A hC.2.2.2.2.2.2.2.2.1 F x a1 e10) glX7_61 ⟨rfl, rfl⟩ hdX7_yOf ⟨Nat.le_of_ble_eq_true rfl, Nat.le_of_ble_eq_true rfl⟩ (by decide) (eM_0 cy ad _ _) rfl rfl hl.1 rfl (Nat.le_of_ble_eq_true rfl) dX7_beside_27 ⟨Nat.zero_le _, Nat.zero_le _⟩ (fun H locs hP hS => ?_)
  refine lv_iload_n hx hb dX7_beside_30 rfl (lv_at hl 3 rfl) ?_
  refine lv_iconst (v := 1) hx hb dX7_beside_31 (by decide) ?_
  refine lv_icmp_ne (tgt := 39) hx hb dX7_beside_32 (by decide) (fun c11 => ?_) (fun c11 => ?_)
  · have hf := it_f c11 hf
    refine lv_iload_n hx hb dX7_beside_39 rfl (lv_at hl 3 rfl) ?_
    refine lv_iconst (v := 3) hx hb dX7_beside_40 (by decide) ?_
    refine lv_icmp_ne (tgt := 48) hx hb dX7_beside_41 (by decide) (fun c12 => ?_) (fun c12 => ?_)
    · have hf := it_f c12 hf
      refine lv_iconst (v := 0) hx hb dX7_beside_48 (by decide) ?_
      exact tX7_beside_49 hC F x8 b6 r9 (0 : Int32) hf H locs ls hP hS (lv_sub hl [1, 0] rfl)
    · have hf := it_t c12 hf
      refine lv_iconst (v := -1) hx hb dX7_beside_44 (by decide) ?_
      refine lv_goto (tgt := 49) hx hb dX7_beside_45 (by decide) ?_
      exact tX7_beside_49 hC F x8 b6 r9 (-1 : Int32) hf H locs ls hP hS (lv_sub hl [1, 0] rfl)
  · have hf := it_t c11 hf
    refine lv_iconst (v := 1) hx hb dX7_beside_35 (by decide) ?_
    refine lv_goto (tgt := 49) hx hb dX7_beside_36 (by decide) ?_
    exact tX7_beside_49 hC F x8 b6 r9 (1 : Int32) hf H locs ls hP hS (lv_sub hl [1, 0] rfl)
set_option maxHeartbeats 4000000 in
set_option maxRecDepth 100000 in
theorem kX7_beside (l : Launch) (D : va_G) (cy : Nat → ClassId) (tX tY : Nat) (ad : Nat → Nat) (A : Nat → Prop) (hA : apart ad A 12) (F : Nat) (x : HT) (a1 : Int32) (a2 : Int32) {z : Int32 × HT} (hf : fX7_beside F x a1 a2 = some z) : Met l yX7_beside (Cond.code yX7_beside cX7_beside 5 (some .int) :: wAll) { frames := 2, cells := 0, slots := 0, locals := 44 } (cPc (eM cy ad) 12 ad D cy tX tY A [.ref (ad 0), .int a1, .int a2] x) (cQi (eM cy ad) 12 ad D A z) 0 0 A := by
  refine gMet hA (by decide) (Nat.le_of_ble_eq_true rfl) (fun p e s m below meth c hC H locs ls hP hS hl => ?_)
  have hC : Cf p s m _ meth c cX7_beside 5 RX7 (some .int) D cy tX tY ad A 12 := hC
  have hl : lv_has ls 5 [(0, .ref (ad 0)), (1, .int a1), (2, .int a2)] := hl
  obtain ⟨hx, hb, -⟩ := id hC
  refine lv_aload_n hx hb dX7_beside_0 rfl (lv_at hl 0 rfl) ?_
  refine lv_iload_n hx hb dX7_beside_1 rfl (lv_at hl 1 rfl) ?_
  obtain ⟨r2, x1, e3, hf⟩ := bd_some hf
  refine gVi (As := [.int a1]) (rest := []) (k := 0) hC hP hS (kX7_xOf l D cy tX tY ad A hC.2.2.2.2.2.2.2.2.1 F x a1 e3) glX7_58 ⟨rfl, rfl⟩ hdX7_xOf ⟨Nat.le_of_ble_eq_true rfl, Nat.le_of_ble_eq_true rfl⟩ (by decide) (eM_0 cy ad _ _) rfl rfl hl.1 rfl (Nat.le_of_ble_eq_true rfl) dX7_beside_2 ⟨Nat.zero_le _, Nat.zero_le _⟩ (fun H locs hP hS => ?_)
  refine lv_iload_n hx hb dX7_beside_5 rfl (lv_at hl 2 rfl) ?_
  refine lv_if_ne (tgt := 13) hx hb dX7_beside_6 (by decide) (fun c4 => ?_) (fun c4 => ?_)
  · have hf := it_f c4 hf
    refine lv_iload_n hx hb dX7_beside_13 rfl (lv_at hl 2 rfl) ?_
    refine lv_iconst (v := 2) hx hb dX7_beside_14 (by decide) ?_
    refine lv_icmp_ne (tgt := 22) hx hb dX7_beside_15 (by decide) (fun c5 => ?_) (fun c5 => ?_)
    · have hf := it_f c5 hf
      refine lv_iconst (v := 0) hx hb dX7_beside_22 (by decide) ?_
      exact tX7_beside_23 hC F x1 a1 a2 r2 (0 : Int32) hf H locs ls hP hS (lv_sub hl [0, 1, 2] rfl)
    · have hf := it_t c5 hf
      refine lv_iconst (v := -1) hx hb dX7_beside_18 (by decide) ?_
      refine lv_goto (tgt := 23) hx hb dX7_beside_19 (by decide) ?_
      exact tX7_beside_23 hC F x1 a1 a2 r2 (-1 : Int32) hf H locs ls hP hS (lv_sub hl [0, 1, 2] rfl)
  · have hf := it_t c4 hf
    refine lv_iconst (v := 1) hx hb dX7_beside_9 (by decide) ?_
    refine lv_goto (tgt := 23) hx hb dX7_beside_10 (by decide) ?_
    exact tX7_beside_23 hC F x1 a1 a2 r2 (1 : Int32) hf H locs ls hP hS (lv_sub hl [0, 1, 2] rfl)
set_option maxHeartbeats 4000000 in
set_option maxRecDepth 100000 in
theorem tX7_isChannel_37 (hC : Cf p s m args meth c cX7_isChannel 4 RX7 (some .boolean) D cy tX tY ad A 12) (F : Nat) {z : Int32 × HT} : ∀ (x : HT), fX7_isChannel_37 F x = some z → Wd p l e { frames := 3, cells := 0, slots := 0, locals := 68 } s m args below meth c D (eM cy ad) 12 ad A (cQi (eM cy ad) 12 ad D A z) 4 37 [] [] x := by
  intro x hf H locs ls hP hS hl
  obtain ⟨hx, hb, -⟩ := id hC
  refine lv_iconst (v := 0) hx hb dX7_isChannel_37 (by decide) ?_
  exact gZret hC hP hS rfl hf dX7_isChannel_38
set_option maxHeartbeats 4000000 in
set_option maxRecDepth 100000 in
theorem kX7_isChannel (l : Launch) (D : va_G) (cy : Nat → ClassId) (tX tY : Nat) (ad : Nat → Nat) (A : Nat → Prop) (hA : apart ad A 12) (F : Nat) (x : HT) (a1 : Int32) (a2 : Int32) (a3 : Int32) {z : Int32 × HT} (hf : fX7_isChannel F x a1 a2 a3 = some z) : Met l yX7_isChannel (Cond.code yX7_isChannel cX7_isChannel 4 (some .boolean) :: wAll) { frames := 3, cells := 0, slots := 0, locals := 68 } (cPc (eM cy ad) 12 ad D cy tX tY A [.ref (ad 0), .int a1, .int a2, .int a3] x) (cQi (eM cy ad) 12 ad D A z) 0 0 A := by
  refine gMet hA (by decide) (Nat.le_of_ble_eq_true rfl) (fun p e s m below meth c hC H locs ls hP hS hl => ?_)
  have hC : Cf p s m _ meth c cX7_isChannel 4 RX7 (some .boolean) D cy tX tY ad A 12 := hC
  have hl : lv_has ls 4 [(0, .ref (ad 0)), (1, .int a1), (2, .int a2), (3, .int a3)] := hl
  obtain ⟨hx, hb, -⟩ := id hC
  refine lv_aload_n hx hb dX7_isChannel_0 rfl (lv_at hl 0 rfl) ?_
  refine lv_iload_n hx hb dX7_isChannel_1 rfl (lv_at hl 1 rfl) ?_
  refine lv_iload_n hx hb dX7_isChannel_2 rfl (lv_at hl 2 rfl) ?_
  obtain ⟨r2, x1, e3, hf⟩ := bd_some hf
  refine gVi (As := [.int a1, .int a2]) (rest := []) (k := 0) hC hP hS (kX7_isPlace l D cy tX tY ad A hC.2.2.2.2.2.2.2.2.1 F x a1 a2 e3) glX7_64 ⟨rfl, rfl⟩ hdX7_isPlace ⟨Nat.le_of_ble_eq_true rfl, Nat.le_of_ble_eq_true rfl⟩ (by decide) (eM_0 cy ad _ _) rfl rfl hl.1 rfl (Nat.le_of_ble_eq_true rfl) dX7_isChannel_3 ⟨Nat.zero_le _, Nat.zero_le _⟩ (fun H locs hP hS => ?_)
  refine lv_if_eq (tgt := 37) hx hb dX7_isChannel_6 (by decide) (fun c4 => ?_) (fun c4 => ?_)
  · have hf := it_t c4 hf
    exact tX7_isChannel_37 hC F x1 hf H locs ls hP hS (lv_sub hl [] rfl)
  · have hf := it_f c4 hf
    refine lv_iload_n hx hb dX7_isChannel_9 rfl (lv_at hl 3 rfl) ?_
    refine lv_iconst (v := 0) hx hb dX7_isChannel_10 (by decide) ?_
    refine lv_iconst (v := 3) hx hb dX7_isChannel_11 (by decide) ?_
    obtain ⟨r6, x5, e7, hf⟩ := bd_some hf
    refine gSi (As := [.int a3, .int (0 : Int32), .int (3 : Int32)]) (rest := []) hC hP hS (kX7_in l D cy tX tY ad A hC.2.2.2.2.2.2.2.2.1 F x1 a3 (0 : Int32) (3 : Int32) e7) glX7_54 ⟨rfl, rfl⟩ hdX7_in ⟨Nat.le_of_ble_eq_true rfl, Nat.le_of_ble_eq_true rfl⟩ rfl hl.1 rfl (Nat.le_of_ble_eq_true rfl) dX7_isChannel_12 ⟨Nat.zero_le _, Nat.zero_le _⟩ (fun H locs hP hS => ?_)
    refine lv_if_eq (tgt := 37) hx hb dX7_isChannel_15 (by decide) (fun c8 => ?_) (fun c8 => ?_)
    · have hf := it_t c8 hf
      exact tX7_isChannel_37 hC F x5 hf H locs ls hP hS (lv_sub hl [] rfl)
    · have hf := it_f c8 hf
      refine lv_aload_n hx hb dX7_isChannel_18 rfl (lv_at hl 0 rfl) ?_
      refine lv_aload_n hx hb dX7_isChannel_19 rfl (lv_at hl 0 rfl) ?_
      refine lv_iload_n hx hb dX7_isChannel_20 rfl (lv_at hl 1 rfl) ?_
      refine lv_iload_n hx hb dX7_isChannel_21 rfl (lv_at hl 2 rfl) ?_
      obtain ⟨r10, x9, e11, hf⟩ := bd_some hf
      refine gVi (As := [.int a1, .int a2]) (rest := [.ref (ad 0)]) (k := 0) hC hP hS (kX7_labelOf l D cy tX tY ad A hC.2.2.2.2.2.2.2.2.1 F x5 a1 a2 e11) glX7_68 ⟨rfl, rfl⟩ hdX7_labelOf ⟨Nat.le_of_ble_eq_true rfl, Nat.le_of_ble_eq_true rfl⟩ (by decide) (eM_0 cy ad _ _) rfl rfl hl.1 rfl (Nat.le_of_ble_eq_true rfl) dX7_isChannel_22 ⟨Nat.zero_le _, Nat.zero_le _⟩ (fun H locs hP hS => ?_)
      refine lv_iload_n hx hb dX7_isChannel_25 rfl (lv_at hl 3 rfl) ?_
      obtain ⟨r13, x12, e14, hf⟩ := bd_some hf
      refine gVi (As := [.int r10, .int a3]) (rest := []) (k := 0) hC hP hS (kX7_beside l D cy tX tY ad A hC.2.2.2.2.2.2.2.2.1 F x9 r10 a3 e14) glX7_72 ⟨rfl, rfl⟩ hdX7_beside ⟨Nat.le_of_ble_eq_true rfl, Nat.le_of_ble_eq_true rfl⟩ (by decide) (eM_0 cy ad _ _) rfl rfl hl.1 rfl (Nat.le_of_ble_eq_true rfl) dX7_isChannel_26 ⟨Nat.zero_le _, Nat.zero_le _⟩ (fun H locs hP hS => ?_)
      refine lv_iconst (v := -1) hx hb dX7_isChannel_29 (by decide) ?_
      refine lv_icmp_eq (tgt := 37) hx hb dX7_isChannel_30 (by decide) (fun c15 => ?_) (fun c15 => ?_)
      · have hf := it_t c15 hf
        exact tX7_isChannel_37 hC F x12 hf H locs ls hP hS (lv_sub hl [] rfl)
      · have hf := it_f c15 hf
        refine lv_iconst (v := 1) hx hb dX7_isChannel_33 (by decide) ?_
        refine lv_goto (tgt := 38) hx hb dX7_isChannel_34 (by decide) ?_
        exact gZret hC hP hS rfl hf dX7_isChannel_38
set_option maxHeartbeats 4000000 in
set_option maxRecDepth 100000 in
theorem kX7_isDown (l : Launch) (D : va_G) (cy : Nat → ClassId) (tX tY : Nat) (ad : Nat → Nat) (A : Nat → Prop) (hA : apart ad A 12) (F : Nat) (x : HT) (a1 : Int32) (a2 : Int32) {z : Int32 × HT} (hf : fX7_isDown F x a1 a2 = some z) : Met l yX7_isDown (Cond.code yX7_isDown cX7_isDown 3 (some .boolean) :: wAll) { frames := 0, cells := 0, slots := 0, locals := 0 } (cPc (eM cy ad) 12 ad D cy tX tY A [.ref (ad 0), .int a1, .int a2] x) (cQi (eM cy ad) 12 ad D A z) 0 0 A := by
  refine gMet hA (by decide) (Nat.le_of_ble_eq_true rfl) (fun p e s m below meth c hC H locs ls hP hS hl => ?_)
  have hC : Cf p s m _ meth c cX7_isDown 3 RX7 (some .boolean) D cy tX tY ad A 12 := hC
  have hl : lv_has ls 3 [(0, .ref (ad 0)), (1, .int a1), (2, .int a2)] := hl
  obtain ⟨hx, hb, -⟩ := id hC
  refine lv_aload_n hx hb dX7_isDown_0 rfl (lv_at hl 0 rfl) ?_
  refine gfX7_7 hC hP dX7_isDown_1 ?_
  refine lv_bipush (v := 44) hx hb dX7_isDown_4 (by decide) ?_
  refine lv_iload_n hx hb dX7_isDown_6 rfl (lv_at hl 1 rfl) ?_
  refine lv_iadd hx hb dX7_isDown_7 ?_
  obtain ⟨h1, hf⟩ := ck_some hf
  refine gIal hC hP 1 (by decide) (eM_1 cy ad _ _) h1 dX7_isDown_8 ?_
  refine lv_iload_n hx hb dX7_isDown_9 rfl (lv_at hl 2 rfl) ?_
  refine lv_ishr hx hb dX7_isDown_10 ?_
  refine lv_iconst (v := 1) hx hb dX7_isDown_11 (by decide) ?_
  refine lv_iand hx hb dX7_isDown_12 ?_
  refine lv_iconst (v := 1) hx hb dX7_isDown_13 (by decide) ?_
  refine lv_icmp_ne (tgt := 21) hx hb dX7_isDown_14 (by decide) (fun c2 => ?_) (fun c2 => ?_)
  · have hf := it_f c2 hf
    refine lv_iconst (v := 0) hx hb dX7_isDown_21 (by decide) ?_
    exact gZret hC hP hS rfl hf dX7_isDown_22
  · have hf := it_t c2 hf
    refine lv_iconst (v := 1) hx hb dX7_isDown_17 (by decide) ?_
    refine lv_goto (tgt := 22) hx hb dX7_isDown_18 (by decide) ?_
    exact gZret hC hP hS rfl hf dX7_isDown_22
set_option maxHeartbeats 4000000 in
set_option maxRecDepth 100000 in
theorem kX7_putTurn (l : Launch) (D : va_G) (cy : Nat → ClassId) (tX tY : Nat) (ad : Nat → Nat) (A : Nat → Prop) (hA : apart ad A 12) (F : Nat) (x : HT) (a1 : Int32) (a2 : Int32) (a3 : Int32) {z : Int32 × HT} (hf : fX7_putTurn F x a1 a2 a3 = some z) : Met l yX7_putTurn (Cond.code yX7_putTurn cX7_putTurn 4 (some .int) :: wAll) { frames := 4, cells := 0, slots := 0, locals := 91 } (cPc (eM cy ad) 12 ad D cy tX tY A [.ref (ad 0), .int a1, .int a2, .int a3] x) (cQi (eM cy ad) 12 ad D A z) 0 0 A := by
  refine gMet hA (by decide) (Nat.le_of_ble_eq_true rfl) (fun p e s m below meth c hC H locs ls hP hS hl => ?_)
  have hC : Cf p s m _ meth c cX7_putTurn 4 RX7 (some .int) D cy tX tY ad A 12 := hC
  have hl : lv_has ls 4 [(0, .ref (ad 0)), (1, .int a1), (2, .int a2), (3, .int a3)] := hl
  obtain ⟨hx, hb, -⟩ := id hC
  refine lv_aload_n hx hb dX7_putTurn_0 rfl (lv_at hl 0 rfl) ?_
  refine lv_iload_n hx hb dX7_putTurn_1 rfl (lv_at hl 1 rfl) ?_
  refine lv_iload_n hx hb dX7_putTurn_2 rfl (lv_at hl 2 rfl) ?_
  refine lv_iload_n hx hb dX7_putTurn_3 rfl (lv_at hl 3 rfl) ?_
  obtain ⟨r2, x1, e3, hf⟩ := bd_some hf
  refine gVi (As := [.int a1, .int a2, .int a3]) (rest := []) (k := 0) hC hP hS (kX7_isChannel l D cy tX tY ad A hC.2.2.2.2.2.2.2.2.1 F x a1 a2 a3 e3) glX7_126 ⟨rfl, rfl⟩ hdX7_isChannel ⟨Nat.le_of_ble_eq_true rfl, Nat.le_of_ble_eq_true rfl⟩ (by decide) (eM_0 cy ad _ _) rfl rfl hl.1 rfl (Nat.le_of_ble_eq_true rfl) dX7_putTurn_4 ⟨Nat.zero_le _, Nat.zero_le _⟩ (fun H locs hP hS => ?_)
  refine lv_if_ne (tgt := 13) hx hb dX7_putTurn_7 (by decide) (fun c4 => ?_) (fun c4 => ?_)
  · have hf := it_f c4 hf
    refine lv_aload_n hx hb dX7_putTurn_13 rfl (lv_at hl 0 rfl) ?_
    refine gfX7_7 hC hP dX7_putTurn_14 ?_
    refine lv_bipush (v := 44) hx hb dX7_putTurn_17 (by decide) ?_
    refine lv_aload_n hx hb dX7_putTurn_19 rfl (lv_at hl 0 rfl) ?_
    refine lv_iload_n hx hb dX7_putTurn_20 rfl (lv_at hl 1 rfl) ?_
    refine lv_iload_n hx hb dX7_putTurn_21 rfl (lv_at hl 2 rfl) ?_
    obtain ⟨r6, x5, e7, hf⟩ := bd_some hf
    refine gVi (As := [.int a1, .int a2]) (rest := [.int (44 : Int32), .ref (ad 1)]) (k := 0) hC hP hS (kX7_labelOf l D cy tX tY ad A hC.2.2.2.2.2.2.2.2.1 F x1 a1 a2 e7) glX7_68 ⟨rfl, rfl⟩ hdX7_labelOf ⟨Nat.le_of_ble_eq_true rfl, Nat.le_of_ble_eq_true rfl⟩ (by decide) (eM_0 cy ad _ _) rfl rfl hl.1 rfl (Nat.le_of_ble_eq_true rfl) dX7_putTurn_22 ⟨Nat.zero_le _, Nat.zero_le _⟩ (fun H locs hP hS => ?_)
    refine lv_iadd hx hb dX7_putTurn_25 ?_
    refine lv_dup2_11 hx hb dX7_putTurn_26 rfl rfl ?_
    obtain ⟨h8, hf⟩ := ck_some hf
    refine gIal hC hP 1 (by decide) (eM_1 cy ad _ _) h8 dX7_putTurn_27 ?_
    refine lv_iconst (v := 1) hx hb dX7_putTurn_28 (by decide) ?_
    refine lv_iload_n hx hb dX7_putTurn_29 rfl (lv_at hl 3 rfl) ?_
    refine lv_ishl hx hb dX7_putTurn_30 ?_
    refine lv_ixor hx hb dX7_putTurn_31 ?_
    obtain ⟨h9, hf⟩ := ck_some hf
    refine gIas hC hP hS 1 (by decide) (fun g9 => eM_1 cy ad g9 _) h9 dX7_putTurn_32 (fun H locs hP hS => ?_)
    obtain ⟨x10, e11, hf⟩ := lt_some hf
    have hP : va_P D vwCl (wG (eM cy ad) 12 ad x10) H := by rw [e11]; exact hP
    refine lv_aload_n hx hb dX7_putTurn_33 rfl (lv_at hl 0 rfl) ?_
    refine lv_aload_n hx hb dX7_putTurn_34 rfl (lv_at hl 0 rfl) ?_
    refine lv_iload_n hx hb dX7_putTurn_35 rfl (lv_at hl 1 rfl) ?_
    refine lv_iload_n hx hb dX7_putTurn_36 rfl (lv_at hl 2 rfl) ?_
    obtain ⟨r13, x12, e14, hf⟩ := bd_some hf
    refine gVi (As := [.int a1, .int a2]) (rest := [.ref (ad 0)]) (k := 0) hC hP hS (kX7_labelOf l D cy tX tY ad A hC.2.2.2.2.2.2.2.2.1 F x10 a1 a2 e14) glX7_68 ⟨rfl, rfl⟩ hdX7_labelOf ⟨Nat.le_of_ble_eq_true rfl, Nat.le_of_ble_eq_true rfl⟩ (by decide) (eM_0 cy ad _ _) rfl rfl hl.1 rfl (Nat.le_of_ble_eq_true rfl) dX7_putTurn_37 ⟨Nat.zero_le _, Nat.zero_le _⟩ (fun H locs hP hS => ?_)
    refine lv_iload_n hx hb dX7_putTurn_40 rfl (lv_at hl 3 rfl) ?_
    obtain ⟨r16, x15, e17, hf⟩ := bd_some hf
    refine gVi (As := [.int r13, .int a3]) (rest := []) (k := 0) hC hP hS (kX7_isDown l D cy tX tY ad A hC.2.2.2.2.2.2.2.2.1 F x12 r13 a3 e17) glX7_103 ⟨rfl, rfl⟩ hdX7_isDown ⟨Nat.le_of_ble_eq_true rfl, Nat.le_of_ble_eq_true rfl⟩ (by decide) (eM_0 cy ad _ _) rfl rfl hl.1 rfl (Nat.le_of_ble_eq_true rfl) dX7_putTurn_41 ⟨Nat.zero_le _, Nat.zero_le _⟩ (fun H locs hP hS => ?_)
    refine lv_if_eq (tgt := 51) hx hb dX7_putTurn_44 (by decide) (fun c18 => ?_) (fun c18 => ?_)
    · have hf := it_t c18 hf
      refine lv_iconst (v := 1) hx hb dX7_putTurn_51 (by decide) ?_
      exact gIret hC hP hS hf dX7_putTurn_52
    · have hf := it_f c18 hf
      refine lv_iconst (v := 0) hx hb dX7_putTurn_47 (by decide) ?_
      refine lv_goto (tgt := 52) hx hb dX7_putTurn_48 (by decide) ?_
      exact gIret hC hP hS hf dX7_putTurn_52
  · have hf := it_t c4 hf
    refine lv_bipush (v := -2) hx hb dX7_putTurn_10 (by decide) ?_
    exact gIret hC hP hS hf dX7_putTurn_12
set_option maxHeartbeats 4000000 in
set_option maxRecDepth 100000 in
theorem kX7_turns (l : Launch) (D : va_G) (cy : Nat → ClassId) (tX tY : Nat) (ad : Nat → Nat) (A : Nat → Prop) (hA : apart ad A 12) (F : Nat) (x : HT) (a1 : Int32) (a2 : Int32) (a3 : Int32) {z : Int32 × HT} (hf : fX7_turns F x a1 a2 a3 = some z) : Met l yX7_turns (Cond.code yX7_turns cX7_turns 4 (some .int) :: wAll) { frames := 5, cells := 0, slots := 0, locals := 114 } (cPc (eM cy ad) 12 ad D cy tX tY A [.ref (ad 0), .int a1, .int a2, .int a3] x) (cQi (eM cy ad) 12 ad D A z) 0 0 A := by
  refine gMet hA (by decide) (Nat.le_of_ble_eq_true rfl) (fun p e s m below meth c hC H locs ls hP hS hl => ?_)
  have hC : Cf p s m _ meth c cX7_turns 4 RX7 (some .int) D cy tX tY ad A 12 := hC
  have hl : lv_has ls 4 [(0, .ref (ad 0)), (1, .int a1), (2, .int a2), (3, .int a3)] := hl
  obtain ⟨hx, hb, -⟩ := id hC
  refine lv_aload_n hx hb dX7_turns_0 rfl (lv_at hl 0 rfl) ?_
  obtain ⟨r2, x1, e3, hf⟩ := bd_some hf
  refine gVv (As := []) (rest := []) (k := 0) hC hP hS (kX7_laysAside l D cy tX tY ad A hC.2.2.2.2.2.2.2.2.1 F x e3) glX7_139 ⟨rfl, rfl⟩ hdX7_laysAside ⟨Nat.le_of_ble_eq_true rfl, Nat.le_of_ble_eq_true rfl⟩ (by decide) (eM_0 cy ad _ _) rfl rfl hl.1 rfl (Nat.le_of_ble_eq_true rfl) dX7_turns_1 ⟨Nat.zero_le _, Nat.zero_le _⟩ (fun H locs hP hS => ?_)
  refine lv_aload_n hx hb dX7_turns_4 rfl (lv_at hl 0 rfl) ?_
  refine lv_aload_n hx hb dX7_turns_5 rfl (lv_at hl 0 rfl) ?_
  refine lv_iload_n hx hb dX7_turns_6 rfl (lv_at hl 1 rfl) ?_
  refine lv_iload_n hx hb dX7_turns_7 rfl (lv_at hl 2 rfl) ?_
  refine lv_iload_n hx hb dX7_turns_8 rfl (lv_at hl 3 rfl) ?_
  obtain ⟨r5, x4, e6, hf⟩ := bd_some hf
  refine gVi (As := [.int a1, .int a2, .int a3]) (rest := [.ref (ad 0)]) (k := 0) hC hP hS (kX7_putTurn l D cy tX tY ad A hC.2.2.2.2.2.2.2.2.1 F x1 a1 a2 a3 e6) glX7_155 ⟨rfl, rfl⟩ hdX7_putTurn ⟨Nat.le_of_ble_eq_true rfl, Nat.le_of_ble_eq_true rfl⟩ (by decide) (eM_0 cy ad _ _) rfl rfl hl.1 rfl (Nat.le_of_ble_eq_true rfl) dX7_turns_9 ⟨Nat.zero_le _, Nat.zero_le _⟩ (fun H locs hP hS => ?_)
  obtain ⟨r8, x7, e9, hf⟩ := bd_some hf
  refine gVi (As := [.int r5]) (rest := []) (k := 0) hC hP hS (kX7_finished l D cy tX tY ad A hC.2.2.2.2.2.2.2.2.1 F x4 r5 e9) glX7_145 ⟨rfl, rfl⟩ hdX7_finished ⟨Nat.le_of_ble_eq_true rfl, Nat.le_of_ble_eq_true rfl⟩ (by decide) (eM_0 cy ad _ _) rfl rfl hl.1 rfl (Nat.le_of_ble_eq_true rfl) dX7_turns_12 ⟨Nat.zero_le _, Nat.zero_le _⟩ (fun H locs hP hS => ?_)
  exact gIret hC hP hS hf dX7_turns_15
set_option maxHeartbeats 4000000 in
set_option maxRecDepth 100000 in
theorem tX7_nextOf_101 (hC : Cf p s m args meth c cX7_nextOf 8 RX7 (some .int) D cy tX tY ad A 12) (F : Nat) {z : Int32 × HT} (rec5 : HT → Int32 → Int32 → Int32 → Int32 → Option (Int32 × HT)) (hrec5 : ∀ (x : HT) (a1 : Int32) (a2 : Int32) (a3 : Int32) (a4 : Int32), rec5 x a1 a2 a3 a4 = some z → Wd p l e { frames := 3, cells := 0, slots := 0, locals := 68 } s m args below meth c D (eM cy ad) 12 ad A (cQi (eM cy ad) 12 ad D A z) 8 5 [(0, .ref (ad 0)), (1, .int a1), (2, .int a2), (3, .int a3), (4, .int a4)] [] x) : ∀ (x : HT) (a1 : Int32) (a2 : Int32) (a4 : Int32) (t0 : Int32), fX7_nextOf_101 F rec5 x a1 a2 a4 t0 = some z → Wd p l e { frames := 3, cells := 0, slots := 0, locals := 68 } s m args below meth c D (eM cy ad) 12 ad A (cQi (eM cy ad) 12 ad D A z) 8 101 [(0, .ref (ad 0)), (1, .int a1), (2, .int a2), (4, .int a4)] [.int t0] x := by
  intro x a1 a2 a4 t0 hf H locs ls hP hS hl
  obtain ⟨hx, hb, -⟩ := id hC
  refine lv_istore_n (lv' := [(3, .int t0), (0, .ref (ad 0)), (1, .int a1), (2, .int a2), (4, .int a4)]) hx hb dX7_nextOf_101 rfl hl (by decide) rfl (fun ls hl => ?_)
  obtain ⟨b15, e16, hf⟩ := lt_some hf
  refine lv_iinc (v := b15) (lv' := [(4, .int b15), (3, .int t0), (0, .ref (ad 0)), (1, .int a1), (2, .int a2)]) hx hb dX7_nextOf_102 hl (k := 4) rfl (by rw [e16]; rfl) (by decide) rfl (fun ls hl => ?_)
  refine lv_goto (tgt := 5) hx hb dX7_nextOf_105 (by decide) ?_
  exact hrec5 x a1 a2 t0 b15 hf H locs ls hP hS (lv_sub hl [2, 3, 4, 1, 0] rfl)
set_option maxHeartbeats 4000000 in
set_option maxRecDepth 100000 in
theorem tX7_nextOf_100 (hC : Cf p s m args meth c cX7_nextOf 8 RX7 (some .int) D cy tX tY ad A 12) (F : Nat) {z : Int32 × HT} (rec5 : HT → Int32 → Int32 → Int32 → Int32 → Option (Int32 × HT)) (hrec5 : ∀ (x : HT) (a1 : Int32) (a2 : Int32) (a3 : Int32) (a4 : Int32), rec5 x a1 a2 a3 a4 = some z → Wd p l e { frames := 3, cells := 0, slots := 0, locals := 68 } s m args below meth c D (eM cy ad) 12 ad A (cQi (eM cy ad) 12 ad D A z) 8 5 [(0, .ref (ad 0)), (1, .int a1), (2, .int a2), (3, .int a3), (4, .int a4)] [] x) : ∀ (x : HT) (a1 : Int32) (a2 : Int32) (a3 : Int32) (a4 : Int32), fX7_nextOf_100 F rec5 x a1 a2 a3 a4 = some z → Wd p l e { frames := 3, cells := 0, slots := 0, locals := 68 } s m args below meth c D (eM cy ad) 12 ad A (cQi (eM cy ad) 12 ad D A z) 8 100 [(0, .ref (ad 0)), (1, .int a1), (2, .int a2), (3, .int a3), (4, .int a4)] [] x := by
  intro x a1 a2 a3 a4 hf H locs ls hP hS hl
  obtain ⟨hx, hb, -⟩ := id hC
  refine lv_iload_n hx hb dX7_nextOf_100 rfl (lv_at hl 3 rfl) ?_
  exact tX7_nextOf_101 hC F rec5 hrec5 x a1 a2 a4 a3 hf H locs ls hP hS (lv_sub hl [0, 1, 2, 4] rfl)
set_option maxHeartbeats 4000000 in
set_option maxRecDepth 100000 in
theorem tX7_nextOf_83 (hC : Cf p s m args meth c cX7_nextOf 8 RX7 (some .int) D cy tX tY ad A 12) (F : Nat) {z : Int32 × HT} (rec5 : HT → Int32 → Int32 → Int32 → Int32 → Option (Int32 × HT)) (hrec5 : ∀ (x : HT) (a1 : Int32) (a2 : Int32) (a3 : Int32) (a4 : Int32), rec5 x a1 a2 a3 a4 = some z → Wd p l e { frames := 3, cells := 0, slots := 0, locals := 68 } s m args below meth c D (eM cy ad) 12 ad A (cQi (eM cy ad) 12 ad D A z) 8 5 [(0, .ref (ad 0)), (1, .int a1), (2, .int a2), (3, .int a3), (4, .int a4)] [] x) : ∀ (x : HT) (a1 : Int32) (a2 : Int32) (a3 : Int32) (a4 : Int32) (a5 : Int32) (a6 : Int32) (t0 : Int32), fX7_nextOf_83 F rec5 x a1 a2 a3 a4 a5 a6 t0 = some z → Wd p l e { frames := 3, cells := 0, slots := 0, locals := 68 } s m args below meth c D (eM cy ad) 12 ad A (cQi (eM cy ad) 12 ad D A z) 8 83 [(0, .ref (ad 0)), (1, .int a1), (2, .int a2), (3, .int a3), (4, .int a4), (5, .int a5), (6, .int a6)] [.int t0] x := by
  intro x a1 a2 a3 a4 a5 a6 t0 hf H locs ls hP hS hl
  obtain ⟨hx, hb, -⟩ := id hC
  refine lv_istore (lv' := [(7, .int t0), (0, .ref (ad 0)), (1, .int a1), (2, .int a2), (3, .int a3), (4, .int a4), (5, .int a5), (6, .int a6)]) hx hb dX7_nextOf_83 hl (by decide) rfl (fun ls hl => ?_)
  refine lv_iload hx hb dX7_nextOf_85 (lv_at hl 7 rfl) ?_
  refine lv_if_eq (tgt := 100) hx hb dX7_nextOf_87 (by decide) (fun c13 => ?_) (fun c13 => ?_)
  · have hf := it_t c13 hf
    exact tX7_nextOf_100 hC F rec5 hrec5 x a1 a2 a3 a4 hf H locs ls hP hS (lv_sub hl [1, 2, 3, 4, 5] rfl)
  · have hf := it_f c13 hf
    refine lv_iload hx hb dX7_nextOf_90 (lv_at hl 0 rfl) ?_
    refine lv_if_eq (tgt := 100) hx hb dX7_nextOf_92 (by decide) (fun c14 => ?_) (fun c14 => ?_)
    · have hf := it_t c14 hf
      exact tX7_nextOf_100 hC F rec5 hrec5 x a1 a2 a3 a4 hf H locs ls hP hS (lv_sub hl [1, 2, 3, 4, 5] rfl)
    · have hf := it_f c14 hf
      refine lv_iload hx hb dX7_nextOf_95 (lv_at hl 6 rfl) ?_
      refine lv_goto (tgt := 101) hx hb dX7_nextOf_97 (by decide) ?_
      exact tX7_nextOf_101 hC F rec5 hrec5 x a1 a2 a4 a5 hf H locs ls hP hS (lv_sub hl [1, 2, 3, 5] rfl)
set_option maxHeartbeats 4000000 in
set_option maxRecDepth 100000 in
theorem tX7_nextOf_82 (hC : Cf p s m args meth c cX7_nextOf 8 RX7 (some .int) D cy tX tY ad A 12) (F : Nat) {z : Int32 × HT} (rec5 : HT → Int32 → Int32 → Int32 → Int32 → Option (Int32 × HT)) (hrec5 : ∀ (x : HT) (a1 : Int32) (a2 : Int32) (a3 : Int32) (a4 : Int32), rec5 x a1 a2 a3 a4 = some z → Wd p l e { frames := 3, cells := 0, slots := 0, locals := 68 } s m args below meth c D (eM cy ad) 12 ad A (cQi (eM cy ad) 12 ad D A z) 8 5 [(0, .ref (ad 0)), (1, .int a1), (2, .int a2), (3, .int a3), (4, .int a4)] [] x) : ∀ (x : HT) (a1 : Int32) (a2 : Int32) (a3 : Int32) (a4 : Int32) (a5 : Int32) (a6 : Int32), fX7_nextOf_82 F rec5 x a1 a2 a3 a4 a5 a6 = some z → Wd p l e { frames := 3, cells := 0, slots := 0, locals := 68 } s m args below meth c D (eM cy ad) 12 ad A (cQi (eM cy ad) 12 ad D A z) 8 82 [(0, .ref (ad 0)), (1, .int a1), (2, .int a2), (3, .int a3), (4, .int a4), (5, .int a5), (6, .int a6)] [] x := by
  intro x a1 a2 a3 a4 a5 a6 hf H locs ls hP hS hl
  obtain ⟨hx, hb, -⟩ := id hC
  refine lv_iconst (v := 0) hx hb dX7_nextOf_82 (by decide) ?_
  exact tX7_nextOf_83 hC F rec5 hrec5 x a1 a2 a3 a4 a5 a6 (0 : Int32) hf H locs ls hP hS (lv_sub hl [0, 1, 2, 3, 4, 5, 6] rfl)
set_option maxHeartbeats 4000000 in
set_option maxRecDepth 100000 in
theorem tX7_nextOf_78 (hC : Cf p s m args meth c cX7_nextOf 8 RX7 (some .int) D cy tX tY ad A 12) (F : Nat) {z : Int32 × HT} (rec5 : HT → Int32 → Int32 → Int32 → Int32 → Option (Int32 × HT)) (hrec5 : ∀ (x : HT) (a1 : Int32) (a2 : Int32) (a3 : Int32) (a4 : Int32), rec5 x a1 a2 a3 a4 = some z → Wd p l e { frames := 3, cells := 0, slots := 0, locals := 68 } s m args below meth c D (eM cy ad) 12 ad A (cQi (eM cy ad) 12 ad D A z) 8 5 [(0, .ref (ad 0)), (1, .int a1), (2, .int a2), (3, .int a3), (4, .int a4)] [] x) : ∀ (x : HT) (a1 : Int32) (a2 : Int32) (a3 : Int32) (a4 : Int32) (a5 : Int32) (a6 : Int32), fX7_nextOf_78 F rec5 x a1 a2 a3 a4 a5 a6 = some z → Wd p l e { frames := 3, cells := 0, slots := 0, locals := 68 } s m args below meth c D (eM cy ad) 12 ad A (cQi (eM cy ad) 12 ad D A z) 8 78 [(0, .ref (ad 0)), (1, .int a1), (2, .int a2), (3, .int a3), (4, .int a4), (5, .int a5), (6, .int a6)] [] x := by
  intro x a1 a2 a3 a4 a5 a6 hf H locs ls hP hS hl
  obtain ⟨hx, hb, -⟩ := id hC
  refine lv_iconst (v := 1) hx hb dX7_nextOf_78 (by decide) ?_
  refine lv_goto (tgt := 83) hx hb dX7_nextOf_79 (by decide) ?_
  exact tX7_nextOf_83 hC F rec5 hrec5 x a1 a2 a3 a4 a5 a6 (1 : Int32) hf H locs ls hP hS (lv_sub hl [0, 1, 2, 3, 4, 5, 6] rfl)
set_option maxHeartbeats 4000000 in
set_option maxRecDepth 100000 in
theorem tX7_nextOf_51 (hC : Cf p s m args meth c cX7_nextOf 8 RX7 (some .int) D cy tX tY ad A 12) (F : Nat) {z : Int32 × HT} (rec5 : HT → Int32 → Int32 → Int32 → Int32 → Option (Int32 × HT)) (hrec5 : ∀ (x : HT) (a1 : Int32) (a2 : Int32) (a3 : Int32) (a4 : Int32), rec5 x a1 a2 a3 a4 = some z → Wd p l e { frames := 3, cells := 0, slots := 0, locals := 68 } s m args below meth c D (eM cy ad) 12 ad A (cQi (eM cy ad) 12 ad D A z) 8 5 [(0, .ref (ad 0)), (1, .int a1), (2, .int a2), (3, .int a3), (4, .int a4)] [] x) : ∀ (x : HT) (a1 : Int32) (a2 : Int32) (a3 : Int32) (a4 : Int32) (a5 : Int32) (t0 : Int32), fX7_nextOf_51 F rec5 x a1 a2 a3 a4 a5 t0 = some z → Wd p l e { frames := 3, cells := 0, slots := 0, locals := 68 } s m args below meth c D (eM cy ad) 12 ad A (cQi (eM cy ad) 12 ad D A z) 8 51 [(0, .ref (ad 0)), (1, .int a1), (2, .int a2), (3, .int a3), (4, .int a4), (5, .int a5)] [.int t0] x := by
  intro x a1 a2 a3 a4 a5 t0 hf H locs ls hP hS hl
  obtain ⟨hx, hb, -⟩ := id hC
  refine lv_istore (lv' := [(6, .int t0), (0, .ref (ad 0)), (1, .int a1), (2, .int a2), (3, .int a3), (4, .int a4), (5, .int a5)]) hx hb dX7_nextOf_51 hl (by decide) rfl (fun ls hl => ?_)
  refine lv_iload_n hx hb dX7_nextOf_53 rfl (lv_at hl 4 rfl) ?_
  refine lv_iconst (v := -1) hx hb dX7_nextOf_54 (by decide) ?_
  refine lv_icmp_eq (tgt := 78) hx hb dX7_nextOf_55 (by decide) (fun c9 => ?_) (fun c9 => ?_)
  · have hf := it_t c9 hf
    exact tX7_nextOf_78 hC F rec5 hrec5 x a1 a2 a3 a4 a5 t0 hf H locs ls hP hS (lv_sub hl [1, 2, 3, 4, 5, 6, 0] rfl)
  · have hf := it_f c9 hf
    refine lv_iload_n hx hb dX7_nextOf_58 rfl (lv_at hl 3 rfl) ?_
    refine lv_iload_n hx hb dX7_nextOf_59 rfl (lv_at hl 2 rfl) ?_
    refine lv_icmp_le (tgt := 72) hx hb dX7_nextOf_60 (by decide) (fun c10 => ?_) (fun c10 => ?_)
    · have hf := it_t c10 hf
      refine lv_iload hx hb dX7_nextOf_72 (lv_at hl 6 rfl) ?_
      refine lv_iload_n hx hb dX7_nextOf_74 rfl (lv_at hl 4 rfl) ?_
      refine lv_icmp_ge (tgt := 82) hx hb dX7_nextOf_75 (by decide) (fun c11 => ?_) (fun c11 => ?_)
      · have hf := it_t c11 hf
        exact tX7_nextOf_82 hC F rec5 hrec5 x a1 a2 a3 a4 a5 t0 hf H locs ls hP hS (lv_sub hl [1, 2, 3, 4, 5, 6, 0] rfl)
      · have hf := it_f c11 hf
        exact tX7_nextOf_78 hC F rec5 hrec5 x a1 a2 a3 a4 a5 t0 hf H locs ls hP hS (lv_sub hl [1, 2, 3, 4, 5, 6, 0] rfl)
    · have hf := it_f c10 hf
      refine lv_iload hx hb dX7_nextOf_63 (lv_at hl 6 rfl) ?_
      refine lv_iload_n hx hb dX7_nextOf_65 rfl (lv_at hl 4 rfl) ?_
      refine lv_icmp_le (tgt := 82) hx hb dX7_nextOf_66 (by decide) (fun c12 => ?_) (fun c12 => ?_)
      · have hf := it_t c12 hf
        exact tX7_nextOf_82 hC F rec5 hrec5 x a1 a2 a3 a4 a5 t0 hf H locs ls hP hS (lv_sub hl [1, 2, 3, 4, 5, 6, 0] rfl)
      · have hf := it_f c12 hf
        refine lv_goto (tgt := 78) hx hb dX7_nextOf_69 (by decide) ?_
        exact tX7_nextOf_78 hC F rec5 hrec5 x a1 a2 a3 a4 a5 t0 hf H locs ls hP hS (lv_sub hl [1, 2, 3, 4, 5, 6, 0] rfl)
set_option maxHeartbeats 4000000 in
set_option maxRecDepth 100000 in
theorem tX7_nextOf_50 (hC : Cf p s m args meth c cX7_nextOf 8 RX7 (some .int) D cy tX tY ad A 12) (F : Nat) {z : Int32 × HT} (rec5 : HT → Int32 → Int32 → Int32 → Int32 → Option (Int32 × HT)) (hrec5 : ∀ (x : HT) (a1 : Int32) (a2 : Int32) (a3 : Int32) (a4 : Int32), rec5 x a1 a2 a3 a4 = some z → Wd p l e { frames := 3, cells := 0, slots := 0, locals := 68 } s m args below meth c D (eM cy ad) 12 ad A (cQi (eM cy ad) 12 ad D A z) 8 5 [(0, .ref (ad 0)), (1, .int a1), (2, .int a2), (3, .int a3), (4, .int a4)] [] x) : ∀ (x : HT) (a1 : Int32) (a2 : Int32) (a3 : Int32) (a4 : Int32) (a5 : Int32), fX7_nextOf_50 F rec5 x a1 a2 a3 a4 a5 = some z → Wd p l e { frames := 3, cells := 0, slots := 0, locals := 68 } s m args below meth c D (eM cy ad) 12 ad A (cQi (eM cy ad) 12 ad D A z) 8 50 [(0, .ref (ad 0)), (1, .int a1), (2, .int a2), (3, .int a3), (4, .int a4), (5, .int a5)] [] x := by
  intro x a1 a2 a3 a4 a5 hf H locs ls hP hS hl
  obtain ⟨hx, hb, -⟩ := id hC
  refine lv_iconst (v := 0) hx hb dX7_nextOf_50 (by decide) ?_
  exact tX7_nextOf_51 hC F rec5 hrec5 x a1 a2 a3 a4 a5 (0 : Int32) hf H locs ls hP hS (lv_sub hl [0, 1, 2, 3, 4, 5] rfl)
set_option maxHeartbeats 4000000 in
set_option maxRecDepth 100000 in
theorem tX7_nextOf_46 (hC : Cf p s m args meth c cX7_nextOf 8 RX7 (some .int) D cy tX tY ad A 12) (F : Nat) {z : Int32 × HT} (rec5 : HT → Int32 → Int32 → Int32 → Int32 → Option (Int32 × HT)) (hrec5 : ∀ (x : HT) (a1 : Int32) (a2 : Int32) (a3 : Int32) (a4 : Int32), rec5 x a1 a2 a3 a4 = some z → Wd p l e { frames := 3, cells := 0, slots := 0, locals := 68 } s m args below meth c D (eM cy ad) 12 ad A (cQi (eM cy ad) 12 ad D A z) 8 5 [(0, .ref (ad 0)), (1, .int a1), (2, .int a2), (3, .int a3), (4, .int a4)] [] x) : ∀ (x : HT) (a1 : Int32) (a2 : Int32) (a3 : Int32) (a4 : Int32) (a5 : Int32), fX7_nextOf_46 F rec5 x a1 a2 a3 a4 a5 = some z → Wd p l e { frames := 3, cells := 0, slots := 0, locals := 68 } s m args below meth c D (eM cy ad) 12 ad A (cQi (eM cy ad) 12 ad D A z) 8 46 [(0, .ref (ad 0)), (1, .int a1), (2, .int a2), (3, .int a3), (4, .int a4), (5, .int a5)] [] x := by
  intro x a1 a2 a3 a4 a5 hf H locs ls hP hS hl
  obtain ⟨hx, hb, -⟩ := id hC
  refine lv_iconst (v := 1) hx hb dX7_nextOf_46 (by decide) ?_
  refine lv_goto (tgt := 51) hx hb dX7_nextOf_47 (by decide) ?_
  exact tX7_nextOf_51 hC F rec5 hrec5 x a1 a2 a3 a4 a5 (1 : Int32) hf H locs ls hP hS (lv_sub hl [0, 1, 2, 3, 4, 5] rfl)
set_option maxHeartbeats 4000000 in
set_option maxRecDepth 100000 in
theorem tX7_nextOf_5b (hC : Cf p s m args meth c cX7_nextOf 8 RX7 (some .int) D cy tX tY ad A 12) (F : Nat) {z : Int32 × HT} (rec5 : HT → Int32 → Int32 → Int32 → Int32 → Option (Int32 × HT)) (hrec5 : ∀ (x : HT) (a1 : Int32) (a2 : Int32) (a3 : Int32) (a4 : Int32), rec5 x a1 a2 a3 a4 = some z → Wd p l e { frames := 3, cells := 0, slots := 0, locals := 68 } s m args below meth c D (eM cy ad) 12 ad A (cQi (eM cy ad) 12 ad D A z) 8 5 [(0, .ref (ad 0)), (1, .int a1), (2, .int a2), (3, .int a3), (4, .int a4)] [] x) : ∀ (x : HT) (a1 : Int32) (a2 : Int32) (a3 : Int32) (a4 : Int32), fX7_nextOf_5b F rec5 x a1 a2 a3 a4 = some z → Wd p l e { frames := 3, cells := 0, slots := 0, locals := 68 } s m args below meth c D (eM cy ad) 12 ad A (cQi (eM cy ad) 12 ad D A z) 8 5 [(0, .ref (ad 0)), (1, .int a1), (2, .int a2), (3, .int a3), (4, .int a4)] [] x := by
  intro x a1 a2 a3 a4 hf H locs ls hP hS hl
  obtain ⟨hx, hb, -⟩ := id hC
  refine lv_iload hx hb dX7_nextOf_5 (lv_at hl 4 rfl) ?_
  refine lv_iconst (v := 4) hx hb dX7_nextOf_7 (by decide) ?_
  refine lv_icmp_ge (tgt := 108) hx hb dX7_nextOf_8 (by decide) (fun c1 => ?_) (fun c1 => ?_)
  · have hf := it_t c1 hf
    refine lv_iload_n hx hb dX7_nextOf_108 rfl (lv_at hl 3 rfl) ?_
    exact gIret hC hP hS hf dX7_nextOf_109
  · have hf := it_f c1 hf
    refine lv_aload_n hx hb dX7_nextOf_11 rfl (lv_at hl 0 rfl) ?_
    refine lv_iload_n hx hb dX7_nextOf_12 rfl (lv_at hl 1 rfl) ?_
    refine lv_iload hx hb dX7_nextOf_13 (lv_at hl 4 rfl) ?_
    obtain ⟨r3, x2, e4, hf⟩ := bd_some hf
    refine gVi (As := [.int a1, .int a4]) (rest := []) (k := 0) hC hP hS (kX7_beside l D cy tX tY ad A hC.2.2.2.2.2.2.2.2.1 F x a1 a4 e4) glX7_72 ⟨rfl, rfl⟩ hdX7_beside ⟨Nat.le_of_ble_eq_true rfl, Nat.le_of_ble_eq_true rfl⟩ (by decide) (eM_0 cy ad _ _) rfl rfl hl.1 rfl (Nat.le_of_ble_eq_true rfl) dX7_nextOf_15 ⟨Nat.zero_le _, Nat.zero_le _⟩ (fun H locs hP hS => ?_)
    refine lv_istore (lv' := [(5, .int r3), (0, .ref (ad 0)), (1, .int a1), (2, .int a2), (3, .int a3), (4, .int a4)]) hx hb dX7_nextOf_18 hl (by decide) rfl (fun ls hl => ?_)
    refine lv_iload hx hb dX7_nextOf_20 (lv_at hl 0 rfl) ?_
    refine lv_iconst (v := -1) hx hb dX7_nextOf_22 (by decide) ?_
    refine lv_icmp_eq (tgt := 50) hx hb dX7_nextOf_23 (by decide) (fun c5 => ?_) (fun c5 => ?_)
    · have hf := it_t c5 hf
      exact tX7_nextOf_50 hC F rec5 hrec5 x2 a1 a2 a3 a4 r3 hf H locs ls hP hS (lv_sub hl [1, 2, 3, 4, 5, 0] rfl)
    · have hf := it_f c5 hf
      refine lv_iload_n hx hb dX7_nextOf_26 rfl (lv_at hl 3 rfl) ?_
      refine lv_iload_n hx hb dX7_nextOf_27 rfl (lv_at hl 2 rfl) ?_
      refine lv_icmp_le (tgt := 40) hx hb dX7_nextOf_28 (by decide) (fun c6 => ?_) (fun c6 => ?_)
      · have hf := it_t c6 hf
        refine lv_iload hx hb dX7_nextOf_40 (lv_at hl 0 rfl) ?_
        refine lv_iload_n hx hb dX7_nextOf_42 rfl (lv_at hl 3 rfl) ?_
        refine lv_icmp_lt (tgt := 50) hx hb dX7_nextOf_43 (by decide) (fun c7 => ?_) (fun c7 => ?_)
        · have hf := it_t c7 hf
          exact tX7_nextOf_50 hC F rec5 hrec5 x2 a1 a2 a3 a4 r3 hf H locs ls hP hS (lv_sub hl [1, 2, 3, 4, 5, 0] rfl)
        · have hf := it_f c7 hf
          exact tX7_nextOf_46 hC F rec5 hrec5 x2 a1 a2 a3 a4 r3 hf H locs ls hP hS (lv_sub hl [1, 2, 3, 4, 5, 0] rfl)
      · have hf := it_f c6 hf
        refine lv_iload hx hb dX7_nextOf_31 (lv_at hl 0 rfl) ?_
        refine lv_iload_n hx hb dX7_nextOf_33 rfl (lv_at hl 3 rfl) ?_
        refine lv_icmp_gt (tgt := 50) hx hb dX7_nextOf_34 (by decide) (fun c8 => ?_) (fun c8 => ?_)
        · have hf := it_t c8 hf
          exact tX7_nextOf_50 hC F rec5 hrec5 x2 a1 a2 a3 a4 r3 hf H locs ls hP hS (lv_sub hl [1, 2, 3, 4, 5, 0] rfl)
        · have hf := it_f c8 hf
          refine lv_goto (tgt := 46) hx hb dX7_nextOf_37 (by decide) ?_
          exact tX7_nextOf_46 hC F rec5 hrec5 x2 a1 a2 a3 a4 r3 hf H locs ls hP hS (lv_sub hl [1, 2, 3, 4, 5, 0] rfl)
theorem tX7_nextOf_5 (hC : Cf p s m args meth c cX7_nextOf 8 RX7 (some .int) D cy tX tY ad A 12) (F : Nat) {z : Int32 × HT} : ∀ (n9 : Nat) (x : HT) (a1 : Int32) (a2 : Int32) (a3 : Int32) (a4 : Int32), fX7_nextOf_5 F n9 x a1 a2 a3 a4 = some z → Wd p l e { frames := 3, cells := 0, slots := 0, locals := 68 } s m args below meth c D (eM cy ad) 12 ad A (cQi (eM cy ad) 12 ad D A z) 8 5 [(0, .ref (ad 0)), (1, .int a1), (2, .int a2), (3, .int a3), (4, .int a4)] [] x := by
  intro n9
  induction n9 with
  | zero => intro x a1 a2 a3 a4 hf; cases hf
  | succ n9 ih => intro x a1 a2 a3 a4 hf; exact tX7_nextOf_5b hC F (fX7_nextOf_5 F n9) ih x a1 a2 a3 a4 hf
set_option maxHeartbeats 4000000 in
set_option maxRecDepth 100000 in
theorem kX7_nextOf (l : Launch) (D : va_G) (cy : Nat → ClassId) (tX tY : Nat) (ad : Nat → Nat) (A : Nat → Prop) (hA : apart ad A 12) (F : Nat) (x : HT) (a1 : Int32) (a2 : Int32) {z : Int32 × HT} (hf : fX7_nextOf F x a1 a2 = some z) : Met l yX7_nextOf (Cond.code yX7_nextOf cX7_nextOf 8 (some .int) :: wAll) { frames := 3, cells := 0, slots := 0, locals := 68 } (cPc (eM cy ad) 12 ad D cy tX tY A [.ref (ad 0), .int a1, .int a2] x) (cQi (eM cy ad) 12 ad D A z) 0 0 A := by
  refine gMet hA (by decide) (Nat.le_of_ble_eq_true rfl) (fun p e s m below meth c hC H locs ls hP hS hl => ?_)
  have hC : Cf p s m _ meth c cX7_nextOf 8 RX7 (some .int) D cy tX tY ad A 12 := hC
  have hl : lv_has ls 8 [(0, .ref (ad 0)), (1, .int a1), (2, .int a2)] := hl
  obtain ⟨hx, hb, -⟩ := id hC
  refine lv_iconst (v := -1) hx hb dX7_nextOf_0 (by decide) ?_
  refine lv_istore_n (lv' := [(3, .int (-1 : Int32)), (0, .ref (ad 0)), (1, .int a1), (2, .int a2)]) hx hb dX7_nextOf_1 rfl hl (by decide) rfl (fun ls hl => ?_)
  refine lv_iconst (v := 0) hx hb dX7_nextOf_2 (by decide) ?_
  refine lv_istore (lv' := [(4, .int (0 : Int32)), (3, .int (-1 : Int32)), (0, .ref (ad 0)), (1, .int a1), (2, .int a2)]) hx hb dX7_nextOf_3 hl (by decide) rfl (fun ls hl => ?_)
  exact tX7_nextOf_5 hC F F x a1 a2 (-1 : Int32) (0 : Int32) hf H locs ls hP hS (lv_sub hl [2, 3, 4, 1, 0] rfl)
