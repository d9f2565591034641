variable {p : Program} {l : Launch} {e : Env} {s : State} {m : MethodId} {args : Array Value} {below : List Frame} {meth : Method} {c : Code} {D : va_G} {cy : Nat → ClassId} {tX tY : Nat} {ad : Nat → Nat} {A : Nat → Prop}
set_option maxHeartbeats 4000000 in
set_option maxRecDepth 100000 in
theorem tX7_laysWay_156 (hC : Cf p s m args meth c cX7_laysWay 9 RX7 none D cy tX tY ad A 12) (F : Nat) {z : Unit × HT} (rec68 : HT → Int32 → Int32 → Int32 → Int32 → Int32 → Int32 → Int32 → Option (Unit × HT)) (hrec68 : ∀ (x : HT) (a1 : Int32) (a3 : Int32) (a4 : Int32) (a5 : Int32) (a6 : Int32) (a7 : Int32) (a8 : Int32), rec68 x a1 a3 a4 a5 a6 a7 a8 = some z → Wd p l e { frames := 4, cells := 0, slots := 0, locals := 95 } s m args below meth c D (eM cy ad) 12 ad A (cQv (eM cy ad) 12 ad D A z) 9 68 [(0, .ref (ad 0)), (1, .int a1), (3, .int a3), (4, .int a4), (5, .int a5), (6, .int a6), (7, .int a7), (8, .int a8)] [] x) : ∀ (x : HT) (a1 : Int32) (a3 : Int32) (a4 : Int32) (a5 : Int32) (a6 : Int32) (a7 : Int32) (a8 : Int32), fX7_laysWay_156 F rec68 x a1 a3 a4 a5 a6 a7 a8 = some z → Wd p l e { frames := 4, cells := 0, slots := 0, locals := 95 } s m args below meth c D (eM cy ad) 12 ad A (cQv (eM cy ad) 12 ad D A z) 9 156 [(0, .ref (ad 0)), (1, .int a1), (3, .int a3), (4, .int a4), (5, .int a5), (6, .int a6), (7, .int a7), (8, .int a8)] [] x := by
  intro x a1 a3 a4 a5 a6 a7 a8 hf H locs ls hP hS hl
  obtain ⟨hx, hb, -⟩ := id hC
  refine lv_iload hx hb dX7_laysWay_156 (lv_at hl 7 rfl) ?_
  refine lv_iload hx hb dX7_laysWay_158 (lv_at hl 6 rfl) ?_
  refine lv_iadd hx hb dX7_laysWay_160 ?_
  refine lv_topi (fun b47 e48 => ?_)
  have hf := lt_use e48 hf
  refine lv_istore (lv' := [(8, .int b47), (0, .ref (ad 0)), (1, .int a1), (3, .int a3), (4, .int a4), (5, .int a5), (6, .int a6), (7, .int a7)]) hx hb dX7_laysWay_161 hl (by decide) rfl (fun ls hl => ?_)
  refine lv_goto (tgt := 68) hx hb dX7_laysWay_163 (by decide) ?_
  exact hrec68 x a1 a3 a4 a5 a6 a7 b47 hf H locs ls hP hS (lv_sub hl [1, 2, 3, 4, 5, 6, 7, 0] rfl)
set_option maxHeartbeats 4000000 in
set_option maxRecDepth 100000 in
theorem tX7_laysWay_91b (hC : Cf p s m args meth c cX7_laysWay 9 RX7 none D cy tX tY ad A 12) (F : Nat) {z : Unit × HT} (rec68 : HT → Int32 → Int32 → Int32 → Int32 → Int32 → Int32 → Int32 → Option (Unit × HT)) (hrec68 : ∀ (x : HT) (a1 : Int32) (a3 : Int32) (a4 : Int32) (a5 : Int32) (a6 : Int32) (a7 : Int32) (a8 : Int32), rec68 x a1 a3 a4 a5 a6 a7 a8 = some z → Wd p l e { frames := 4, cells := 0, slots := 0, locals := 95 } s m args below meth c D (eM cy ad) 12 ad A (cQv (eM cy ad) 12 ad D A z) 9 68 [(0, .ref (ad 0)), (1, .int a1), (3, .int a3), (4, .int a4), (5, .int a5), (6, .int a6), (7, .int a7), (8, .int a8)] [] x) (rec91 : HT → Int32 → Int32 → Int32 → Int32 → Int32 → Int32 → Int32 → Option (Unit × HT)) (hrec91 : ∀ (x : HT) (a1 : Int32) (a3 : Int32) (a4 : Int32) (a5 : Int32) (a6 : Int32) (a7 : Int32) (a8 : Int32), rec91 x a1 a3 a4 a5 a6 a7 a8 = some z → Wd p l e { frames := 4, cells := 0, slots := 0, locals := 95 } s m args below meth c D (eM cy ad) 12 ad A (cQv (eM cy ad) 12 ad D A z) 9 91 [(0, .ref (ad 0)), (1, .int a1), (3, .int a3), (4, .int a4), (5, .int a5), (6, .int a6), (7, .int a7), (8, .int a8)] [] x) : ∀ (x : HT) (a1 : Int32) (a3 : Int32) (a4 : Int32) (a5 : Int32) (a6 : Int32) (a7 : Int32) (a8 : Int32), fX7_laysWay_91b F rec68 rec91 x a1 a3 a4 a5 a6 a7 a8 = some z → Wd p l e { frames := 4, cells := 0, slots := 0, locals := 95 } s m args below meth c D (eM cy ad) 12 ad A (cQv (eM cy ad) 12 ad D A z) 9 91 [(0, .ref (ad 0)), (1, .int a1), (3, .int a3), (4, .int a4), (5, .int a5), (6, .int a6), (7, .int a7), (8, .int a8)] [] x := by
  intro x a1 a3 a4 a5 a6 a7 a8 hf H locs ls hP hS hl
  obtain ⟨hx, hb, -⟩ := id hC
  refine lv_iload hx hb dX7_laysWay_91 (lv_at hl 4 rfl) ?_
  refine lv_iload hx hb dX7_laysWay_93 (lv_at hl 7 rfl) ?_
  refine lv_icmp_eq (tgt := 128) hx hb dX7_laysWay_95 (by decide) (fun c30 => ?_) (fun c30 => ?_)
  · have hf := it_t c30 hf
    refine lv_aload_n hx hb dX7_laysWay_128 rfl (lv_at hl 0 rfl) ?_
    refine gfX7_34 hC hP dX7_laysWay_129 ?_
    refine lv_bipush (v := 36) hx hb dX7_laysWay_132 (by decide) ?_
    refine lv_iload_n hx hb dX7_laysWay_134 rfl (lv_at hl 2 rfl) ?_
    refine lv_imul hx hb dX7_laysWay_135 ?_
    refine lv_aload_n hx hb dX7_laysWay_136 rfl (lv_at hl 0 rfl) ?_
    refine gfX7_31 hC hP dX7_laysWay_137 ?_
    refine lv_iload_n hx hb dX7_laysWay_140 rfl (lv_at hl 2 rfl) ?_
    obtain ⟨h31, hf⟩ := ck_some hf
    refine gIal hC hP 8 (by decide) (eM_8 cy ad _ _) h31 dX7_laysWay_141 ?_
    refine lv_iadd hx hb dX7_laysWay_142 ?_
    refine lv_iload hx hb dX7_laysWay_143 (lv_at hl 5 rfl) ?_
    obtain ⟨h32, hf⟩ := ck_some hf
    refine gIas hC hP hS 9 (by decide) (fun g9 => eM_9 cy ad g9 _) h32 dX7_laysWay_145 (fun H locs hP hS => ?_)
    obtain ⟨x33, e34, hf⟩ := lt_some hf
    have hP : va_P D vwCl (wG (eM cy ad) 12 ad x33) H := by rw [e34]; exact hP
    refine lv_aload_n hx hb dX7_laysWay_146 rfl (lv_at hl 0 rfl) ?_
    refine gfX7_31 hC hP dX7_laysWay_147 ?_
    refine lv_iload_n hx hb dX7_laysWay_150 rfl (lv_at hl 2 rfl) ?_
    refine lv_dup2_11 hx hb dX7_laysWay_151 rfl rfl ?_
    obtain ⟨h35, hf⟩ := ck_some hf
    refine gIal hC hP 8 (by decide) (eM_8 cy ad _ _) h35 dX7_laysWay_152 ?_
    refine lv_iconst (v := 1) hx hb dX7_laysWay_153 (by decide) ?_
    refine lv_iadd hx hb dX7_laysWay_154 ?_
    obtain ⟨h36, hf⟩ := ck_some hf
    refine gIas hC hP hS 8 (by decide) (fun g9 => eM_8 cy ad g9 _) h36 dX7_laysWay_155 (fun H locs hP hS => ?_)
    obtain ⟨x37, e38, hf⟩ := lt_some hf
    have hP : va_P D vwCl (wG (eM cy ad) 12 ad x37) H := by rw [e38]; exact hP
    exact tX7_laysWay_156 hC F rec68 hrec68 x37 a1 a3 a4 a5 a6 a7 a8 hf H locs ls hP hS (lv_sub hl [0, 1, 2, 3, 4, 5, 6, 7] rfl)
  · have hf := it_f c30 hf
    refine lv_aload_n hx hb dX7_laysWay_98 rfl (lv_at hl 0 rfl) ?_
    refine lv_iload hx hb dX7_laysWay_99 (lv_at hl 4 rfl) ?_
    refine lv_iload hx hb dX7_laysWay_101 (lv_at hl 7 rfl) ?_
    obtain ⟨r40, x39, e41, hf⟩ := bd_some hf
    refine gVi (As := [.int a5, .int a8]) (rest := []) (k := 0) hC hP hS (kX7_nextOf l D cy tX tY ad A hC.2.2.2.2.2.2.2.2.1 F x a5 a8 e41) glX7_75 ⟨rfl, rfl⟩ hdX7_nextOf ⟨Nat.le_of_ble_eq_true rfl, Nat.le_of_ble_eq_true rfl⟩ (by decide) (eM_0 cy ad _ _) rfl rfl hl.1 rfl (Nat.le_of_ble_eq_true rfl) dX7_laysWay_103 ⟨Nat.zero_le _, Nat.zero_le _⟩ (fun H locs hP hS => ?_)
    refine lv_istore (lv' := [(5, .int r40), (0, .ref (ad 0)), (1, .int a1), (3, .int a3), (4, .int a4), (6, .int a6), (7, .int a7), (8, .int a8)]) hx hb dX7_laysWay_106 hl (by decide) rfl (fun ls hl => ?_)
    obtain ⟨b42, e43, hf⟩ := lt_some hf
    refine lv_iinc (v := b42) (lv' := [(6, .int b42), (5, .int r40), (0, .ref (ad 0)), (1, .int a1), (3, .int a3), (4, .int a4), (7, .int a7), (8, .int a8)]) hx hb dX7_laysWay_108 hl (k := 5) rfl (by rw [e43]; rfl) (by decide) rfl (fun ls hl => ?_)
    refine lv_aload_n hx hb dX7_laysWay_111 rfl (lv_at hl 2 rfl) ?_
    refine gfX7_25 hC hP dX7_laysWay_112 ?_
    refine lv_bipush (v := 37) hx hb dX7_laysWay_115 (by decide) ?_
    refine lv_iload_n hx hb dX7_laysWay_117 rfl (lv_at hl 4 rfl) ?_
    refine lv_imul hx hb dX7_laysWay_118 ?_
    refine lv_iload hx hb dX7_laysWay_119 (lv_at hl 0 rfl) ?_
    refine lv_iadd hx hb dX7_laysWay_121 ?_
    refine lv_iload hx hb dX7_laysWay_122 (lv_at hl 1 rfl) ?_
    obtain ⟨h44, hf⟩ := ck_some hf
    refine gIas hC hP hS 6 (by decide) (fun g9 => eM_6 cy ad g9 _) h44 dX7_laysWay_124 (fun H locs hP hS => ?_)
    obtain ⟨x45, e46, hf⟩ := lt_some hf
    have hP : va_P D vwCl (wG (eM cy ad) 12 ad x45) H := by rw [e46]; exact hP
    refine lv_goto (tgt := 91) hx hb dX7_laysWay_125 (by decide) ?_
    exact hrec91 x45 a1 a3 a4 r40 b42 a7 a8 hf H locs ls hP hS (lv_sub hl [2, 3, 4, 5, 1, 0, 6, 7] rfl)
theorem tX7_laysWay_91 (hC : Cf p s m args meth c cX7_laysWay 9 RX7 none D cy tX tY ad A 12) (F : Nat) {z : Unit × HT} (rec68 : HT → Int32 → Int32 → Int32 → Int32 → Int32 → Int32 → Int32 → Option (Unit × HT)) (hrec68 : ∀ (x : HT) (a1 : Int32) (a3 : Int32) (a4 : Int32) (a5 : Int32) (a6 : Int32) (a7 : Int32) (a8 : Int32), rec68 x a1 a3 a4 a5 a6 a7 a8 = some z → Wd p l e { frames := 4, cells := 0, slots := 0, locals := 95 } s m args below meth c D (eM cy ad) 12 ad A (cQv (eM cy ad) 12 ad D A z) 9 68 [(0, .ref (ad 0)), (1, .int a1), (3, .int a3), (4, .int a4), (5, .int a5), (6, .int a6), (7, .int a7), (8, .int a8)] [] x) : ∀ (n9 : Nat) (x : HT) (a1 : Int32) (a3 : Int32) (a4 : Int32) (a5 : Int32) (a6 : Int32) (a7 : Int32) (a8 : Int32), fX7_laysWay_91 F rec68 n9 x a1 a3 a4 a5 a6 a7 a8 = some z → Wd p l e { frames := 4, cells := 0, slots := 0, locals := 95 } s m args below meth c D (eM cy ad) 12 ad A (cQv (eM cy ad) 12 ad D A z) 9 91 [(0, .ref (ad 0)), (1, .int a1), (3, .int a3), (4, .int a4), (5, .int a5), (6, .int a6), (7, .int a7), (8, .int a8)] [] x := by
  intro n9
  induction n9 with
  | zero => intro x a1 a3 a4 a5 a6 a7 a8 hf; cases hf
  | succ n9 ih => intro x a1 a3 a4 a5 a6 a7 a8 hf; exact tX7_laysWay_91b hC F rec68 hrec68 (fX7_laysWay_91 F rec68 n9) ih x a1 a3 a4 a5 a6 a7 a8 hf
set_option maxHeartbeats 4000000 in
set_option maxRecDepth 100000 in
theorem tX7_laysWay_68b (hC : Cf p s m args meth c cX7_laysWay 9 RX7 none D cy tX tY ad A 12) (F : Nat) {z : Unit × HT} (rec68 : HT → Int32 → Int32 → Int32 → Int32 → Int32 → Int32 → Int32 → Option (Unit × HT)) (hrec68 : ∀ (x : HT) (a1 : Int32) (a3 : Int32) (a4 : Int32) (a5 : Int32) (a6 : Int32) (a7 : Int32) (a8 : Int32), rec68 x a1 a3 a4 a5 a6 a7 a8 = some z → Wd p l e { frames := 4, cells := 0, slots := 0, locals := 95 } s m args below meth c D (eM cy ad) 12 ad A (cQv (eM cy ad) 12 ad D A z) 9 68 [(0, .ref (ad 0)), (1, .int a1), (3, .int a3), (4, .int a4), (5, .int a5), (6, .int a6), (7, .int a7), (8, .int a8)] [] x) : ∀ (x : HT) (a1 : Int32) (a3 : Int32) (a4 : Int32) (a5 : Int32) (a6 : Int32) (a7 : Int32) (a8 : Int32), fX7_laysWay_68b F rec68 x a1 a3 a4 a5 a6 a7 a8 = some z → Wd p l e { frames := 4, cells := 0, slots := 0, locals := 95 } s m args below meth c D (eM cy ad) 12 ad A (cQv (eM cy ad) 12 ad D A z) 9 68 [(0, .ref (ad 0)), (1, .int a1), (3, .int a3), (4, .int a4), (5, .int a5), (6, .int a6), (7, .int a7), (8, .int a8)] [] x := by
  intro x a1 a3 a4 a5 a6 a7 a8 hf H locs ls hP hS hl
  obtain ⟨hx, hb, -⟩ := id hC
  refine lv_iload hx hb dX7_laysWay_68 (lv_at hl 7 rfl) ?_
  refine lv_iconst (v := 0) hx hb dX7_laysWay_70 (by decide) ?_
  refine lv_iload hx hb dX7_laysWay_71 (lv_at hl 3 rfl) ?_
  refine lv_iconst (v := 1) hx hb dX7_laysWay_73 (by decide) ?_
  refine lv_isub hx hb dX7_laysWay_74 ?_
  obtain ⟨r20, x19, e21, hf⟩ := bd_some hf
  refine gSi (As := [.int a8, .int (0 : Int32), .int (a4 - (1 : Int32))]) (rest := []) hC hP hS (kX7_in l D cy tX tY ad A hC.2.2.2.2.2.2.2.2.1 F x a8 (0 : Int32) (a4 - (1 : Int32)) e21) glX7_54 ⟨rfl, rfl⟩ hdX7_in ⟨Nat.le_of_ble_eq_true rfl, Nat.le_of_ble_eq_true rfl⟩ rfl hl.1 rfl (Nat.le_of_ble_eq_true rfl) dX7_laysWay_75 ⟨Nat.zero_le _, Nat.zero_le _⟩ (fun H locs hP hS => ?_)
  refine lv_if_eq (tgt := 166) hx hb dX7_laysWay_78 (by decide) (fun c22 => ?_) (fun c22 => ?_)
  · have hf := it_t c22 hf
    refine lv_aload_n hx hb dX7_laysWay_166 rfl (lv_at hl 0 rfl) ?_
    refine gfX7_28 hC hP dX7_laysWay_167 ?_
    refine lv_iload_n hx hb dX7_laysWay_170 rfl (lv_at hl 2 rfl) ?_
    refine lv_iload hx hb dX7_laysWay_171 (lv_at hl 5 rfl) ?_
    obtain ⟨h23, hf⟩ := ck_some hf
    refine gIas hC hP hS 7 (by decide) (fun g9 => eM_7 cy ad g9 _) h23 dX7_laysWay_173 (fun H locs hP hS => ?_)
    obtain ⟨x24, e25, hf⟩ := lt_some hf
    have hP : va_P D vwCl (wG (eM cy ad) 12 ad x24) H := by rw [e25]; exact hP
    exact gVret hC hP hS hf dX7_laysWay_174
  · have hf := it_f c22 hf
    refine lv_aload_n hx hb dX7_laysWay_81 rfl (lv_at hl 0 rfl) ?_
    refine lv_iload_n hx hb dX7_laysWay_82 rfl (lv_at hl 1 rfl) ?_
    refine lv_iload hx hb dX7_laysWay_83 (lv_at hl 7 rfl) ?_
    obtain ⟨r27, x26, e28, hf⟩ := bd_some hf
    refine gVi (As := [.int a1, .int a8]) (rest := []) (k := 0) hC hP hS (kX7_isGoal l D cy tX tY ad A hC.2.2.2.2.2.2.2.2.1 F x19 a1 a8 e28) glX7_81 ⟨rfl, rfl⟩ hdX7_isGoal ⟨Nat.le_of_ble_eq_true rfl, Nat.le_of_ble_eq_true rfl⟩ (by decide) (eM_0 cy ad _ _) rfl rfl hl.1 rfl (Nat.le_of_ble_eq_true rfl) dX7_laysWay_85 ⟨Nat.zero_le _, Nat.zero_le _⟩ (fun H locs hP hS => ?_)
    refine lv_if_eq (tgt := 156) hx hb dX7_laysWay_88 (by decide) (fun c29 => ?_) (fun c29 => ?_)
    · have hf := it_t c29 hf
      exact tX7_laysWay_156 hC F rec68 hrec68 x26 a1 a3 a4 a5 a6 a7 a8 hf H locs ls hP hS (lv_sub hl [0, 1, 2, 3, 4, 5, 6, 7] rfl)
    · have hf := it_f c29 hf
      exact tX7_laysWay_91 hC F rec68 hrec68 F x26 a1 a3 a4 a5 a6 a7 a8 hf H locs ls hP hS (lv_sub hl [0, 1, 2, 3, 4, 5, 6, 7] rfl)
theorem tX7_laysWay_68 (hC : Cf p s m args meth c cX7_laysWay 9 RX7 none D cy tX tY ad A 12) (F : Nat) {z : Unit × HT} : ∀ (n9 : Nat) (x : HT) (a1 : Int32) (a3 : Int32) (a4 : Int32) (a5 : Int32) (a6 : Int32) (a7 : Int32) (a8 : Int32), fX7_laysWay_68 F n9 x a1 a3 a4 a5 a6 a7 a8 = some z → Wd p l e { frames := 4, cells := 0, slots := 0, locals := 95 } s m args below meth c D (eM cy ad) 12 ad A (cQv (eM cy ad) 12 ad D A z) 9 68 [(0, .ref (ad 0)), (1, .int a1), (3, .int a3), (4, .int a4), (5, .int a5), (6, .int a6), (7, .int a7), (8, .int a8)] [] x := by
  intro n9
  induction n9 with
  | zero => intro x a1 a3 a4 a5 a6 a7 a8 hf; cases hf
  | succ n9 ih => intro x a1 a3 a4 a5 a6 a7 a8 hf; exact tX7_laysWay_68b hC F (fX7_laysWay_68 F n9) ih x a1 a3 a4 a5 a6 a7 a8 hf
set_option maxHeartbeats 4000000 in
set_option maxRecDepth 100000 in
theorem tX7_laysWay_59 (hC : Cf p s m args meth c cX7_laysWay 9 RX7 none D cy tX tY ad A 12) (F : Nat) {z : Unit × HT} : ∀ (x : HT) (a1 : Int32) (a3 : Int32) (a4 : Int32) (a5 : Int32) (a6 : Int32) (t0 : Int32), fX7_laysWay_59 F x a1 a3 a4 a5 a6 t0 = some z → Wd p l e { frames := 4, cells := 0, slots := 0, locals := 95 } s m args below meth c D (eM cy ad) 12 ad A (cQv (eM cy ad) 12 ad D A z) 9 59 [(0, .ref (ad 0)), (1, .int a1), (3, .int a3), (4, .int a4), (5, .int a5), (6, .int a6)] [.int t0] x := by
  intro x a1 a3 a4 a5 a6 t0 hf H locs ls hP hS hl
  obtain ⟨hx, hb, -⟩ := id hC
  refine lv_istore (lv' := [(7, .int t0), (0, .ref (ad 0)), (1, .int a1), (3, .int a3), (4, .int a4), (5, .int a5), (6, .int a6)]) hx hb dX7_laysWay_59 hl (by decide) rfl (fun ls hl => ?_)
  refine lv_iload hx hb dX7_laysWay_61 (lv_at hl 5 rfl) ?_
  refine lv_iload hx hb dX7_laysWay_63 (lv_at hl 0 rfl) ?_
  refine lv_iadd hx hb dX7_laysWay_65 ?_
  refine lv_topi (fun b17 e18 => ?_)
  have hf := lt_use e18 hf
  refine lv_istore (lv' := [(8, .int b17), (7, .int t0), (0, .ref (ad 0)), (1, .int a1), (3, .int a3), (4, .int a4), (5, .int a5), (6, .int a6)]) hx hb dX7_laysWay_66 hl (by decide) rfl (fun ls hl => ?_)
  exact tX7_laysWay_68 hC F F x a1 a3 a4 a5 a6 t0 b17 hf H locs ls hP hS (lv_sub hl [2, 3, 4, 5, 6, 7, 1, 0] rfl)
set_option maxHeartbeats 4000000 in
set_option maxRecDepth 100000 in
theorem kX7_laysWay (l : Launch) (D : va_G) (cy : Nat → ClassId) (tX tY : Nat) (ad : Nat → Nat) (A : Nat → Prop) (hA : apart ad A 12) (F : Nat) (x : HT) (a1 : Int32) (a2 : Int32) {z : Unit × HT} (hf : fX7_laysWay F x a1 a2 = some z) : Met l yX7_laysWay (Cond.code yX7_laysWay cX7_laysWay 9 none :: wAll) { frames := 4, cells := 0, slots := 0, locals := 95 } (cPc (eM cy ad) 12 ad D cy tX tY A [.ref (ad 0), .int a1, .int a2] x) (cQv (eM cy ad) 12 ad D A z) 0 0 A := by
  refine gMet hA (by decide) (Nat.le_of_ble_eq_true rfl) (fun p e s m below meth c hC H locs ls hP hS hl => ?_)
  have hC : Cf p s m _ meth c cX7_laysWay 9 RX7 none D cy tX tY ad A 12 := hC
  have hl : lv_has ls 9 [(0, .ref (ad 0)), (1, .int a1), (2, .int a2)] := hl
  obtain ⟨hx, hb, -⟩ := id hC
  refine lv_iconst (v := 2) hx hb dX7_laysWay_0 (by decide) ?_
  refine lv_iload_n hx hb dX7_laysWay_1 rfl (lv_at hl 1 rfl) ?_
  refine lv_imul hx hb dX7_laysWay_2 ?_
  refine lv_iload_n hx hb dX7_laysWay_3 rfl (lv_at hl 2 rfl) ?_
  refine lv_iadd hx hb dX7_laysWay_4 ?_
  refine lv_topi (fun b1 e2 => ?_)
  have hf := lt_use e2 hf
  refine lv_istore_n (lv' := [(3, .int b1), (0, .ref (ad 0)), (1, .int a1), (2, .int a2)]) hx hb dX7_laysWay_5 rfl hl (by decide) rfl (fun ls hl => ?_)
  refine lv_aload_n hx hb dX7_laysWay_6 rfl (lv_at hl 1 rfl) ?_
  refine gfX7_7 hC hP dX7_laysWay_7 ?_
  refine lv_iconst (v := 0) hx hb dX7_laysWay_10 (by decide) ?_
  obtain ⟨h3, hf⟩ := ck_some hf
  refine gIal hC hP 1 (by decide) (eM_1 cy ad _ _) h3 dX7_laysWay_11 ?_
  refine lv_aload_n hx hb dX7_laysWay_12 rfl (lv_at hl 1 rfl) ?_
  refine gfX7_7 hC hP dX7_laysWay_13 ?_
  refine lv_iconst (v := 1) hx hb dX7_laysWay_16 (by decide) ?_
  obtain ⟨h4, hf⟩ := ck_some hf
  refine gIal hC hP 1 (by decide) (eM_1 cy ad _ _) h4 dX7_laysWay_17 ?_
  refine lv_imul hx hb dX7_laysWay_18 ?_
  refine lv_topi (fun b5 e6 => ?_)
  have hf := lt_use e6 hf
  refine lv_istore (lv' := [(4, .int b5), (3, .int b1), (0, .ref (ad 0)), (1, .int a1), (2, .int a2)]) hx hb dX7_laysWay_19 hl (by decide) rfl (fun ls hl => ?_)
  refine lv_aload_n hx hb dX7_laysWay_21 rfl (lv_at hl 2 rfl) ?_
  refine lv_iload_n hx hb dX7_laysWay_22 rfl (lv_at hl 3 rfl) ?_
  refine lv_iconst (v := 0) hx hb dX7_laysWay_23 (by decide) ?_
  obtain ⟨r8, x7, e9, hf⟩ := bd_some hf
  refine gVi (As := [.int a1, .int (0 : Int32)]) (rest := []) (k := 0) hC hP hS (kX7_of0 l D cy tX tY ad A hC.2.2.2.2.2.2.2.2.1 F x a1 (0 : Int32) e9) glX7_78 ⟨rfl, rfl⟩ hdX7_of0 ⟨Nat.le_of_ble_eq_true rfl, Nat.le_of_ble_eq_true rfl⟩ (by decide) (eM_0 cy ad _ _) rfl rfl hl.1 rfl (Nat.le_of_ble_eq_true rfl) dX7_laysWay_24 ⟨Nat.zero_le _, Nat.zero_le _⟩ (fun H locs hP hS => ?_)
  refine lv_istore (lv' := [(5, .int r8), (4, .int b5), (3, .int b1), (0, .ref (ad 0)), (1, .int a1), (2, .int a2)]) hx hb dX7_laysWay_27 hl (by decide) rfl (fun ls hl => ?_)
  refine lv_iconst (v := 0) hx hb dX7_laysWay_29 (by decide) ?_
  refine lv_istore (lv' := [(6, .int (0 : Int32)), (5, .int r8), (4, .int b5), (3, .int b1), (0, .ref (ad 0)), (1, .int a1), (2, .int a2)]) hx hb dX7_laysWay_30 hl (by decide) rfl (fun ls hl => ?_)
  refine lv_aload_n hx hb dX7_laysWay_32 rfl (lv_at hl 4 rfl) ?_
  refine gfX7_25 hC hP dX7_laysWay_33 ?_
  refine lv_bipush (v := 37) hx hb dX7_laysWay_36 (by decide) ?_
  refine lv_iload_n hx hb dX7_laysWay_38 rfl (lv_at hl 3 rfl) ?_
  refine lv_imul hx hb dX7_laysWay_39 ?_
  refine lv_iload hx hb dX7_laysWay_40 (lv_at hl 1 rfl) ?_
  obtain ⟨h10, hf⟩ := ck_some hf
  refine gIas hC hP hS 6 (by decide) (fun g9 => eM_6 cy ad g9 _) h10 dX7_laysWay_42 (fun H locs hP hS => ?_)
  obtain ⟨x11, e12, hf⟩ := lt_some hf
  have hP : va_P D vwCl (wG (eM cy ad) 12 ad x11) H := by rw [e12]; exact hP
  refine lv_aload_n hx hb dX7_laysWay_43 rfl (lv_at hl 4 rfl) ?_
  refine gfX7_31 hC hP dX7_laysWay_44 ?_
  refine lv_iload_n hx hb dX7_laysWay_47 rfl (lv_at hl 3 rfl) ?_
  refine lv_iconst (v := 0) hx hb dX7_laysWay_48 (by decide) ?_
  obtain ⟨h13, hf⟩ := ck_some hf
  refine gIas hC hP hS 8 (by decide) (fun g9 => eM_8 cy ad g9 _) h13 dX7_laysWay_49 (fun H locs hP hS => ?_)
  obtain ⟨x14, e15, hf⟩ := lt_some hf
  have hP : va_P D vwCl (wG (eM cy ad) 12 ad x14) H := by rw [e15]; exact hP
  refine lv_iload_n hx hb dX7_laysWay_50 rfl (lv_at hl 6 rfl) ?_
  refine lv_if_ne (tgt := 58) hx hb dX7_laysWay_51 (by decide) (fun c16 => ?_) (fun c16 => ?_)
  · have hf := it_f c16 hf
    refine lv_iconst (v := -1) hx hb dX7_laysWay_58 (by decide) ?_
    exact tX7_laysWay_59 hC F x14 a1 b1 b5 r8 (0 : Int32) (-1 : Int32) hf H locs ls hP hS (lv_sub hl [4, 5, 3, 2, 1, 0] rfl)
  · have hf := it_t c16 hf
    refine lv_iconst (v := 1) hx hb dX7_laysWay_54 (by decide) ?_
    refine lv_goto (tgt := 59) hx hb dX7_laysWay_55 (by decide) ?_
    exact tX7_laysWay_59 hC F x14 a1 b1 b5 r8 (0 : Int32) (1 : Int32) hf H locs ls hP hS (lv_sub hl [4, 5, 3, 2, 1, 0] rfl)
set_option maxHeartbeats 4000000 in
set_option maxRecDepth 100000 in
theorem tX7_laysWays_2b (hC : Cf p s m args meth c cX7_laysWays 2 RX7 none D cy tX tY ad A 12) (F : Nat) {z : Unit × HT} (rec2 : HT → Int32 → Option (Unit × HT)) (hrec2 : ∀ (x : HT) (a1 : Int32), rec2 x a1 = some z → Wd p l e { frames := 5, cells := 0, slots := 0, locals := 123 } s m args below meth c D (eM cy ad) 12 ad A (cQv (eM cy ad) 12 ad D A z) 2 2 [(0, .ref (ad 0)), (1, .int a1)] [] x) : ∀ (x : HT) (a1 : Int32), fX7_laysWays_2b F rec2 x a1 = some z → Wd p l e { frames := 5, cells := 0, slots := 0, locals := 123 } s m args below meth c D (eM cy ad) 12 ad A (cQv (eM cy ad) 12 ad D A z) 2 2 [(0, .ref (ad 0)), (1, .int a1)] [] x := by
  intro x a1 hf H locs ls hP hS hl
  obtain ⟨hx, hb, -⟩ := id hC
  refine lv_iload_n hx hb dX7_laysWays_2 rfl (lv_at hl 1 rfl) ?_
  refine lv_aload_n hx hb dX7_laysWays_3 rfl (lv_at hl 0 rfl) ?_
  refine gfX7_7 hC hP dX7_laysWays_4 ?_
  refine lv_iconst (v := 3) hx hb dX7_laysWays_7 (by decide) ?_
  obtain ⟨h1, hf⟩ := ck_some hf
  refine gIal hC hP 1 (by decide) (eM_1 cy ad _ _) h1 dX7_laysWays_8 ?_
  refine lv_icmp_ge (tgt := 30) hx hb dX7_laysWays_9 (by decide) (fun c2 => ?_) (fun c2 => ?_)
  · have hf := it_t c2 hf
    exact gVret hC hP hS hf dX7_laysWays_30
  · have hf := it_f c2 hf
    refine lv_aload_n hx hb dX7_laysWays_12 rfl (lv_at hl 0 rfl) ?_
    refine lv_iload_n hx hb dX7_laysWays_13 rfl (lv_at hl 1 rfl) ?_
    refine lv_iconst (v := 0) hx hb dX7_laysWays_14 (by decide) ?_
    obtain ⟨r4, x3, e5, hf⟩ := bd_some hf
    refine gVv (As := [.int a1, .int (0 : Int32)]) (rest := []) (k := 0) hC hP hS (kX7_laysWay l D cy tX tY ad A hC.2.2.2.2.2.2.2.2.1 F x a1 (0 : Int32) e5) glX7_84 ⟨rfl, rfl⟩ hdX7_laysWay ⟨Nat.le_of_ble_eq_true rfl, Nat.le_of_ble_eq_true rfl⟩ (by decide) (eM_0 cy ad _ _) rfl rfl hl.1 rfl (Nat.le_of_ble_eq_true rfl) dX7_laysWays_15 ⟨Nat.zero_le _, Nat.zero_le _⟩ (fun H locs hP hS => ?_)
    refine lv_aload_n hx hb dX7_laysWays_18 rfl (lv_at hl 0 rfl) ?_
    refine lv_iload_n hx hb dX7_laysWays_19 rfl (lv_at hl 1 rfl) ?_
    refine lv_iconst (v := 1) hx hb dX7_laysWays_20 (by decide) ?_
    obtain ⟨r7, x6, e8, hf⟩ := bd_some hf
    refine gVv (As := [.int a1, .int (1 : Int32)]) (rest := []) (k := 0) hC hP hS (kX7_laysWay l D cy tX tY ad A hC.2.2.2.2.2.2.2.2.1 F x3 a1 (1 : Int32) e8) glX7_84 ⟨rfl, rfl⟩ hdX7_laysWay ⟨Nat.le_of_ble_eq_true rfl, Nat.le_of_ble_eq_true rfl⟩ (by decide) (eM_0 cy ad _ _) rfl rfl hl.1 rfl (Nat.le_of_ble_eq_true rfl) dX7_laysWays_21 ⟨Nat.zero_le _, Nat.zero_le _⟩ (fun H locs hP hS => ?_)
    obtain ⟨b9, e10, hf⟩ := lt_some hf
    refine lv_iinc (v := b9) (lv' := [(1, .int b9), (0, .ref (ad 0))]) hx hb dX7_laysWays_24 hl (k := 1) rfl (by rw [e10]; rfl) (by decide) rfl (fun ls hl => ?_)
    refine lv_goto (tgt := 2) hx hb dX7_laysWays_27 (by decide) ?_
    exact hrec2 x6 b9 hf H locs ls hP hS (lv_sub hl [1, 0] rfl)
theorem tX7_laysWays_2 (hC : Cf p s m args meth c cX7_laysWays 2 RX7 none D cy tX tY ad A 12) (F : Nat) {z : Unit × HT} : ∀ (n9 : Nat) (x : HT) (a1 : Int32), fX7_laysWays_2 F n9 x a1 = some z → Wd p l e { frames := 5, cells := 0, slots := 0, locals := 123 } s m args below meth c D (eM cy ad) 12 ad A (cQv (eM cy ad) 12 ad D A z) 2 2 [(0, .ref (ad 0)), (1, .int a1)] [] x := by
  intro n9
  induction n9 with
  | zero => intro x a1 hf; cases hf
  | succ n9 ih => intro x a1 hf; exact tX7_laysWays_2b hC F (fX7_laysWays_2 F n9) ih x a1 hf
set_option maxHeartbeats 4000000 in
set_option maxRecDepth 100000 in
theorem kX7_laysWays (l : Launch) (D : va_G) (cy : Nat → ClassId) (tX tY : Nat) (ad : Nat → Nat) (A : Nat → Prop) (hA : apart ad A 12) (F : Nat) (x : HT) {z : Unit × HT} (hf : fX7_laysWays F x = some z) : Met l yX7_laysWays (Cond.code yX7_laysWays cX7_laysWays 2 none :: wAll) { frames := 5, cells := 0, slots := 0, locals := 123 } (cPc (eM cy ad) 12 ad D cy tX tY A [.ref (ad 0)] x) (cQv (eM cy ad) 12 ad D A z) 0 0 A := by
  refine gMet hA (by decide) (Nat.le_of_ble_eq_true rfl) (fun p e s m below meth c hC H locs ls hP hS hl => ?_)
  have hC : Cf p s m _ meth c cX7_laysWays 2 RX7 none D cy tX tY ad A 12 := hC
  have hl : lv_has ls 2 [(0, .ref (ad 0))] := hl
  obtain ⟨hx, hb, -⟩ := id hC
  refine lv_iconst (v := 0) hx hb dX7_laysWays_0 (by decide) ?_
  refine lv_istore_n (lv' := [(1, .int (0 : Int32)), (0, .ref (ad 0))]) hx hb dX7_laysWays_1 rfl hl (by decide) rfl (fun ls hl => ?_)
  exact tX7_laysWays_2 hC F F x (0 : Int32) hf H locs ls hP hS (lv_sub hl [1, 0] rfl)
set_option maxHeartbeats 4000000 in
set_option maxRecDepth 100000 in
theorem kX7_moves (l : Launch) (D : va_G) (cy : Nat → ClassId) (tX tY : Nat) (ad : Nat → Nat) (A : Nat → Prop) (hA : apart ad A 12) (F : Nat) (x : HT) (a1 : Int32) {z : Int32 × HT} (hf : fX7_moves F x a1 = some z) : Met l yX7_moves (Cond.code yX7_moves cX7_moves 2 (some .int) :: wAll) { frames := 1, cells := 0, slots := 0, locals := 22 } (cPc (eM cy ad) 12 ad D cy tX tY A [.ref (ad 0), .int a1] x) (cQi (eM cy ad) 12 ad D A z) 0 0 A := by
  refine gMet hA (by decide) (Nat.le_of_ble_eq_true rfl) (fun p e s m below meth c hC H locs ls hP hS hl => ?_)
  have hC : Cf p s m _ meth c cX7_moves 2 RX7 (some .int) D cy tX tY ad A 12 := hC
  have hl : lv_has ls 2 [(0, .ref (ad 0)), (1, .int a1)] := hl
  obtain ⟨hx, hb, -⟩ := id hC
  refine lv_aload_n hx hb dX7_moves_0 rfl (lv_at hl 0 rfl) ?_
  refine lv_iload_n hx hb dX7_moves_1 rfl (lv_at hl 1 rfl) ?_
  refine lv_iconst (v := 2) hx hb dX7_moves_2 (by decide) ?_
  refine lv_idiv hx hb dX7_moves_3 (by decide) ?_
  refine lv_iconst (v := 4) hx hb dX7_moves_4 (by decide) ?_
  refine lv_iload_n hx hb dX7_moves_5 rfl (lv_at hl 1 rfl) ?_
  refine lv_iconst (v := 2) hx hb dX7_moves_6 (by decide) ?_
  refine lv_irem hx hb dX7_moves_7 (by decide) ?_
  refine lv_iadd hx hb dX7_moves_8 ?_
  obtain ⟨r2, x1, e3, hf⟩ := bd_some hf
  refine gVi (As := [.int (a1 / (2 : Int32)), .int ((4 : Int32) + (a1 - a1 / (2 : Int32) * (2 : Int32)))]) (rest := []) (k := 0) hC hP hS (kX7_of0 l D cy tX tY ad A hC.2.2.2.2.2.2.2.2.1 F x (a1 / (2 : Int32)) ((4 : Int32) + (a1 - a1 / (2 : Int32) * (2 : Int32))) e3) glX7_78 ⟨rfl, rfl⟩ hdX7_of0 ⟨Nat.le_of_ble_eq_true rfl, Nat.le_of_ble_eq_true rfl⟩ (by decide) (eM_0 cy ad _ _) rfl rfl hl.1 rfl (Nat.le_of_ble_eq_true rfl) dX7_moves_9 ⟨Nat.zero_le _, Nat.zero_le _⟩ (fun H locs hP hS => ?_)
  exact gIret hC hP hS hf dX7_moves_12
set_option maxHeartbeats 4000000 in
set_option maxRecDepth 100000 in
theorem tX7_isDone_32 (hC : Cf p s m args meth c cX7_isDone 2 RX7 (some .boolean) D cy tX tY ad A 12) (F : Nat) {z : Int32 × HT} : ∀ (x : HT), fX7_isDone_32 F x = some z → Wd p l e { frames := 2, cells := 0, slots := 0, locals := 43 } s m args below meth c D (eM cy ad) 12 ad A (cQi (eM cy ad) 12 ad D A z) 2 32 [] [] x := by
  intro x hf H locs ls hP hS hl
  obtain ⟨hx, hb, -⟩ := id hC
  refine lv_iconst (v := 1) hx hb dX7_isDone_32 (by decide) ?_
  refine lv_goto (tgt := 37) hx hb dX7_isDone_33 (by decide) ?_
  exact gZret hC hP hS rfl hf dX7_isDone_37
set_option maxHeartbeats 4000000 in
set_option maxRecDepth 100000 in
theorem kX7_isDone (l : Launch) (D : va_G) (cy : Nat → ClassId) (tX tY : Nat) (ad : Nat → Nat) (A : Nat → Prop) (hA : apart ad A 12) (F : Nat) (x : HT) (a1 : Int32) {z : Int32 × HT} (hf : fX7_isDone F x a1 = some z) : Met l yX7_isDone (Cond.code yX7_isDone cX7_isDone 2 (some .boolean) :: wAll) { frames := 2, cells := 0, slots := 0, locals := 43 } (cPc (eM cy ad) 12 ad D cy tX tY A [.ref (ad 0), .int a1] x) (cQi (eM cy ad) 12 ad D A z) 0 0 A := by
  refine gMet hA (by decide) (Nat.le_of_ble_eq_true rfl) (fun p e s m below meth c hC H locs ls hP hS hl => ?_)
  have hC : Cf p s m _ meth c cX7_isDone 2 RX7 (some .boolean) D cy tX tY ad A 12 := hC
  have hl : lv_has ls 2 [(0, .ref (ad 0)), (1, .int a1)] := hl
  obtain ⟨hx, hb, -⟩ := id hC
  refine lv_aload_n hx hb dX7_isDone_0 rfl (lv_at hl 0 rfl) ?_
  refine gfX7_31 hC hP dX7_isDone_1 ?_
  refine lv_iload_n hx hb dX7_isDone_4 rfl (lv_at hl 1 rfl) ?_
  obtain ⟨h1, hf⟩ := ck_some hf
  refine gIal hC hP 8 (by decide) (eM_8 cy ad _ _) h1 dX7_isDone_5 ?_
  refine lv_if_eq (tgt := 32) hx hb dX7_isDone_6 (by decide) (fun c2 => ?_) (fun c2 => ?_)
  · have hf := it_t c2 hf
    exact tX7_isDone_32 hC F x hf H locs ls hP hS (lv_sub hl [] rfl)
  · have hf := it_f c2 hf
    refine lv_aload_n hx hb dX7_isDone_9 rfl (lv_at hl 0 rfl) ?_
    refine lv_iload_n hx hb dX7_isDone_10 rfl (lv_at hl 1 rfl) ?_
    obtain ⟨r4, x3, e5, hf⟩ := bd_some hf
    refine gVi (As := [.int a1]) (rest := []) (k := 0) hC hP hS (kX7_moves l D cy tX tY ad A hC.2.2.2.2.2.2.2.2.1 F x a1 e5) glX7_88 ⟨rfl, rfl⟩ hdX7_moves ⟨Nat.le_of_ble_eq_true rfl, Nat.le_of_ble_eq_true rfl⟩ (by decide) (eM_0 cy ad _ _) rfl rfl hl.1 rfl (Nat.le_of_ble_eq_true rfl) dX7_isDone_11 ⟨Nat.zero_le _, Nat.zero_le _⟩ (fun H locs hP hS => ?_)
    refine lv_aload_n hx hb dX7_isDone_14 rfl (lv_at hl 0 rfl) ?_
    refine gfX7_28 hC hP dX7_isDone_15 ?_
    refine lv_iload_n hx hb dX7_isDone_18 rfl (lv_at hl 1 rfl) ?_
    obtain ⟨h6, hf⟩ := ck_some hf
    refine gIal hC hP 7 (by decide) (eM_7 cy ad _ _) h6 dX7_isDone_19 ?_
    refine lv_aload_n hx hb dX7_isDone_20 rfl (lv_at hl 0 rfl) ?_
    refine lv_iload_n hx hb dX7_isDone_21 rfl (lv_at hl 1 rfl) ?_
    refine lv_iconst (v := 2) hx hb dX7_isDone_22 (by decide) ?_
    refine lv_idiv hx hb dX7_isDone_23 (by decide) ?_
    refine lv_iconst (v := 1) hx hb dX7_isDone_24 (by decide) ?_
    obtain ⟨r8, x7, e9, hf⟩ := bd_some hf
    refine gVi (As := [.int (a1 / (2 : Int32)), .int (1 : Int32)]) (rest := [.int (x3.1 7 a1.toNatClampNeg), .int r4]) (k := 0) hC hP hS (kX7_of0 l D cy tX tY ad A hC.2.2.2.2.2.2.2.2.1 F x3 (a1 / (2 : Int32)) (1 : Int32) e9) glX7_78 ⟨rfl, rfl⟩ hdX7_of0 ⟨Nat.le_of_ble_eq_true rfl, Nat.le_of_ble_eq_true rfl⟩ (by decide) (eM_0 cy ad _ _) rfl rfl hl.1 rfl (Nat.le_of_ble_eq_true rfl) dX7_isDone_25 ⟨Nat.zero_le _, Nat.zero_le _⟩ (fun H locs hP hS => ?_)
    refine lv_iadd hx hb dX7_isDone_28 ?_
    refine lv_icmp_ne (tgt := 36) hx hb dX7_isDone_29 (by decide) (fun c10 => ?_) (fun c10 => ?_)
    · have hf := it_f c10 hf
      refine lv_iconst (v := 0) hx hb dX7_isDone_36 (by decide) ?_
      exact gZret hC hP hS rfl hf dX7_isDone_37
    · have hf := it_t c10 hf
      exact tX7_isDone_32 hC F x7 hf H locs ls hP hS (lv_sub hl [] rfl)
set_option maxHeartbeats 4000000 in
set_option maxRecDepth 100000 in
theorem tX7_wayTo_2b (hC : Cf p s m args meth c cX7_wayTo 4 RX7 (some .int) D cy tX tY ad A 12) (F : Nat) {z : Int32 × HT} (rec2 : HT → Int32 → Int32 → Int32 → Option (Int32 × HT)) (hrec2 : ∀ (x : HT) (a1 : Int32) (a2 : Int32) (a3 : Int32), rec2 x a1 a2 a3 = some z → Wd p l e { frames := 3, cells := 0, slots := 0, locals := 68 } s m args below meth c D (eM cy ad) 12 ad A (cQi (eM cy ad) 12 ad D A z) 4 2 [(0, .ref (ad 0)), (1, .int a1), (2, .int a2), (3, .int a3)] [] x) : ∀ (x : HT) (a1 : Int32) (a2 : Int32) (a3 : Int32), fX7_wayTo_2b F rec2 x a1 a2 a3 = some z → Wd p l e { frames := 3, cells := 0, slots := 0, locals := 68 } s m args below meth c D (eM cy ad) 12 ad A (cQi (eM cy ad) 12 ad D A z) 4 2 [(0, .ref (ad 0)), (1, .int a1), (2, .int a2), (3, .int a3)] [] x := by
  intro x a1 a2 a3 hf H locs ls hP hS hl
  obtain ⟨hx, hb, -⟩ := id hC
  refine lv_aload_n hx hb dX7_wayTo_2 rfl (lv_at hl 0 rfl) ?_
  refine lv_iload_n hx hb dX7_wayTo_3 rfl (lv_at hl 1 rfl) ?_
  refine lv_iload_n hx hb dX7_wayTo_4 rfl (lv_at hl 3 rfl) ?_
  obtain ⟨r2, x1, e3, hf⟩ := bd_some hf
  refine gVi (As := [.int a1, .int a3]) (rest := []) (k := 0) hC hP hS (kX7_beside l D cy tX tY ad A hC.2.2.2.2.2.2.2.2.1 F x a1 a3 e3) glX7_72 ⟨rfl, rfl⟩ hdX7_beside ⟨Nat.le_of_ble_eq_true rfl, Nat.le_of_ble_eq_true rfl⟩ (by decide) (eM_0 cy ad _ _) rfl rfl hl.1 rfl (Nat.le_of_ble_eq_true rfl) dX7_wayTo_5 ⟨Nat.zero_le _, Nat.zero_le _⟩ (fun H locs hP hS => ?_)
  refine lv_iload_n hx hb dX7_wayTo_8 rfl (lv_at hl 2 rfl) ?_
  refine lv_icmp_eq (tgt := 18) hx hb dX7_wayTo_9 (by decide) (fun c4 => ?_) (fun c4 => ?_)
  · have hf := it_t c4 hf
    refine lv_iload_n hx hb dX7_wayTo_18 rfl (lv_at hl 3 rfl) ?_
    exact gIret hC hP hS hf dX7_wayTo_19
  · have hf := it_f c4 hf
    obtain ⟨b5, e6, hf⟩ := lt_some hf
    refine lv_iinc (v := b5) (lv' := [(3, .int b5), (0, .ref (ad 0)), (1, .int a1), (2, .int a2)]) hx hb dX7_wayTo_12 hl (k := 3) rfl (by rw [e6]; rfl) (by decide) rfl (fun ls hl => ?_)
    refine lv_goto (tgt := 2) hx hb dX7_wayTo_15 (by decide) ?_
    exact hrec2 x1 a1 a2 b5 hf H locs ls hP hS (lv_sub hl [1, 2, 3, 0] rfl)
theorem tX7_wayTo_2 (hC : Cf p s m args meth c cX7_wayTo 4 RX7 (some .int) D cy tX tY ad A 12) (F : Nat) {z : Int32 × HT} : ∀ (n9 : Nat) (x : HT) (a1 : Int32) (a2 : Int32) (a3 : Int32), fX7_wayTo_2 F n9 x a1 a2 a3 = some z → Wd p l e { frames := 3, cells := 0, slots := 0, locals := 68 } s m args below meth c D (eM cy ad) 12 ad A (cQi (eM cy ad) 12 ad D A z) 4 2 [(0, .ref (ad 0)), (1, .int a1), (2, .int a2), (3, .int a3)] [] x := by
  intro n9
  induction n9 with
  | zero => intro x a1 a2 a3 hf; cases hf
  | succ n9 ih => intro x a1 a2 a3 hf; exact tX7_wayTo_2b hC F (fX7_wayTo_2 F n9) ih x a1 a2 a3 hf
set_option maxHeartbeats 4000000 in
set_option maxRecDepth 100000 in
theorem kX7_wayTo (l : Launch) (D : va_G) (cy : Nat → ClassId) (tX tY : Nat) (ad : Nat → Nat) (A : Nat → Prop) (hA : apart ad A 12) (F : Nat) (x : HT) (a1 : Int32) (a2 : Int32) {z : Int32 × HT} (hf : fX7_wayTo F x a1 a2 = some z) : Met l yX7_wayTo (Cond.code yX7_wayTo cX7_wayTo 4 (some .int) :: wAll) { frames := 3, cells := 0, slots := 0, locals := 68 } (cPc (eM cy ad) 12 ad D cy tX tY A [.ref (ad 0), .int a1, .int a2] x) (cQi (eM cy ad) 12 ad D A z) 0 0 A := by
  refine gMet hA (by decide) (Nat.le_of_ble_eq_true rfl) (fun p e s m below meth c hC H locs ls hP hS hl => ?_)
  have hC : Cf p s m _ meth c cX7_wayTo 4 RX7 (some .int) D cy tX tY ad A 12 := hC
  have hl : lv_has ls 4 [(0, .ref (ad 0)), (1, .int a1), (2, .int a2)] := hl
  obtain ⟨hx, hb, -⟩ := id hC
  refine lv_iconst (v := 0) hx hb dX7_wayTo_0 (by decide) ?_
  refine lv_istore_n (lv' := [(3, .int (0 : Int32)), (0, .ref (ad 0)), (1, .int a1), (2, .int a2)]) hx hb dX7_wayTo_1 rfl hl (by decide) rfl (fun ls hl => ?_)
  exact tX7_wayTo_2 hC F F x a1 a2 (0 : Int32) hf H locs ls hP hS (lv_sub hl [1, 2, 3, 0] rfl)
set_option maxHeartbeats 4000000 in
set_option maxRecDepth 100000 in
theorem kX7_heldFrom (l : Launch) (D : va_G) (cy : Nat → ClassId) (tX tY : Nat) (ad : Nat → Nat) (A : Nat → Prop) (hA : apart ad A 12) (F : Nat) (x : HT) (a1 : Int32) {z : Int32 × HT} (hf : fX7_heldFrom F x a1 = some z) : Met l yX7_heldFrom (Cond.code yX7_heldFrom cX7_heldFrom 3 (some .int) :: wAll) { frames := 2, cells := 0, slots := 0, locals := 43 } (cPc (eM cy ad) 12 ad D cy tX tY A [.ref (ad 0), .int a1] x) (cQi (eM cy ad) 12 ad D A z) 0 0 A := by
  refine gMet hA (by decide) (Nat.le_of_ble_eq_true rfl) (fun p e s m below meth c hC H locs ls hP hS hl => ?_)
  have hC : Cf p s m _ meth c cX7_heldFrom 3 RX7 (some .int) D cy tX tY ad A 12 := hC
  have hl : lv_has ls 3 [(0, .ref (ad 0)), (1, .int a1)] := hl
  obtain ⟨hx, hb, -⟩ := id hC
  refine lv_aload_n hx hb dX7_heldFrom_0 rfl (lv_at hl 0 rfl) ?_
  refine lv_iload_n hx hb dX7_heldFrom_1 rfl (lv_at hl 1 rfl) ?_
  obtain ⟨r2, x1, e3, hf⟩ := bd_some hf
  refine gVi (As := [.int a1]) (rest := []) (k := 0) hC hP hS (kX7_moves l D cy tX tY ad A hC.2.2.2.2.2.2.2.2.1 F x a1 e3) glX7_88 ⟨rfl, rfl⟩ hdX7_moves ⟨Nat.le_of_ble_eq_true rfl, Nat.le_of_ble_eq_true rfl⟩ (by decide) (eM_0 cy ad _ _) rfl rfl hl.1 rfl (Nat.le_of_ble_eq_true rfl) dX7_heldFrom_2 ⟨Nat.zero_le _, Nat.zero_le _⟩ (fun H locs hP hS => ?_)
  refine lv_aload_n hx hb dX7_heldFrom_5 rfl (lv_at hl 0 rfl) ?_
  refine lv_iload_n hx hb dX7_heldFrom_6 rfl (lv_at hl 1 rfl) ?_
  refine lv_iconst (v := 2) hx hb dX7_heldFrom_7 (by decide) ?_
  refine lv_idiv hx hb dX7_heldFrom_8 (by decide) ?_
  refine lv_iconst (v := 1) hx hb dX7_heldFrom_9 (by decide) ?_
  obtain ⟨r5, x4, e6, hf⟩ := bd_some hf
  refine gVi (As := [.int (a1 / (2 : Int32)), .int (1 : Int32)]) (rest := [.int r2]) (k := 0) hC hP hS (kX7_of0 l D cy tX tY ad A hC.2.2.2.2.2.2.2.2.1 F x1 (a1 / (2 : Int32)) (1 : Int32) e6) glX7_78 ⟨rfl, rfl⟩ hdX7_of0 ⟨Nat.le_of_ble_eq_true rfl, Nat.le_of_ble_eq_true rfl⟩ (by decide) (eM_0 cy ad _ _) rfl rfl hl.1 rfl (Nat.le_of_ble_eq_true rfl) dX7_heldFrom_10 ⟨Nat.zero_le _, Nat.zero_le _⟩ (fun H locs hP hS => ?_)
  refine lv_isub hx hb dX7_heldFrom_13 ?_
  refine lv_topi (fun b7 e8 => ?_)
  have hf := lt_use e8 hf
  refine lv_istore_n (lv' := [(2, .int b7), (0, .ref (ad 0)), (1, .int a1)]) hx hb dX7_heldFrom_14 rfl hl (by decide) rfl (fun ls hl => ?_)
  refine lv_iload_n hx hb dX7_heldFrom_15 rfl (lv_at hl 0 rfl) ?_
  refine lv_if_ge (tgt := 23) hx hb dX7_heldFrom_16 (by decide) (fun c9 => ?_) (fun c9 => ?_)
  · have hf := it_t c9 hf
    refine lv_iload_n hx hb dX7_heldFrom_23 rfl (lv_at hl 0 rfl) ?_
    exact gIret hC hP hS hf dX7_heldFrom_24
  · have hf := it_f c9 hf
    refine lv_iconst (v := 0) hx hb dX7_heldFrom_19 (by decide) ?_
    refine lv_goto (tgt := 24) hx hb dX7_heldFrom_20 (by decide) ?_
    exact gIret hC hP hS hf dX7_heldFrom_24
set_option maxHeartbeats 4000000 in
set_option maxRecDepth 100000 in
theorem kX7_heldTo (l : Launch) (D : va_G) (cy : Nat → ClassId) (tX tY : Nat) (ad : Nat → Nat) (A : Nat → Prop) (hA : apart ad A 12) (F : Nat) (x : HT) (a1 : Int32) {z : Int32 × HT} (hf : fX7_heldTo F x a1 = some z) : Met l yX7_heldTo (Cond.code yX7_heldTo cX7_heldTo 2 (some .int) :: wAll) { frames := 2, cells := 0, slots := 0, locals := 43 } (cPc (eM cy ad) 12 ad D cy tX tY A [.ref (ad 0), .int a1] x) (cQi (eM cy ad) 12 ad D A z) 0 0 A := by
  refine gMet hA (by decide) (Nat.le_of_ble_eq_true rfl) (fun p e s m below meth c hC H locs ls hP hS hl => ?_)
  have hC : Cf p s m _ meth c cX7_heldTo 2 RX7 (some .int) D cy tX tY ad A 12 := hC
  have hl : lv_has ls 2 [(0, .ref (ad 0)), (1, .int a1)] := hl
  obtain ⟨hx, hb, -⟩ := id hC
  refine lv_aload_n hx hb dX7_heldTo_0 rfl (lv_at hl 0 rfl) ?_
  refine lv_iload_n hx hb dX7_heldTo_1 rfl (lv_at hl 1 rfl) ?_
  obtain ⟨r2, x1, e3, hf⟩ := bd_some hf
  refine gVi (As := [.int a1]) (rest := []) (k := 0) hC hP hS (kX7_moves l D cy tX tY ad A hC.2.2.2.2.2.2.2.2.1 F x a1 e3) glX7_88 ⟨rfl, rfl⟩ hdX7_moves ⟨Nat.le_of_ble_eq_true rfl, Nat.le_of_ble_eq_true rfl⟩ (by decide) (eM_0 cy ad _ _) rfl rfl hl.1 rfl (Nat.le_of_ble_eq_true rfl) dX7_heldTo_2 ⟨Nat.zero_le _, Nat.zero_le _⟩ (fun H locs hP hS => ?_)
  refine lv_aload_n hx hb dX7_heldTo_5 rfl (lv_at hl 0 rfl) ?_
  refine gfX7_28 hC hP dX7_heldTo_6 ?_
  refine lv_iload_n hx hb dX7_heldTo_9 rfl (lv_at hl 1 rfl) ?_
  obtain ⟨h4, hf⟩ := ck_some hf
  refine gIal hC hP 7 (by decide) (eM_7 cy ad _ _) h4 dX7_heldTo_10 ?_
  refine lv_icmp_ge (tgt := 22) hx hb dX7_heldTo_11 (by decide) (fun c5 => ?_) (fun c5 => ?_)
  · have hf := it_t c5 hf
    refine lv_aload_n hx hb dX7_heldTo_22 rfl (lv_at hl 0 rfl) ?_
    refine gfX7_28 hC hP dX7_heldTo_23 ?_
    refine lv_iload_n hx hb dX7_heldTo_26 rfl (lv_at hl 1 rfl) ?_
    obtain ⟨h6, hf⟩ := ck_some hf
    refine gIal hC hP 7 (by decide) (eM_7 cy ad _ _) h6 dX7_heldTo_27 ?_
    exact gIret hC hP hS hf dX7_heldTo_28
  · have hf := it_f c5 hf
    refine lv_aload_n hx hb dX7_heldTo_14 rfl (lv_at hl 0 rfl) ?_
    refine lv_iload_n hx hb dX7_heldTo_15 rfl (lv_at hl 1 rfl) ?_
    obtain ⟨r8, x7, e9, hf⟩ := bd_some hf
    refine gVi (As := [.int a1]) (rest := []) (k := 0) hC hP hS (kX7_moves l D cy tX tY ad A hC.2.2.2.2.2.2.2.2.1 F x1 a1 e9) glX7_88 ⟨rfl, rfl⟩ hdX7_moves ⟨Nat.le_of_ble_eq_true rfl, Nat.le_of_ble_eq_true rfl⟩ (by decide) (eM_0 cy ad _ _) rfl rfl hl.1 rfl (Nat.le_of_ble_eq_true rfl) dX7_heldTo_16 ⟨Nat.zero_le _, Nat.zero_le _⟩ (fun H locs hP hS => ?_)
    refine lv_goto (tgt := 28) hx hb dX7_heldTo_19 (by decide) ?_
    exact gIret hC hP hS hf dX7_heldTo_28
set_option maxHeartbeats 4000000 in
set_option maxRecDepth 100000 in
theorem tX7_isHeldBy_64 (hC : Cf p s m args meth c cX7_isHeldBy 6 RX7 (some .boolean) D cy tX tY ad A 12) (F : Nat) {z : Int32 × HT} (rec10 : HT → Int32 → Int32 → Int32 → Int32 → Int32 → Option (Int32 × HT)) (hrec10 : ∀ (x : HT) (a1 : Int32) (a2 : Int32) (a3 : Int32) (a4 : Int32) (a5 : Int32), rec10 x a1 a2 a3 a4 a5 = some z → Wd p l e { frames := 3, cells := 0, slots := 0, locals := 65 } s m args below meth c D (eM cy ad) 12 ad A (cQi (eM cy ad) 12 ad D A z) 6 10 [(0, .ref (ad 0)), (1, .int a1), (2, .int a2), (3, .int a3), (4, .int a4), (5, .int a5)] [] x) : ∀ (x : HT) (a1 : Int32) (a2 : Int32) (a3 : Int32) (a5 : Int32) (t0 : Int32), fX7_isHeldBy_64 F rec10 x a1 a2 a3 a5 t0 = some z → Wd p l e { frames := 3, cells := 0, slots := 0, locals := 65 } s m args below meth c D (eM cy ad) 12 ad A (cQi (eM cy ad) 12 ad D A z) 6 64 [(0, .ref (ad 0)), (1, .int a1), (2, .int a2), (3, .int a3), (5, .int a5)] [.int t0] x := by
  intro x a1 a2 a3 a5 t0 hf H locs ls hP hS hl
  obtain ⟨hx, hb, -⟩ := id hC
  refine lv_istore (lv' := [(4, .int t0), (0, .ref (ad 0)), (1, .int a1), (2, .int a2), (3, .int a3), (5, .int a5)]) hx hb dX7_isHeldBy_64 hl (by decide) rfl (fun ls hl => ?_)
  obtain ⟨b14, e15, hf⟩ := lt_some hf
  refine lv_iinc (v := b14) (lv' := [(5, .int b14), (4, .int t0), (0, .ref (ad 0)), (1, .int a1), (2, .int a2), (3, .int a3)]) hx hb dX7_isHeldBy_66 hl (k := 5) rfl (by rw [e15]; rfl) (by decide) rfl (fun ls hl => ?_)
  refine lv_goto (tgt := 10) hx hb dX7_isHeldBy_69 (by decide) ?_
  exact hrec10 x a1 a2 a3 t0 b14 hf H locs ls hP hS (lv_sub hl [2, 3, 4, 5, 1, 0] rfl)
set_option maxHeartbeats 4000000 in
set_option maxRecDepth 100000 in
theorem tX7_isHeldBy_63 (hC : Cf p s m args meth c cX7_isHeldBy 6 RX7 (some .boolean) D cy tX tY ad A 12) (F : Nat) {z : Int32 × HT} (rec10 : HT → Int32 → Int32 → Int32 → Int32 → Int32 → Option (Int32 × HT)) (hrec10 : ∀ (x : HT) (a1 : Int32) (a2 : Int32) (a3 : Int32) (a4 : Int32) (a5 : Int32), rec10 x a1 a2 a3 a4 a5 = some z → Wd p l e { frames := 3, cells := 0, slots := 0, locals := 65 } s m args below meth c D (eM cy ad) 12 ad A (cQi (eM cy ad) 12 ad D A z) 6 10 [(0, .ref (ad 0)), (1, .int a1), (2, .int a2), (3, .int a3), (4, .int a4), (5, .int a5)] [] x) : ∀ (x : HT) (a1 : Int32) (a2 : Int32) (a3 : Int32) (a5 : Int32), fX7_isHeldBy_63 F rec10 x a1 a2 a3 a5 = some z → Wd p l e { frames := 3, cells := 0, slots := 0, locals := 65 } s m args below meth c D (eM cy ad) 12 ad A (cQi (eM cy ad) 12 ad D A z) 6 63 [(0, .ref (ad 0)), (1, .int a1), (2, .int a2), (3, .int a3), (5, .int a5)] [] x := by
  intro x a1 a2 a3 a5 hf H locs ls hP hS hl
  obtain ⟨hx, hb, -⟩ := id hC
  refine lv_iconst (v := 0) hx hb dX7_isHeldBy_63 (by decide) ?_
  exact tX7_isHeldBy_64 hC F rec10 hrec10 x a1 a2 a3 a5 (0 : Int32) hf H locs ls hP hS (lv_sub hl [0, 1, 2, 3, 4] rfl)
set_option maxHeartbeats 4000000 in
set_option maxRecDepth 100000 in
theorem tX7_isHeldBy_59 (hC : Cf p s m args meth c cX7_isHeldBy 6 RX7 (some .boolean) D cy tX tY ad A 12) (F : Nat) {z : Int32 × HT} (rec10 : HT → Int32 → Int32 → Int32 → Int32 → Int32 → Option (Int32 × HT)) (hrec10 : ∀ (x : HT) (a1 : Int32) (a2 : Int32) (a3 : Int32) (a4 : Int32) (a5 : Int32), rec10 x a1 a2 a3 a4 a5 = some z → Wd p l e { frames := 3, cells := 0, slots := 0, locals := 65 } s m args below meth c D (eM cy ad) 12 ad A (cQi (eM cy ad) 12 ad D A z) 6 10 [(0, .ref (ad 0)), (1, .int a1), (2, .int a2), (3, .int a3), (4, .int a4), (5, .int a5)] [] x) : ∀ (x : HT) (a1 : Int32) (a2 : Int32) (a3 : Int32) (a5 : Int32), fX7_isHeldBy_59 F rec10 x a1 a2 a3 a5 = some z → Wd p l e { frames := 3, cells := 0, slots := 0, locals := 65 } s m args below meth c D (eM cy ad) 12 ad A (cQi (eM cy ad) 12 ad D A z) 6 59 [(0, .ref (ad 0)), (1, .int a1), (2, .int a2), (3, .int a3), (5, .int a5)] [] x := by
  intro x a1 a2 a3 a5 hf H locs ls hP hS hl
  obtain ⟨hx, hb, -⟩ := id hC
  refine lv_iconst (v := 1) hx hb dX7_isHeldBy_59 (by decide) ?_
  refine lv_goto (tgt := 64) hx hb dX7_isHeldBy_60 (by decide) ?_
  exact tX7_isHeldBy_64 hC F rec10 hrec10 x a1 a2 a3 a5 (1 : Int32) hf H locs ls hP hS (lv_sub hl [0, 1, 2, 3, 4] rfl)
set_option maxHeartbeats 4000000 in
set_option maxRecDepth 100000 in
theorem tX7_isHeldBy_10b (hC : Cf p s m args meth c cX7_isHeldBy 6 RX7 (some .boolean) D cy tX tY ad A 12) (F : Nat) {z : Int32 × HT} (rec10 : HT → Int32 → Int32 → Int32 → Int32 → Int32 → Option (Int32 × HT)) (hrec10 : ∀ (x : HT) (a1 : Int32) (a2 : Int32) (a3 : Int32) (a4 : Int32) (a5 : Int32), rec10 x a1 a2 a3 a4 a5 = some z → Wd p l e { frames := 3, cells := 0, slots := 0, locals := 65 } s m args below meth c D (eM cy ad) 12 ad A (cQi (eM cy ad) 12 ad D A z) 6 10 [(0, .ref (ad 0)), (1, .int a1), (2, .int a2), (3, .int a3), (4, .int a4), (5, .int a5)] [] x) : ∀ (x : HT) (a1 : Int32) (a2 : Int32) (a3 : Int32) (a4 : Int32) (a5 : Int32), fX7_isHeldBy_10b F rec10 x a1 a2 a3 a4 a5 = some z → Wd p l e { frames := 3, cells := 0, slots := 0, locals := 65 } s m args below meth c D (eM cy ad) 12 ad A (cQi (eM cy ad) 12 ad D A z) 6 10 [(0, .ref (ad 0)), (1, .int a1), (2, .int a2), (3, .int a3), (4, .int a4), (5, .int a5)] [] x := by
  intro x a1 a2 a3 a4 a5 hf H locs ls hP hS hl
  obtain ⟨hx, hb, -⟩ := id hC
  refine lv_iload hx hb dX7_isHeldBy_10 (lv_at hl 5 rfl) ?_
  refine lv_aload_n hx hb dX7_isHeldBy_12 rfl (lv_at hl 0 rfl) ?_
  refine lv_iload_n hx hb dX7_isHeldBy_13 rfl (lv_at hl 1 rfl) ?_
  obtain ⟨r5, x4, e6, hf⟩ := bd_some hf
  refine gVi (As := [.int a1]) (rest := [.int a5]) (k := 0) hC hP hS (kX7_heldTo l D cy tX tY ad A hC.2.2.2.2.2.2.2.2.1 F x a1 e6) glX7_94 ⟨rfl, rfl⟩ hdX7_heldTo ⟨Nat.le_of_ble_eq_true rfl, Nat.le_of_ble_eq_true rfl⟩ (by decide) (eM_0 cy ad _ _) rfl rfl hl.1 rfl (Nat.le_of_ble_eq_true rfl) dX7_isHeldBy_14 ⟨Nat.zero_le _, Nat.zero_le _⟩ (fun H locs hP hS => ?_)
  refine lv_icmp_ge (tgt := 72) hx hb dX7_isHeldBy_17 (by decide) (fun c7 => ?_) (fun c7 => ?_)
  · have hf := it_t c7 hf
    refine lv_iload hx hb dX7_isHeldBy_72 (lv_at hl 4 rfl) ?_
    obtain ⟨h8, hf⟩ := ck_some hf
    exact gZret hC hP hS h8 hf dX7_isHeldBy_74
  · have hf := it_f c7 hf
    refine lv_iload hx hb dX7_isHeldBy_20 (lv_at hl 4 rfl) ?_
    refine lv_if_ne (tgt := 59) hx hb dX7_isHeldBy_22 (by decide) (fun c9 => ?_) (fun c9 => ?_)
    · have hf := it_f c9 hf
      exact tX7_isHeldBy_59 hC F rec10 hrec10 x4 a1 a2 a3 a5 hf H locs ls hP hS (lv_sub hl [0, 1, 2, 3, 5] rfl)
    · have hf := it_t c9 hf
      refine lv_aload_n hx hb dX7_isHeldBy_25 rfl (lv_at hl 0 rfl) ?_
      refine gfX7_25 hC hP dX7_isHeldBy_26 ?_
      refine lv_bipush (v := 37) hx hb dX7_isHeldBy_29 (by decide) ?_
      refine lv_iload_n hx hb dX7_isHeldBy_31 rfl (lv_at hl 1 rfl) ?_
      refine lv_imul hx hb dX7_isHeldBy_32 ?_
      refine lv_iload hx hb dX7_isHeldBy_33 (lv_at hl 5 rfl) ?_
      refine lv_iadd hx hb dX7_isHeldBy_35 ?_
      obtain ⟨h10, hf⟩ := ck_some hf
      refine gIal hC hP 6 (by decide) (eM_6 cy ad _ _) h10 dX7_isHeldBy_36 ?_
      refine lv_iload_n hx hb dX7_isHeldBy_37 rfl (lv_at hl 2 rfl) ?_
      refine lv_icmp_ne (tgt := 63) hx hb dX7_isHeldBy_38 (by decide) (fun c11 => ?_) (fun c11 => ?_)
      · have hf := it_f c11 hf
        exact tX7_isHeldBy_63 hC F rec10 hrec10 x4 a1 a2 a3 a5 hf H locs ls hP hS (lv_sub hl [0, 1, 2, 3, 5] rfl)
      · have hf := it_t c11 hf
        refine lv_aload_n hx hb dX7_isHeldBy_41 rfl (lv_at hl 0 rfl) ?_
        refine gfX7_25 hC hP dX7_isHeldBy_42 ?_
        refine lv_bipush (v := 37) hx hb dX7_isHeldBy_45 (by decide) ?_
        refine lv_iload_n hx hb dX7_isHeldBy_47 rfl (lv_at hl 1 rfl) ?_
        refine lv_imul hx hb dX7_isHeldBy_48 ?_
        refine lv_iload hx hb dX7_isHeldBy_49 (lv_at hl 5 rfl) ?_
        refine lv_iadd hx hb dX7_isHeldBy_51 ?_
        refine lv_iconst (v := 1) hx hb dX7_isHeldBy_52 (by decide) ?_
        refine lv_iadd hx hb dX7_isHeldBy_53 ?_
        obtain ⟨h12, hf⟩ := ck_some hf
        refine gIal hC hP 6 (by decide) (eM_6 cy ad _ _) h12 dX7_isHeldBy_54 ?_
        refine lv_iload_n hx hb dX7_isHeldBy_55 rfl (lv_at hl 3 rfl) ?_
        refine lv_icmp_ne (tgt := 63) hx hb dX7_isHeldBy_56 (by decide) (fun c13 => ?_) (fun c13 => ?_)
        · have hf := it_f c13 hf
          exact tX7_isHeldBy_63 hC F rec10 hrec10 x4 a1 a2 a3 a5 hf H locs ls hP hS (lv_sub hl [0, 1, 2, 3, 5] rfl)
        · have hf := it_t c13 hf
          exact tX7_isHeldBy_59 hC F rec10 hrec10 x4 a1 a2 a3 a5 hf H locs ls hP hS (lv_sub hl [0, 1, 2, 3, 5] rfl)
theorem tX7_isHeldBy_10 (hC : Cf p s m args meth c cX7_isHeldBy 6 RX7 (some .boolean) D cy tX tY ad A 12) (F : Nat) {z : Int32 × HT} : ∀ (n9 : Nat) (x : HT) (a1 : Int32) (a2 : Int32) (a3 : Int32) (a4 : Int32) (a5 : Int32), fX7_isHeldBy_10 F n9 x a1 a2 a3 a4 a5 = some z → Wd p l e { frames := 3, cells := 0, slots := 0, locals := 65 } s m args below meth c D (eM cy ad) 12 ad A (cQi (eM cy ad) 12 ad D A z) 6 10 [(0, .ref (ad 0)), (1, .int a1), (2, .int a2), (3, .int a3), (4, .int a4), (5, .int a5)] [] x := by
  intro n9
  induction n9 with
  | zero => intro x a1 a2 a3 a4 a5 hf; cases hf
  | succ n9 ih => intro x a1 a2 a3 a4 a5 hf; exact tX7_isHeldBy_10b hC F (fX7_isHeldBy_10 F n9) ih x a1 a2 a3 a4 a5 hf
set_option maxHeartbeats 4000000 in
set_option maxRecDepth 100000 in
theorem kX7_isHeldBy (l : Launch) (D : va_G) (cy : Nat → ClassId) (tX tY : Nat) (ad : Nat → Nat) (A : Nat → Prop) (hA : apart ad A 12) (F : Nat) (x : HT) (a1 : Int32) (a2 : Int32) (a3 : Int32) {z : Int32 × HT} (hf : fX7_isHeldBy F x a1 a2 a3 = some z) : Met l yX7_isHeldBy (Cond.code yX7_isHeldBy cX7_isHeldBy 6 (some .boolean) :: wAll) { frames := 3, cells := 0, slots := 0, locals := 65 } (cPc (eM cy ad) 12 ad D cy tX tY A [.ref (ad 0), .int a1, .int a2, .int a3] x) (cQi (eM cy ad) 12 ad D A z) 0 0 A := by
  refine gMet hA (by decide) (Nat.le_of_ble_eq_true rfl) (fun p e s m below meth c hC H locs ls hP hS hl => ?_)
  have hC : Cf p s m _ meth c cX7_isHeldBy 6 RX7 (some .boolean) D cy tX tY ad A 12 := hC
  have hl : lv_has ls 6 [(0, .ref (ad 0)), (1, .int a1), (2, .int a2), (3, .int a3)] := hl
  obtain ⟨hx, hb, -⟩ := id hC
  refine lv_iconst (v := 0) hx hb dX7_isHeldBy_0 (by decide) ?_
  refine lv_istore (lv' := [(4, .int (0 : Int32)), (0, .ref (ad 0)), (1, .int a1), (2, .int a2), (3, .int a3)]) hx hb dX7_isHeldBy_1 hl (by decide) rfl (fun ls hl => ?_)
  refine lv_aload_n hx hb dX7_isHeldBy_3 rfl (lv_at hl 1 rfl) ?_
  refine lv_iload_n hx hb dX7_isHeldBy_4 rfl (lv_at hl 2 rfl) ?_
  obtain ⟨r2, x1, e3, hf⟩ := bd_some hf
  refine gVi (As := [.int a1]) (rest := []) (k := 0) hC hP hS (kX7_heldFrom l D cy tX tY ad A hC.2.2.2.2.2.2.2.2.1 F x a1 e3) glX7_91 ⟨rfl, rfl⟩ hdX7_heldFrom ⟨Nat.le_of_ble_eq_true rfl, Nat.le_of_ble_eq_true rfl⟩ (by decide) (eM_0 cy ad _ _) rfl rfl hl.1 rfl (Nat.le_of_ble_eq_true rfl) dX7_isHeldBy_5 ⟨Nat.zero_le _, Nat.zero_le _⟩ (fun H locs hP hS => ?_)
  refine lv_istore (lv' := [(5, .int r2), (4, .int (0 : Int32)), (0, .ref (ad 0)), (1, .int a1), (2, .int a2), (3, .int a3)]) hx hb dX7_isHeldBy_8 hl (by decide) rfl (fun ls hl => ?_)
  exact tX7_isHeldBy_10 hC F F x1 a1 a2 a3 (0 : Int32) r2 hf H locs ls hP hS (lv_sub hl [2, 3, 4, 5, 1, 0] rfl)
set_option maxHeartbeats 4000000 in
set_option maxRecDepth 100000 in
theorem tX7_holder_40 (hC : Cf p s m args meth c cX7_holder 5 RX7 (some .int) D cy tX tY ad A 12) (F : Nat) {z : Int32 × HT} (rec5 : HT → Int32 → Int32 → Int32 → Int32 → Option (Int32 × HT)) (hrec5 : ∀ (x : HT) (a1 : Int32) (a2 : Int32) (a3 : Int32) (a4 : Int32), rec5 x a1 a2 a3 a4 = some z → Wd p l e { frames := 4, cells := 0, slots := 0, locals := 90 } s m args below meth c D (eM cy ad) 12 ad A (cQi (eM cy ad) 12 ad D A z) 5 5 [(0, .ref (ad 0)), (1, .int a1), (2, .int a2), (3, .int a3), (4, .int a4)] [] x) : ∀ (x : HT) (a1 : Int32) (a2 : Int32) (a4 : Int32) (t0 : Int32), fX7_holder_40 F rec5 x a1 a2 a4 t0 = some z → Wd p l e { frames := 4, cells := 0, slots := 0, locals := 90 } s m args below meth c D (eM cy ad) 12 ad A (cQi (eM cy ad) 12 ad D A z) 5 40 [(0, .ref (ad 0)), (1, .int a1), (2, .int a2), (4, .int a4)] [.int t0] x := by
  intro x a1 a2 a4 t0 hf H locs ls hP hS hl
  obtain ⟨hx, hb, -⟩ := id hC
  refine lv_istore_n (lv' := [(3, .int t0), (0, .ref (ad 0)), (1, .int a1), (2, .int a2), (4, .int a4)]) hx hb dX7_holder_40 rfl hl (by decide) rfl (fun ls hl => ?_)
  obtain ⟨b8, e9, hf⟩ := lt_some hf
  refine lv_iinc (v := b8) (lv' := [(4, .int b8), (3, .int t0), (0, .ref (ad 0)), (1, .int a1), (2, .int a2)]) hx hb dX7_holder_41 hl (k := 4) rfl (by rw [e9]; rfl) (by decide) rfl (fun ls hl => ?_)
  refine lv_goto (tgt := 5) hx hb dX7_holder_44 (by decide) ?_
  exact hrec5 x a1 a2 t0 b8 hf H locs ls hP hS (lv_sub hl [2, 3, 4, 1, 0] rfl)
set_option maxHeartbeats 4000000 in
set_option maxRecDepth 100000 in
theorem tX7_holder_39 (hC : Cf p s m args meth c cX7_holder 5 RX7 (some .int) D cy tX tY ad A 12) (F : Nat) {z : Int32 × HT} (rec5 : HT → Int32 → Int32 → Int32 → Int32 → Option (Int32 × HT)) (hrec5 : ∀ (x : HT) (a1 : Int32) (a2 : Int32) (a3 : Int32) (a4 : Int32), rec5 x a1 a2 a3 a4 = some z → Wd p l e { frames := 4, cells := 0, slots := 0, locals := 90 } s m args below meth c D (eM cy ad) 12 ad A (cQi (eM cy ad) 12 ad D A z) 5 5 [(0, .ref (ad 0)), (1, .int a1), (2, .int a2), (3, .int a3), (4, .int a4)] [] x) : ∀ (x : HT) (a1 : Int32) (a2 : Int32) (a3 : Int32) (a4 : Int32), fX7_holder_39 F rec5 x a1 a2 a3 a4 = some z → Wd p l e { frames := 4, cells := 0, slots := 0, locals := 90 } s m args below meth c D (eM cy ad) 12 ad A (cQi (eM cy ad) 12 ad D A z) 5 39 [(0, .ref (ad 0)), (1, .int a1), (2, .int a2), (3, .int a3), (4, .int a4)] [] x := by
  intro x a1 a2 a3 a4 hf H locs ls hP hS hl
  obtain ⟨hx, hb, -⟩ := id hC
  refine lv_iload_n hx hb dX7_holder_39 rfl (lv_at hl 3 rfl) ?_
  exact tX7_holder_40 hC F rec5 hrec5 x a1 a2 a4 a3 hf H locs ls hP hS (lv_sub hl [0, 1, 2, 4] rfl)
set_option maxHeartbeats 4000000 in
set_option maxRecDepth 100000 in
theorem tX7_holder_5b (hC : Cf p s m args meth c cX7_holder 5 RX7 (some .int) D cy tX tY ad A 12) (F : Nat) {z : Int32 × HT} (rec5 : HT → Int32 → Int32 → Int32 → Int32 → Option (Int32 × HT)) (hrec5 : ∀ (x : HT) (a1 : Int32) (a2 : Int32) (a3 : Int32) (a4 : Int32), rec5 x a1 a2 a3 a4 = some z → Wd p l e { frames := 4, cells := 0, slots := 0, locals := 90 } s m args below meth c D (eM cy ad) 12 ad A (cQi (eM cy ad) 12 ad D A z) 5 5 [(0, .ref (ad 0)), (1, .int a1), (2, .int a2), (3, .int a3), (4, .int a4)] [] x) : ∀ (x : HT) (a1 : Int32) (a2 : Int32) (a3 : Int32) (a4 : Int32), fX7_holder_5b F rec5 x a1 a2 a3 a4 = some z → Wd p l e { frames := 4, cells := 0, slots := 0, locals := 90 } s m args below meth c D (eM cy ad) 12 ad A (cQi (eM cy ad) 12 ad D A z) 5 5 [(0, .ref (ad 0)), (1, .int a1), (2, .int a2), (3, .int a3), (4, .int a4)] [] x := by
  intro x a1 a2 a3 a4 hf H locs ls hP hS hl
  obtain ⟨hx, hb, -⟩ := id hC
  refine lv_iload hx hb dX7_holder_5 (lv_at hl 4 rfl) ?_
  refine lv_iconst (v := 2) hx hb dX7_holder_7 (by decide) ?_
  refine lv_aload_n hx hb dX7_holder_8 rfl (lv_at hl 0 rfl) ?_
  refine gfX7_7 hC hP dX7_holder_9 ?_
  refine lv_iconst (v := 3) hx hb dX7_holder_12 (by decide) ?_
  obtain ⟨h1, hf⟩ := ck_some hf
  refine gIal hC hP 1 (by decide) (eM_1 cy ad _ _) h1 dX7_holder_13 ?_
  refine lv_imul hx hb dX7_holder_14 ?_
  refine lv_icmp_ge (tgt := 47) hx hb dX7_holder_15 (by decide) (fun c2 => ?_) (fun c2 => ?_)
  · have hf := it_t c2 hf
    refine lv_iload_n hx hb dX7_holder_47 rfl (lv_at hl 3 rfl) ?_
    exact gIret hC hP hS hf dX7_holder_48
  · have hf := it_f c2 hf
    refine lv_iload_n hx hb dX7_holder_18 rfl (lv_at hl 3 rfl) ?_
    refine lv_iconst (v := -1) hx hb dX7_holder_19 (by decide) ?_
    refine lv_icmp_ne (tgt := 39) hx hb dX7_holder_20 (by decide) (fun c3 => ?_) (fun c3 => ?_)
    · have hf := it_f c3 hf
      exact tX7_holder_39 hC F rec5 hrec5 x a1 a2 a3 a4 hf H locs ls hP hS (lv_sub hl [0, 1, 2, 3, 4] rfl)
    · have hf := it_t c3 hf
      refine lv_aload_n hx hb dX7_holder_23 rfl (lv_at hl 0 rfl) ?_
      refine lv_iload hx hb dX7_holder_24 (lv_at hl 4 rfl) ?_
      refine lv_iload_n hx hb dX7_holder_26 rfl (lv_at hl 1 rfl) ?_
      refine lv_iload_n hx hb dX7_holder_27 rfl (lv_at hl 2 rfl) ?_
      obtain ⟨r5, x4, e6, hf⟩ := bd_some hf
      refine gVi (As := [.int a4, .int a1, .int a2]) (rest := []) (k := 0) hC hP hS (kX7_isHeldBy l D cy tX tY ad A hC.2.2.2.2.2.2.2.2.1 F x a4 a1 a2 e6) glX7_97 ⟨rfl, rfl⟩ hdX7_isHeldBy ⟨Nat.le_of_ble_eq_true rfl, Nat.le_of_ble_eq_true rfl⟩ (by decide) (eM_0 cy ad _ _) rfl rfl hl.1 rfl (Nat.le_of_ble_eq_true rfl) dX7_holder_28 ⟨Nat.zero_le _, Nat.zero_le _⟩ (fun H locs hP hS => ?_)
      refine lv_if_eq (tgt := 39) hx hb dX7_holder_31 (by decide) (fun c7 => ?_) (fun c7 => ?_)
      · have hf := it_t c7 hf
        exact tX7_holder_39 hC F rec5 hrec5 x4 a1 a2 a3 a4 hf H locs ls hP hS (lv_sub hl [0, 1, 2, 3, 4] rfl)
      · have hf := it_f c7 hf
        refine lv_iload hx hb dX7_holder_34 (lv_at hl 4 rfl) ?_
        refine lv_goto (tgt := 40) hx hb dX7_holder_36 (by decide) ?_
        exact tX7_holder_40 hC F rec5 hrec5 x4 a1 a2 a4 a4 hf H locs ls hP hS (lv_sub hl [0, 1, 2, 4] rfl)
theorem tX7_holder_5 (hC : Cf p s m args meth c cX7_holder 5 RX7 (some .int) D cy tX tY ad A 12) (F : Nat) {z : Int32 × HT} : ∀ (n9 : Nat) (x : HT) (a1 : Int32) (a2 : Int32) (a3 : Int32) (a4 : Int32), fX7_holder_5 F n9 x a1 a2 a3 a4 = some z → Wd p l e { frames := 4, cells := 0, slots := 0, locals := 90 } s m args below meth c D (eM cy ad) 12 ad A (cQi (eM cy ad) 12 ad D A z) 5 5 [(0, .ref (ad 0)), (1, .int a1), (2, .int a2), (3, .int a3), (4, .int a4)] [] x := by
  intro n9
  induction n9 with
  | zero => intro x a1 a2 a3 a4 hf; cases hf
  | succ n9 ih => intro x a1 a2 a3 a4 hf; exact tX7_holder_5b hC F (fX7_holder_5 F n9) ih x a1 a2 a3 a4 hf
set_option maxHeartbeats 4000000 in
set_option maxRecDepth 100000 in
theorem kX7_holder (l : Launch) (D : va_G) (cy : Nat → ClassId) (tX tY : Nat) (ad : Nat → Nat) (A : Nat → Prop) (hA : apart ad A 12) (F : Nat) (x : HT) (a1 : Int32) (a2 : Int32) {z : Int32 × HT} (hf : fX7_holder F x a1 a2 = some z) : Met l yX7_holder (Cond.code yX7_holder cX7_holder 5 (some .int) :: wAll) { frames := 4, cells := 0, slots := 0, locals := 90 } (cPc (eM cy ad) 12 ad D cy tX tY A [.ref (ad 0), .int a1, .int a2] x) (cQi (eM cy ad) 12 ad D A z) 0 0 A := by
  refine gMet hA (by decide) (Nat.le_of_ble_eq_true rfl) (fun p e s m below meth c hC H locs ls hP hS hl => ?_)
  have hC : Cf p s m _ meth c cX7_holder 5 RX7 (some .int) D cy tX tY ad A 12 := hC
  have hl : lv_has ls 5 [(0, .ref (ad 0)), (1, .int a1), (2, .int a2)] := hl
  obtain ⟨hx, hb, -⟩ := id hC
  refine lv_iconst (v := -1) hx hb dX7_holder_0 (by decide) ?_
  refine lv_istore_n (lv' := [(3, .int (-1 : Int32)), (0, .ref (ad 0)), (1, .int a1), (2, .int a2)]) hx hb dX7_holder_1 rfl hl (by decide) rfl (fun ls hl => ?_)
  refine lv_iconst (v := 0) hx hb dX7_holder_2 (by decide) ?_
  refine lv_istore (lv' := [(4, .int (0 : Int32)), (3, .int (-1 : Int32)), (0, .ref (ad 0)), (1, .int a1), (2, .int a2)]) hx hb dX7_holder_3 hl (by decide) rfl (fun ls hl => ?_)
  exact tX7_holder_5 hC F F x a1 a2 (-1 : Int32) (0 : Int32) hf H locs ls hP hS (lv_sub hl [2, 3, 4, 1, 0] rfl)
set_option maxHeartbeats 4000000 in
set_option maxRecDepth 100000 in
theorem tX7_goes_92 (hC : Cf p s m args meth c cX7_goes 5 RX7 none D cy tX tY ad A 12) (F : Nat) {z : Unit × HT} : ∀ (x : HT) (a1 : Int32), fX7_goes_92 F x a1 = some z → Wd p l e { frames := 5, cells := 0, slots := 0, locals := 114 } s m args below meth c D (eM cy ad) 12 ad A (cQv (eM cy ad) 12 ad D A z) 5 92 [(0, .ref (ad 0)), (1, .int a1)] [] x := by
  intro x a1 hf H locs ls hP hS hl
  obtain ⟨hx, hb, -⟩ := id hC
  refine lv_aload_n hx hb dX7_goes_92 rfl (lv_at hl 0 rfl) ?_
  refine gfX7_7 hC hP dX7_goes_93 ?_
  refine lv_aload_n hx hb dX7_goes_96 rfl (lv_at hl 0 rfl) ?_
  refine lv_iload_n hx hb dX7_goes_97 rfl (lv_at hl 1 rfl) ?_
  refine lv_iconst (v := 2) hx hb dX7_goes_98 (by decide) ?_
  refine lv_idiv hx hb dX7_goes_99 (by decide) ?_
  refine lv_iconst (v := 4) hx hb dX7_goes_100 (by decide) ?_
  refine lv_iload_n hx hb dX7_goes_101 rfl (lv_at hl 1 rfl) ?_
  refine lv_iconst (v := 2) hx hb dX7_goes_102 (by decide) ?_
  refine lv_irem hx hb dX7_goes_103 (by decide) ?_
  refine lv_iadd hx hb dX7_goes_104 ?_
  obtain ⟨r31, x30, e32, hf⟩ := bd_some hf
  refine gVi (As := [.int (a1 / (2 : Int32)), .int ((4 : Int32) + (a1 - a1 / (2 : Int32) * (2 : Int32)))]) (rest := [.ref (ad 1)]) (k := 0) hC hP hS (kX7_spotOf l D cy tX tY ad A hC.2.2.2.2.2.2.2.2.1 F x (a1 / (2 : Int32)) ((4 : Int32) + (a1 - a1 / (2 : Int32) * (2 : Int32))) e32) glX7_109 ⟨rfl, rfl⟩ hdX7_spotOf ⟨Nat.le_of_ble_eq_true rfl, Nat.le_of_ble_eq_true rfl⟩ (by decide) (eM_0 cy ad _ _) rfl rfl hl.1 rfl (Nat.le_of_ble_eq_true rfl) dX7_goes_105 ⟨Nat.zero_le _, Nat.zero_le _⟩ (fun H locs hP hS => ?_)
  refine lv_dup2_11 hx hb dX7_goes_108 rfl rfl ?_
  obtain ⟨h33, hf⟩ := ck_some hf
  refine gIal hC hP 1 (by decide) (eM_1 cy ad _ _) h33 dX7_goes_109 ?_
  refine lv_iconst (v := 1) hx hb dX7_goes_110 (by decide) ?_
  refine lv_iadd hx hb dX7_goes_111 ?_
  obtain ⟨h34, hf⟩ := ck_some hf
  refine gIas hC hP hS 1 (by decide) (fun g9 => eM_1 cy ad g9 _) h34 dX7_goes_112 (fun H locs hP hS => ?_)
  obtain ⟨x35, e36, hf⟩ := lt_some hf
  have hP : va_P D vwCl (wG (eM cy ad) 12 ad x35) H := by rw [e36]; exact hP
  exact gVret hC hP hS hf dX7_goes_113
set_option maxHeartbeats 4000000 in
set_option maxRecDepth 100000 in
theorem tX7_goes_69 (hC : Cf p s m args meth c cX7_goes 5 RX7 none D cy tX tY ad A 12) (F : Nat) {z : Unit × HT} : ∀ (x : HT) (a1 : Int32), fX7_goes_69 F x a1 = some z → Wd p l e { frames := 5, cells := 0, slots := 0, locals := 114 } s m args below meth c D (eM cy ad) 12 ad A (cQv (eM cy ad) 12 ad D A z) 5 69 [(0, .ref (ad 0)), (1, .int a1)] [] x := by
  intro x a1 hf H locs ls hP hS hl
  obtain ⟨hx, hb, -⟩ := id hC
  refine lv_aload_n hx hb dX7_goes_69 rfl (lv_at hl 0 rfl) ?_
  refine gfX7_7 hC hP dX7_goes_70 ?_
  refine lv_aload_n hx hb dX7_goes_73 rfl (lv_at hl 0 rfl) ?_
  refine lv_iload_n hx hb dX7_goes_74 rfl (lv_at hl 1 rfl) ?_
  refine lv_iconst (v := 2) hx hb dX7_goes_75 (by decide) ?_
  refine lv_idiv hx hb dX7_goes_76 (by decide) ?_
  refine lv_bipush (v := 6) hx hb dX7_goes_77 (by decide) ?_
  refine lv_iload_n hx hb dX7_goes_79 rfl (lv_at hl 1 rfl) ?_
  refine lv_iconst (v := 2) hx hb dX7_goes_80 (by decide) ?_
  refine lv_irem hx hb dX7_goes_81 (by decide) ?_
  refine lv_iadd hx hb dX7_goes_82 ?_
  obtain ⟨r24, x23, e25, hf⟩ := bd_some hf
  refine gVi (As := [.int (a1 / (2 : Int32)), .int ((6 : Int32) + (a1 - a1 / (2 : Int32) * (2 : Int32)))]) (rest := [.ref (ad 1)]) (k := 0) hC hP hS (kX7_spotOf l D cy tX tY ad A hC.2.2.2.2.2.2.2.2.1 F x (a1 / (2 : Int32)) ((6 : Int32) + (a1 - a1 / (2 : Int32) * (2 : Int32))) e25) glX7_109 ⟨rfl, rfl⟩ hdX7_spotOf ⟨Nat.le_of_ble_eq_true rfl, Nat.le_of_ble_eq_true rfl⟩ (by decide) (eM_0 cy ad _ _) rfl rfl hl.1 rfl (Nat.le_of_ble_eq_true rfl) dX7_goes_83 ⟨Nat.zero_le _, Nat.zero_le _⟩ (fun H locs hP hS => ?_)
  refine lv_dup2_11 hx hb dX7_goes_86 rfl rfl ?_
  obtain ⟨h26, hf⟩ := ck_some hf
  refine gIal hC hP 1 (by decide) (eM_1 cy ad _ _) h26 dX7_goes_87 ?_
  refine lv_iconst (v := 1) hx hb dX7_goes_88 (by decide) ?_
  refine lv_iadd hx hb dX7_goes_89 ?_
  obtain ⟨h27, hf⟩ := ck_some hf
  refine gIas hC hP hS 1 (by decide) (fun g9 => eM_1 cy ad g9 _) h27 dX7_goes_90 (fun H locs hP hS => ?_)
  obtain ⟨x28, e29, hf⟩ := lt_some hf
  have hP : va_P D vwCl (wG (eM cy ad) 12 ad x28) H := by rw [e29]; exact hP
  exact gVret hC hP hS hf dX7_goes_91
set_option maxHeartbeats 4000000 in
set_option maxRecDepth 100000 in
theorem kX7_goes (l : Launch) (D : va_G) (cy : Nat → ClassId) (tX tY : Nat) (ad : Nat → Nat) (A : Nat → Prop) (hA : apart ad A 12) (F : Nat) (x : HT) (a1 : Int32) {z : Unit × HT} (hf : fX7_goes F x a1 = some z) : Met l yX7_goes (Cond.code yX7_goes cX7_goes 5 none :: wAll) { frames := 5, cells := 0, slots := 0, locals := 114 } (cPc (eM cy ad) 12 ad D cy tX tY A [.ref (ad 0), .int a1] x) (cQv (eM cy ad) 12 ad D A z) 0 0 A := by
  refine gMet hA (by decide) (Nat.le_of_ble_eq_true rfl) (fun p e s m below meth c hC H locs ls hP hS hl => ?_)
  have hC : Cf p s m _ meth c cX7_goes 5 RX7 none D cy tX tY ad A 12 := hC
  have hl : lv_has ls 5 [(0, .ref (ad 0)), (1, .int a1)] := hl
  obtain ⟨hx, hb, -⟩ := id hC
  refine lv_aload_n hx hb dX7_goes_0 rfl (lv_at hl 0 rfl) ?_
  refine lv_iload_n hx hb dX7_goes_1 rfl (lv_at hl 1 rfl) ?_
  obtain ⟨r2, x1, e3, hf⟩ := bd_some hf
  refine gVi (As := [.int a1]) (rest := []) (k := 0) hC hP hS (kX7_moves l D cy tX tY ad A hC.2.2.2.2.2.2.2.2.1 F x a1 e3) glX7_88 ⟨rfl, rfl⟩ hdX7_moves ⟨Nat.le_of_ble_eq_true rfl, Nat.le_of_ble_eq_true rfl⟩ (by decide) (eM_0 cy ad _ _) rfl rfl hl.1 rfl (Nat.le_of_ble_eq_true rfl) dX7_goes_2 ⟨Nat.zero_le _, Nat.zero_le _⟩ (fun H locs hP hS => ?_)
  refine lv_istore_n (lv' := [(2, .int r2), (0, .ref (ad 0)), (1, .int a1)]) hx hb dX7_goes_5 rfl hl (by decide) rfl (fun ls hl => ?_)
  refine lv_iload_n hx hb dX7_goes_6 rfl (lv_at hl 0 rfl) ?_
  refine lv_aload_n hx hb dX7_goes_7 rfl (lv_at hl 1 rfl) ?_
  refine gfX7_28 hC hP dX7_goes_8 ?_
  refine lv_iload_n hx hb dX7_goes_11 rfl (lv_at hl 2 rfl) ?_
  obtain ⟨h4, hf⟩ := ck_some hf
  refine gIal hC hP 7 (by decide) (eM_7 cy ad _ _) h4 dX7_goes_12 ?_
  refine lv_icmp_ge (tgt := 92) hx hb dX7_goes_13 (by decide) (fun c5 => ?_) (fun c5 => ?_)
  · have hf := it_t c5 hf
    exact tX7_goes_92 hC F x1 a1 hf H locs ls hP hS (lv_sub hl [1, 2] rfl)
  · have hf := it_f c5 hf
    refine lv_aload_n hx hb dX7_goes_16 rfl (lv_at hl 1 rfl) ?_
    refine gfX7_25 hC hP dX7_goes_17 ?_
    refine lv_bipush (v := 37) hx hb dX7_goes_20 (by decide) ?_
    refine lv_iload_n hx hb dX7_goes_22 rfl (lv_at hl 2 rfl) ?_
    refine lv_imul hx hb dX7_goes_23 ?_
    refine lv_iload_n hx hb dX7_goes_24 rfl (lv_at hl 0 rfl) ?_
    refine lv_iadd hx hb dX7_goes_25 ?_
    obtain ⟨h6, hf⟩ := ck_some hf
    refine gIal hC hP 6 (by decide) (eM_6 cy ad _ _) h6 dX7_goes_26 ?_
    refine lv_topi (fun b7 e8 => ?_)
    have hf := lt_use e8 hf
    refine lv_istore_n (lv' := [(3, .int b7), (2, .int r2), (0, .ref (ad 0)), (1, .int a1)]) hx hb dX7_goes_27 rfl hl (by decide) rfl (fun ls hl => ?_)
    refine lv_aload_n hx hb dX7_goes_28 rfl (lv_at hl 2 rfl) ?_
    refine gfX7_25 hC hP dX7_goes_29 ?_
    refine lv_bipush (v := 37) hx hb dX7_goes_32 (by decide) ?_
    refine lv_iload_n hx hb dX7_goes_34 rfl (lv_at hl 3 rfl) ?_
    refine lv_imul hx hb dX7_goes_35 ?_
    refine lv_iload_n hx hb dX7_goes_36 rfl (lv_at hl 1 rfl) ?_
    refine lv_iadd hx hb dX7_goes_37 ?_
    refine lv_iconst (v := 1) hx hb dX7_goes_38 (by decide) ?_
    refine lv_iadd hx hb dX7_goes_39 ?_
    obtain ⟨h9, hf⟩ := ck_some hf
    refine gIal hC hP 6 (by decide) (eM_6 cy ad _ _) h9 dX7_goes_40 ?_
    refine lv_topi (fun b10 e11 => ?_)
    have hf := lt_use e11 hf
    refine lv_istore (lv' := [(4, .int b10), (3, .int b7), (2, .int r2), (0, .ref (ad 0)), (1, .int a1)]) hx hb dX7_goes_41 hl (by decide) rfl (fun ls hl => ?_)
    refine lv_aload_n hx hb dX7_goes_43 rfl (lv_at hl 3 rfl) ?_
    refine lv_iload_n hx hb dX7_goes_44 rfl (lv_at hl 1 rfl) ?_
    refine lv_aload_n hx hb dX7_goes_45 rfl (lv_at hl 3 rfl) ?_
    refine lv_iload_n hx hb dX7_goes_46 rfl (lv_at hl 1 rfl) ?_
    refine lv_iload hx hb dX7_goes_47 (lv_at hl 0 rfl) ?_
    obtain ⟨r13, x12, e14, hf⟩ := bd_some hf
    refine gVi (As := [.int b7, .int b10]) (rest := [.int b7, .ref (ad 0)]) (k := 0) hC hP hS (kX7_wayTo l D cy tX tY ad A hC.2.2.2.2.2.2.2.2.1 F x1 b7 b10 e14) glX7_100 ⟨rfl, rfl⟩ hdX7_wayTo ⟨Nat.le_of_ble_eq_true rfl, Nat.le_of_ble_eq_true rfl⟩ (by decide) (eM_0 cy ad _ _) rfl rfl hl.1 rfl (Nat.le_of_ble_eq_true rfl) dX7_goes_49 ⟨Nat.zero_le _, Nat.zero_le _⟩ (fun H locs hP hS => ?_)
    obtain ⟨r16, x15, e17, hf⟩ := bd_some hf
    refine gVi (As := [.int b7, .int r13]) (rest := []) (k := 0) hC hP hS (kX7_isDown l D cy tX tY ad A hC.2.2.2.2.2.2.2.2.1 F x12 b7 r13 e17) glX7_103 ⟨rfl, rfl⟩ hdX7_isDown ⟨Nat.le_of_ble_eq_true rfl, Nat.le_of_ble_eq_true rfl⟩ (by decide) (eM_0 cy ad _ _) rfl rfl hl.1 rfl (Nat.le_of_ble_eq_true rfl) dX7_goes_52 ⟨Nat.zero_le _, Nat.zero_le _⟩ (fun H locs hP hS => ?_)
    refine lv_if_ne (tgt := 69) hx hb dX7_goes_55 (by decide) (fun c18 => ?_) (fun c18 => ?_)
    · have hf := it_f c18 hf
      exact tX7_goes_69 hC F x15 a1 hf H locs ls hP hS (lv_sub hl [3, 4] rfl)
    · have hf := it_t c18 hf
      refine lv_aload_n hx hb dX7_goes_58 rfl (lv_at hl 3 rfl) ?_
      refine lv_iload_n hx hb dX7_goes_59 rfl (lv_at hl 1 rfl) ?_
      refine lv_iload hx hb dX7_goes_60 (lv_at hl 0 rfl) ?_
      obtain ⟨r20, x19, e21, hf⟩ := bd_some hf
      refine gVi (As := [.int b7, .int b10]) (rest := []) (k := 0) hC hP hS (kX7_holder l D cy tX tY ad A hC.2.2.2.2.2.2.2.2.1 F x15 b7 b10 e21) glX7_106 ⟨rfl, rfl⟩ hdX7_holder ⟨Nat.le_of_ble_eq_true rfl, Nat.le_of_ble_eq_true rfl⟩ (by decide) (eM_0 cy ad _ _) rfl rfl hl.1 rfl (Nat.le_of_ble_eq_true rfl) dX7_goes_62 ⟨Nat.zero_le _, Nat.zero_le _⟩ (fun H locs hP hS => ?_)
      refine lv_iconst (v := -1) hx hb dX7_goes_65 (by decide) ?_
      refine lv_icmp_eq (tgt := 92) hx hb dX7_goes_66 (by decide) (fun c22 => ?_) (fun c22 => ?_)
      · have hf := it_t c22 hf
        exact tX7_goes_92 hC F x19 a1 hf H locs ls hP hS (lv_sub hl [3, 4] rfl)
      · have hf := it_f c22 hf
        exact tX7_goes_69 hC F x19 a1 hf H locs ls hP hS (lv_sub hl [3, 4] rfl)
set_option maxHeartbeats 4000000 in
set_option maxRecDepth 100000 in
theorem tX7_step_27 (hC : Cf p s m args meth c cX7_step 2 RX7 none D cy tX tY ad A 12) (F : Nat) {z : Unit × HT} (rec2 : HT → Int32 → Option (Unit × HT)) (hrec2 : ∀ (x : HT) (a1 : Int32), rec2 x a1 = some z → Wd p l e { frames := 6, cells := 0, slots := 0, locals := 138 } s m args below meth c D (eM cy ad) 12 ad A (cQv (eM cy ad) 12 ad D A z) 2 2 [(0, .ref (ad 0)), (1, .int a1)] [] x) : ∀ (x : HT) (a1 : Int32), fX7_step_27 F rec2 x a1 = some z → Wd p l e { frames := 6, cells := 0, slots := 0, locals := 138 } s m args below meth c D (eM cy ad) 12 ad A (cQv (eM cy ad) 12 ad D A z) 2 27 [(0, .ref (ad 0)), (1, .int a1)] [] x := by
  intro x a1 hf H locs ls hP hS hl
  obtain ⟨hx, hb, -⟩ := id hC
  obtain ⟨b14, e15, hf⟩ := lt_some hf
  refine lv_iinc (v := b14) (lv' := [(1, .int b14), (0, .ref (ad 0))]) hx hb dX7_step_27 hl (k := 1) rfl (by rw [e15]; rfl) (by decide) rfl (fun ls hl => ?_)
  refine lv_goto (tgt := 2) hx hb dX7_step_30 (by decide) ?_
  exact hrec2 x b14 hf H locs ls hP hS (lv_sub hl [1, 0] rfl)
set_option maxHeartbeats 4000000 in
set_option maxRecDepth 100000 in
theorem tX7_step_2b (hC : Cf p s m args meth c cX7_step 2 RX7 none D cy tX tY ad A 12) (F : Nat) {z : Unit × HT} (rec2 : HT → Int32 → Option (Unit × HT)) (hrec2 : ∀ (x : HT) (a1 : Int32), rec2 x a1 = some z → Wd p l e { frames := 6, cells := 0, slots := 0, locals := 138 } s m args below meth c D (eM cy ad) 12 ad A (cQv (eM cy ad) 12 ad D A z) 2 2 [(0, .ref (ad 0)), (1, .int a1)] [] x) : ∀ (x : HT) (a1 : Int32), fX7_step_2b F rec2 x a1 = some z → Wd p l e { frames := 6, cells := 0, slots := 0, locals := 138 } s m args below meth c D (eM cy ad) 12 ad A (cQv (eM cy ad) 12 ad D A z) 2 2 [(0, .ref (ad 0)), (1, .int a1)] [] x := by
  intro x a1 hf H locs ls hP hS hl
  obtain ⟨hx, hb, -⟩ := id hC
  refine lv_iload_n hx hb dX7_step_2 rfl (lv_at hl 1 rfl) ?_
  refine lv_iconst (v := 2) hx hb dX7_step_3 (by decide) ?_
  refine lv_aload_n hx hb dX7_step_4 rfl (lv_at hl 0 rfl) ?_
  refine gfX7_7 hC hP dX7_step_5 ?_
  refine lv_iconst (v := 3) hx hb dX7_step_8 (by decide) ?_
  obtain ⟨h1, hf⟩ := ck_some hf
  refine gIal hC hP 1 (by decide) (eM_1 cy ad _ _) h1 dX7_step_9 ?_
  refine lv_imul hx hb dX7_step_10 ?_
  refine lv_icmp_ge (tgt := 33) hx hb dX7_step_11 (by decide) (fun c2 => ?_) (fun c2 => ?_)
  · have hf := it_t c2 hf
    refine lv_aload_n hx hb dX7_step_33 rfl (lv_at hl 0 rfl) ?_
    refine gfX7_7 hC hP dX7_step_34 ?_
    refine lv_iconst (v := 2) hx hb dX7_step_37 (by decide) ?_
    refine lv_dup2_11 hx hb dX7_step_38 rfl rfl ?_
    obtain ⟨h3, hf⟩ := ck_some hf
    refine gIal hC hP 1 (by decide) (eM_1 cy ad _ _) h3 dX7_step_39 ?_
    refine lv_iconst (v := 1) hx hb dX7_step_40 (by decide) ?_
    refine lv_iadd hx hb dX7_step_41 ?_
    obtain ⟨h4, hf⟩ := ck_some hf
    refine gIas hC hP hS 1 (by decide) (fun g9 => eM_1 cy ad g9 _) h4 dX7_step_42 (fun H locs hP hS => ?_)
    obtain ⟨x5, e6, hf⟩ := lt_some hf
    have hP : va_P D vwCl (wG (eM cy ad) 12 ad x5) H := by rw [e6]; exact hP
    exact gVret hC hP hS hf dX7_step_43
  · have hf := it_f c2 hf
    refine lv_aload_n hx hb dX7_step_14 rfl (lv_at hl 0 rfl) ?_
    refine lv_iload_n hx hb dX7_step_15 rfl (lv_at hl 1 rfl) ?_
    obtain ⟨r8, x7, e9, hf⟩ := bd_some hf
    refine gVi (As := [.int a1]) (rest := []) (k := 0) hC hP hS (kX7_isDone l D cy tX tY ad A hC.2.2.2.2.2.2.2.2.1 F x a1 e9) glX7_112 ⟨rfl, rfl⟩ hdX7_isDone ⟨Nat.le_of_ble_eq_true rfl, Nat.le_of_ble_eq_true rfl⟩ (by decide) (eM_0 cy ad _ _) rfl rfl hl.1 rfl (Nat.le_of_ble_eq_true rfl) dX7_step_16 ⟨Nat.zero_le _, Nat.zero_le _⟩ (fun H locs hP hS => ?_)
    refine lv_if_ne (tgt := 27) hx hb dX7_step_19 (by decide) (fun c10 => ?_) (fun c10 => ?_)
    · have hf := it_f c10 hf
      exact tX7_step_27 hC F rec2 hrec2 x7 a1 hf H locs ls hP hS (lv_sub hl [0, 1] rfl)
    · have hf := it_t c10 hf
      refine lv_aload_n hx hb dX7_step_22 rfl (lv_at hl 0 rfl) ?_
      refine lv_iload_n hx hb dX7_step_23 rfl (lv_at hl 1 rfl) ?_
      obtain ⟨r12, x11, e13, hf⟩ := bd_some hf
      refine gVv (As := [.int a1]) (rest := []) (k := 0) hC hP hS (kX7_goes l D cy tX tY ad A hC.2.2.2.2.2.2.2.2.1 F x7 a1 e13) glX7_116 ⟨rfl, rfl⟩ hdX7_goes ⟨Nat.le_of_ble_eq_true rfl, Nat.le_of_ble_eq_true rfl⟩ (by decide) (eM_0 cy ad _ _) rfl rfl hl.1 rfl (Nat.le_of_ble_eq_true rfl) dX7_step_24 ⟨Nat.zero_le _, Nat.zero_le _⟩ (fun H locs hP hS => ?_)
      exact tX7_step_27 hC F rec2 hrec2 x11 a1 hf H locs ls hP hS (lv_sub hl [0, 1] rfl)
theorem tX7_step_2 (hC : Cf p s m args meth c cX7_step 2 RX7 none D cy tX tY ad A 12) (F : Nat) {z : Unit × HT} : ∀ (n9 : Nat) (x : HT) (a1 : Int32), fX7_step_2 F n9 x a1 = some z → Wd p l e { frames := 6, cells := 0, slots := 0, locals := 138 } s m args below meth c D (eM cy ad) 12 ad A (cQv (eM cy ad) 12 ad D A z) 2 2 [(0, .ref (ad 0)), (1, .int a1)] [] x := by
  intro n9
  induction n9 with
  | zero => intro x a1 hf; cases hf
  | succ n9 ih => intro x a1 hf; exact tX7_step_2b hC F (fX7_step_2 F n9) ih x a1 hf
set_option maxHeartbeats 4000000 in
set_option maxRecDepth 100000 in
theorem kX7_step (l : Launch) (D : va_G) (cy : Nat → ClassId) (tX tY : Nat) (ad : Nat → Nat) (A : Nat → Prop) (hA : apart ad A 12) (F : Nat) (x : HT) {z : Unit × HT} (hf : fX7_step F x = some z) : Met l yX7_step (Cond.code yX7_step cX7_step 2 none :: wAll) { frames := 6, cells := 0, slots := 0, locals := 138 } (cPc (eM cy ad) 12 ad D cy tX tY A [.ref (ad 0)] x) (cQv (eM cy ad) 12 ad D A z) 0 0 A := by
  refine gMet hA (by decide) (Nat.le_of_ble_eq_true rfl) (fun p e s m below meth c hC H locs ls hP hS hl => ?_)
  have hC : Cf p s m _ meth c cX7_step 2 RX7 none D cy tX tY ad A 12 := hC
  have hl : lv_has ls 2 [(0, .ref (ad 0))] := hl
  obtain ⟨hx, hb, -⟩ := id hC
  refine lv_iconst (v := 0) hx hb dX7_step_0 (by decide) ?_
  refine lv_istore_n (lv' := [(1, .int (0 : Int32)), (0, .ref (ad 0))]) hx hb dX7_step_1 rfl hl (by decide) rfl (fun ls hl => ?_)
  exact tX7_step_2 hC F F x (0 : Int32) hf H locs ls hP hS (lv_sub hl [1, 0] rfl)
set_option maxHeartbeats 4000000 in
set_option maxRecDepth 100000 in
theorem tX7_notDone_30 (hC : Cf p s m args meth c cX7_notDone 3 RX7 (some .int) D cy tX tY ad A 12) (F : Nat) {z : Int32 × HT} (rec4 : HT → Int32 → Int32 → Option (Int32 × HT)) (hrec4 : ∀ (x : HT) (a1 : Int32) (a2 : Int32), rec4 x a1 a2 = some z → Wd p l e { frames := 3, cells := 0, slots := 0, locals := 64 } s m args below meth c D (eM cy ad) 12 ad A (cQi (eM cy ad) 12 ad D A z) 3 4 [(0, .ref (ad 0)), (1, .int a1), (2, .int a2)] [] x) : ∀ (x : HT) (a2 : Int32) (t0 : Int32) (t1 : Int32), fX7_notDone_30 F rec4 x a2 t0 t1 = some z → Wd p l e { frames := 3, cells := 0, slots := 0, locals := 64 } s m args below meth c D (eM cy ad) 12 ad A (cQi (eM cy ad) 12 ad D A z) 3 30 [(0, .ref (ad 0)), (2, .int a2)] [.int t1, .int t0] x := by
  intro x a2 t0 t1 hf H locs ls hP hS hl
  obtain ⟨hx, hb, -⟩ := id hC
  refine lv_iadd hx hb dX7_notDone_30 ?_
  refine lv_topi (fun b7 e8 => ?_)
  have hf := lt_use e8 hf
  refine lv_istore_n (lv' := [(1, .int b7), (0, .ref (ad 0)), (2, .int a2)]) hx hb dX7_notDone_31 rfl hl (by decide) rfl (fun ls hl => ?_)
  obtain ⟨b9, e10, hf⟩ := lt_some hf
  refine lv_iinc (v := b9) (lv' := [(2, .int b9), (1, .int b7), (0, .ref (ad 0))]) hx hb dX7_notDone_32 hl (k := 2) rfl (by rw [e10]; rfl) (by decide) rfl (fun ls hl => ?_)
  refine lv_goto (tgt := 4) hx hb dX7_notDone_35 (by decide) ?_
  exact hrec4 x b7 b9 hf H locs ls hP hS (lv_sub hl [2, 1, 0] rfl)
set_option maxHeartbeats 4000000 in
set_option maxRecDepth 100000 in
theorem tX7_notDone_4b (hC : Cf p s m args meth c cX7_notDone 3 RX7 (some .int) D cy tX tY ad A 12) (F : Nat) {z : Int32 × HT} (rec4 : HT → Int32 → Int32 → Option (Int32 × HT)) (hrec4 : ∀ (x : HT) (a1 : Int32) (a2 : Int32), rec4 x a1 a2 = some z → Wd p l e { frames := 3, cells := 0, slots := 0, locals := 64 } s m args below meth c D (eM cy ad) 12 ad A (cQi (eM cy ad) 12 ad D A z) 3 4 [(0, .ref (ad 0)), (1, .int a1), (2, .int a2)] [] x) : ∀ (x : HT) (a1 : Int32) (a2 : Int32), fX7_notDone_4b F rec4 x a1 a2 = some z → Wd p l e { frames := 3, cells := 0, slots := 0, locals := 64 } s m args below meth c D (eM cy ad) 12 ad A (cQi (eM cy ad) 12 ad D A z) 3 4 [(0, .ref (ad 0)), (1, .int a1), (2, .int a2)] [] x := by
  intro x a1 a2 hf H locs ls hP hS hl
  obtain ⟨hx, hb, -⟩ := id hC
  refine lv_iload_n hx hb dX7_notDone_4 rfl (lv_at hl 2 rfl) ?_
  refine lv_iconst (v := 2) hx hb dX7_notDone_5 (by decide) ?_
  refine lv_aload_n hx hb dX7_notDone_6 rfl (lv_at hl 0 rfl) ?_
  refine gfX7_7 hC hP dX7_notDone_7 ?_
  refine lv_iconst (v := 3) hx hb dX7_notDone_10 (by decide) ?_
  obtain ⟨h1, hf⟩ := ck_some hf
  refine gIal hC hP 1 (by decide) (eM_1 cy ad _ _) h1 dX7_notDone_11 ?_
  refine lv_imul hx hb dX7_notDone_12 ?_
  refine lv_icmp_ge (tgt := 38) hx hb dX7_notDone_13 (by decide) (fun c2 => ?_) (fun c2 => ?_)
  · have hf := it_t c2 hf
    refine lv_iload_n hx hb dX7_notDone_38 rfl (lv_at hl 1 rfl) ?_
    exact gIret hC hP hS hf dX7_notDone_39
  · have hf := it_f c2 hf
    refine lv_iload_n hx hb dX7_notDone_16 rfl (lv_at hl 1 rfl) ?_
    refine lv_aload_n hx hb dX7_notDone_17 rfl (lv_at hl 0 rfl) ?_
    refine lv_iload_n hx hb dX7_notDone_18 rfl (lv_at hl 2 rfl) ?_
    obtain ⟨r4, x3, e5, hf⟩ := bd_some hf
    refine gVi (As := [.int a2]) (rest := [.int a1]) (k := 0) hC hP hS (kX7_isDone l D cy tX tY ad A hC.2.2.2.2.2.2.2.2.1 F x a2 e5) glX7_112 ⟨rfl, rfl⟩ hdX7_isDone ⟨Nat.le_of_ble_eq_true rfl, Nat.le_of_ble_eq_true rfl⟩ (by decide) (eM_0 cy ad _ _) rfl rfl hl.1 rfl (Nat.le_of_ble_eq_true rfl) dX7_notDone_19 ⟨Nat.zero_le _, Nat.zero_le _⟩ (fun H locs hP hS => ?_)
    refine lv_if_eq (tgt := 29) hx hb dX7_notDone_22 (by decide) (fun c6 => ?_) (fun c6 => ?_)
    · have hf := it_t c6 hf
      refine lv_iconst (v := 1) hx hb dX7_notDone_29 (by decide) ?_
      exact tX7_notDone_30 hC F rec4 hrec4 x3 a2 a1 (1 : Int32) hf H locs ls hP hS (lv_sub hl [0, 2] rfl)
    · have hf := it_f c6 hf
      refine lv_iconst (v := 0) hx hb dX7_notDone_25 (by decide) ?_
      refine lv_goto (tgt := 30) hx hb dX7_notDone_26 (by decide) ?_
      exact tX7_notDone_30 hC F rec4 hrec4 x3 a2 a1 (0 : Int32) hf H locs ls hP hS (lv_sub hl [0, 2] rfl)
theorem tX7_notDone_4 (hC : Cf p s m args meth c cX7_notDone 3 RX7 (some .int) D cy tX tY ad A 12) (F : Nat) {z : Int32 × HT} : ∀ (n9 : Nat) (x : HT) (a1 : Int32) (a2 : Int32), fX7_notDone_4 F n9 x a1 a2 = some z → Wd p l e { frames := 3, cells := 0, slots := 0, locals := 64 } s m args below meth c D (eM cy ad) 12 ad A (cQi (eM cy ad) 12 ad D A z) 3 4 [(0, .ref (ad 0)), (1, .int a1), (2, .int a2)] [] x := by
  intro n9
  induction n9 with
  | zero => intro x a1 a2 hf; cases hf
  | succ n9 ih => intro x a1 a2 hf; exact tX7_notDone_4b hC F (fX7_notDone_4 F n9) ih x a1 a2 hf
set_option maxHeartbeats 4000000 in
set_option maxRecDepth 100000 in
theorem kX7_notDone (l : Launch) (D : va_G) (cy : Nat → ClassId) (tX tY : Nat) (ad : Nat → Nat) (A : Nat → Prop) (hA : apart ad A 12) (F : Nat) (x : HT) {z : Int32 × HT} (hf : fX7_notDone F x = some z) : Met l yX7_notDone (Cond.code yX7_notDone cX7_notDone 3 (some .int) :: wAll) { frames := 3, cells := 0, slots := 0, locals := 64 } (cPc (eM cy ad) 12 ad D cy tX tY A [.ref (ad 0)] x) (cQi (eM cy ad) 12 ad D A z) 0 0 A := by
  refine gMet hA (by decide) (Nat.le_of_ble_eq_true rfl) (fun p e s m below meth c hC H locs ls hP hS hl => ?_)
  have hC : Cf p s m _ meth c cX7_notDone 3 RX7 (some .int) D cy tX tY ad A 12 := hC
  have hl : lv_has ls 3 [(0, .ref (ad 0))] := hl
  obtain ⟨hx, hb, -⟩ := id hC
  refine lv_iconst (v := 0) hx hb dX7_notDone_0 (by decide) ?_
  refine lv_istore_n (lv' := [(1, .int (0 : Int32)), (0, .ref (ad 0))]) hx hb dX7_notDone_1 rfl hl (by decide) rfl (fun ls hl => ?_)
  refine lv_iconst (v := 0) hx hb dX7_notDone_2 (by decide) ?_
  refine lv_istore_n (lv' := [(2, .int (0 : Int32)), (1, .int (0 : Int32)), (0, .ref (ad 0))]) hx hb dX7_notDone_3 rfl hl (by decide) rfl (fun ls hl => ?_)
  exact tX7_notDone_4 hC F F x (0 : Int32) (0 : Int32) hf H locs ls hP hS (lv_sub hl [2, 1, 0] rfl)
set_option maxHeartbeats 4000000 in
set_option maxRecDepth 100000 in
theorem tX7_putSteps_20b (hC : Cf p s m args meth c cX7_putSteps 3 RX7 (some .int) D cy tX tY ad A 12) (F : Nat) {z : Int32 × HT} (rec20 : HT → Int32 → Int32 → Option (Int32 × HT)) (hrec20 : ∀ (x : HT) (a1 : Int32) (a2 : Int32), rec20 x a1 a2 = some z → Wd p l e { frames := 7, cells := 0, slots := 0, locals := 159 } s m args below meth c D (eM cy ad) 12 ad A (cQi (eM cy ad) 12 ad D A z) 3 20 [(0, .ref (ad 0)), (1, .int a1), (2, .int a2)] [] x) : ∀ (x : HT) (a1 : Int32) (a2 : Int32), fX7_putSteps_20b F rec20 x a1 a2 = some z → Wd p l e { frames := 7, cells := 0, slots := 0, locals := 159 } s m args below meth c D (eM cy ad) 12 ad A (cQi (eM cy ad) 12 ad D A z) 3 20 [(0, .ref (ad 0)), (1, .int a1), (2, .int a2)] [] x := by
  intro x a1 a2 hf H locs ls hP hS hl
  obtain ⟨hx, hb, -⟩ := id hC
  refine lv_iload_n hx hb dX7_putSteps_20 rfl (lv_at hl 2 rfl) ?_
  refine lv_iload_n hx hb dX7_putSteps_21 rfl (lv_at hl 1 rfl) ?_
  refine lv_icmp_ge (tgt := 35) hx hb dX7_putSteps_22 (by decide) (fun c8 => ?_) (fun c8 => ?_)
  · have hf := it_t c8 hf
    refine lv_aload_n hx hb dX7_putSteps_35 rfl (lv_at hl 0 rfl) ?_
    obtain ⟨r10, x9, e11, hf⟩ := bd_some hf
    refine gVi (As := []) (rest := []) (k := 0) hC hP hS (kX7_notDone l D cy tX tY ad A hC.2.2.2.2.2.2.2.2.1 F x e11) glX7_135 ⟨rfl, rfl⟩ hdX7_notDone ⟨Nat.le_of_ble_eq_true rfl, Nat.le_of_ble_eq_true rfl⟩ (by decide) (eM_0 cy ad _ _) rfl rfl hl.1 rfl (Nat.le_of_ble_eq_true rfl) dX7_putSteps_36 ⟨Nat.zero_le _, Nat.zero_le _⟩ (fun H locs hP hS => ?_)
    exact gIret hC hP hS hf dX7_putSteps_39
  · have hf := it_f c8 hf
    refine lv_aload_n hx hb dX7_putSteps_25 rfl (lv_at hl 0 rfl) ?_
    obtain ⟨r13, x12, e14, hf⟩ := bd_some hf
    refine gVv (As := []) (rest := []) (k := 0) hC hP hS (kX7_step l D cy tX tY ad A hC.2.2.2.2.2.2.2.2.1 F x e14) glX7_132 ⟨rfl, rfl⟩ hdX7_step ⟨Nat.le_of_ble_eq_true rfl, Nat.le_of_ble_eq_true rfl⟩ (by decide) (eM_0 cy ad _ _) rfl rfl hl.1 rfl (Nat.le_of_ble_eq_true rfl) dX7_putSteps_26 ⟨Nat.zero_le _, Nat.zero_le _⟩ (fun H locs hP hS => ?_)
    obtain ⟨b15, e16, hf⟩ := lt_some hf
    refine lv_iinc (v := b15) (lv' := [(2, .int b15), (0, .ref (ad 0)), (1, .int a1)]) hx hb dX7_putSteps_29 hl (k := 2) rfl (by rw [e16]; rfl) (by decide) rfl (fun ls hl => ?_)
    refine lv_goto (tgt := 20) hx hb dX7_putSteps_32 (by decide) ?_
    exact hrec20 x12 a1 b15 hf H locs ls hP hS (lv_sub hl [1, 2, 0] rfl)
theorem tX7_putSteps_20 (hC : Cf p s m args meth c cX7_putSteps 3 RX7 (some .int) D cy tX tY ad A 12) (F : Nat) {z : Int32 × HT} : ∀ (n9 : Nat) (x : HT) (a1 : Int32) (a2 : Int32), fX7_putSteps_20 F n9 x a1 a2 = some z → Wd p l e { frames := 7, cells := 0, slots := 0, locals := 159 } s m args below meth c D (eM cy ad) 12 ad A (cQi (eM cy ad) 12 ad D A z) 3 20 [(0, .ref (ad 0)), (1, .int a1), (2, .int a2)] [] x := by
  intro n9
  induction n9 with
  | zero => intro x a1 a2 hf; cases hf
  | succ n9 ih => intro x a1 a2 hf; exact tX7_putSteps_20b hC F (fX7_putSteps_20 F n9) ih x a1 a2 hf
set_option maxHeartbeats 4000000 in
set_option maxRecDepth 100000 in
theorem kX7_putSteps (l : Launch) (D : va_G) (cy : Nat → ClassId) (tX tY : Nat) (ad : Nat → Nat) (A : Nat → Prop) (hA : apart ad A 12) (F : Nat) (x : HT) (a1 : Int32) {z : Int32 × HT} (hf : fX7_putSteps F x a1 = some z) : Met l yX7_putSteps (Cond.code yX7_putSteps cX7_putSteps 3 (some .int) :: wAll) { frames := 7, cells := 0, slots := 0, locals := 159 } (cPc (eM cy ad) 12 ad D cy tX tY A [.ref (ad 0), .int a1] x) (cQi (eM cy ad) 12 ad D A z) 0 0 A := by
  refine gMet hA (by decide) (Nat.le_of_ble_eq_true rfl) (fun p e s m below meth c hC H locs ls hP hS hl => ?_)
  have hC : Cf p s m _ meth c cX7_putSteps 3 RX7 (some .int) D cy tX tY ad A 12 := hC
  have hl : lv_has ls 3 [(0, .ref (ad 0)), (1, .int a1)] := hl
  obtain ⟨hx, hb, -⟩ := id hC
  refine lv_iload_n hx hb dX7_putSteps_0 rfl (lv_at hl 1 rfl) ?_
  refine lv_iconst (v := 1) hx hb dX7_putSteps_1 (by decide) ?_
  refine lv_sipush (v := 200) hx hb dX7_putSteps_2 (by decide) ?_
  obtain ⟨r2, x1, e3, hf⟩ := bd_some hf
  refine gSi (As := [.int a1, .int (1 : Int32), .int (200 : Int32)]) (rest := []) hC hP hS (kX7_in l D cy tX tY ad A hC.2.2.2.2.2.2.2.2.1 F x a1 (1 : Int32) (200 : Int32) e3) glX7_54 ⟨rfl, rfl⟩ hdX7_in ⟨Nat.le_of_ble_eq_true rfl, Nat.le_of_ble_eq_true rfl⟩ rfl hl.1 rfl (Nat.le_of_ble_eq_true rfl) dX7_putSteps_5 ⟨Nat.zero_le _, Nat.zero_le _⟩ (fun H locs hP hS => ?_)
  refine lv_if_ne (tgt := 14) hx hb dX7_putSteps_8 (by decide) (fun c4 => ?_) (fun c4 => ?_)
  · have hf := it_f c4 hf
    refine lv_aload_n hx hb dX7_putSteps_14 rfl (lv_at hl 0 rfl) ?_
    obtain ⟨r6, x5, e7, hf⟩ := bd_some hf
    refine gVv (As := []) (rest := []) (k := 0) hC hP hS (kX7_laysWays l D cy tX tY ad A hC.2.2.2.2.2.2.2.2.1 F x1 e7) glX7_129 ⟨rfl, rfl⟩ hdX7_laysWays ⟨Nat.le_of_ble_eq_true rfl, Nat.le_of_ble_eq_true rfl⟩ (by decide) (eM_0 cy ad _ _) rfl rfl hl.1 rfl (Nat.le_of_ble_eq_true rfl) dX7_putSteps_15 ⟨Nat.zero_le _, Nat.zero_le _⟩ (fun H locs hP hS => ?_)
    refine lv_iconst (v := 0) hx hb dX7_putSteps_18 (by decide) ?_
    refine lv_istore_n (lv' := [(2, .int (0 : Int32)), (0, .ref (ad 0)), (1, .int a1)]) hx hb dX7_putSteps_19 rfl hl (by decide) rfl (fun ls hl => ?_)
    exact tX7_putSteps_20 hC F F x5 a1 (0 : Int32) hf H locs ls hP hS (lv_sub hl [1, 2, 0] rfl)
  · have hf := it_t c4 hf
    refine lv_bipush (v := -2) hx hb dX7_putSteps_11 (by decide) ?_
    exact gIret hC hP hS hf dX7_putSteps_13
set_option maxHeartbeats 4000000 in
set_option maxRecDepth 100000 in
theorem kX7_steps (l : Launch) (D : va_G) (cy : Nat → ClassId) (tX tY : Nat) (ad : Nat → Nat) (A : Nat → Prop) (hA : apart ad A 12) (F : Nat) (x : HT) (a1 : Int32) {z : Int32 × HT} (hf : fX7_steps F x a1 = some z) : Met l yX7_steps (Cond.code yX7_steps cX7_steps 2 (some .int) :: wAll) { frames := 8, cells := 0, slots := 0, locals := 181 } (cPc (eM cy ad) 12 ad D cy tX tY A [.ref (ad 0), .int a1] x) (cQi (eM cy ad) 12 ad D A z) 0 0 A := by
  refine gMet hA (by decide) (Nat.le_of_ble_eq_true rfl) (fun p e s m below meth c hC H locs ls hP hS hl => ?_)
  have hC : Cf p s m _ meth c cX7_steps 2 RX7 (some .int) D cy tX tY ad A 12 := hC
  have hl : lv_has ls 2 [(0, .ref (ad 0)), (1, .int a1)] := hl
  obtain ⟨hx, hb, -⟩ := id hC
  refine lv_aload_n hx hb dX7_steps_0 rfl (lv_at hl 0 rfl) ?_
  obtain ⟨r2, x1, e3, hf⟩ := bd_some hf
  refine gVv (As := []) (rest := []) (k := 0) hC hP hS (kX7_laysAside l D cy tX tY ad A hC.2.2.2.2.2.2.2.2.1 F x e3) glX7_139 ⟨rfl, rfl⟩ hdX7_laysAside ⟨Nat.le_of_ble_eq_true rfl, Nat.le_of_ble_eq_true rfl⟩ (by decide) (eM_0 cy ad _ _) rfl rfl hl.1 rfl (Nat.le_of_ble_eq_true rfl) dX7_steps_1 ⟨Nat.zero_le _, Nat.zero_le _⟩ (fun H locs hP hS => ?_)
  refine lv_aload_n hx hb dX7_steps_4 rfl (lv_at hl 0 rfl) ?_
  refine lv_aload_n hx hb dX7_steps_5 rfl (lv_at hl 0 rfl) ?_
  refine lv_iload_n hx hb dX7_steps_6 rfl (lv_at hl 1 rfl) ?_
  obtain ⟨r5, x4, e6, hf⟩ := bd_some hf
  refine gVi (As := [.int a1]) (rest := [.ref (ad 0)]) (k := 0) hC hP hS (kX7_putSteps l D cy tX tY ad A hC.2.2.2.2.2.2.2.2.1 F x1 a1 e6) glX7_158 ⟨rfl, rfl⟩ hdX7_putSteps ⟨Nat.le_of_ble_eq_true rfl, Nat.le_of_ble_eq_true rfl⟩ (by decide) (eM_0 cy ad _ _) rfl rfl hl.1 rfl (Nat.le_of_ble_eq_true rfl) dX7_steps_7 ⟨Nat.zero_le _, Nat.zero_le _⟩ (fun H locs hP hS => ?_)
  obtain ⟨r8, x7, e9, hf⟩ := bd_some hf
  refine gVi (As := [.int r5]) (rest := []) (k := 0) hC hP hS (kX7_finished l D cy tX tY ad A hC.2.2.2.2.2.2.2.2.1 F x4 r5 e9) glX7_145 ⟨rfl, rfl⟩ hdX7_finished ⟨Nat.le_of_ble_eq_true rfl, Nat.le_of_ble_eq_true rfl⟩ (by decide) (eM_0 cy ad _ _) rfl rfl hl.1 rfl (Nat.le_of_ble_eq_true rfl) dX7_steps_10 ⟨Nat.zero_le _, Nat.zero_le _⟩ (fun H locs hP hS => ?_)
  exact gIret hC hP hS hf dX7_steps_13
set_option maxHeartbeats 4000000 in
set_option maxRecDepth 100000 in
theorem tX7_putAgain_28b (hC : Cf p s m args meth c cX7_putAgain 4 RX7 (some .int) D cy tX tY ad A 12) (F : Nat) {z : Int32 × HT} (rec16 : HT → Int32 → Int32 → Option (Int32 × HT)) (hrec16 : ∀ (x : HT) (a1 : Int32) (a2 : Int32), rec16 x a1 a2 = some z → Wd p l e { frames := 1, cells := 0, slots := 0, locals := 22 } s m args below meth c D (eM cy ad) 12 ad A (cQi (eM cy ad) 12 ad D A z) 4 16 [(0, .ref (ad 0)), (1, .int a1), (2, .int a2)] [] x) (rec28 : HT → Int32 → Int32 → Int32 → Option (Int32 × HT)) (hrec28 : ∀ (x : HT) (a1 : Int32) (a2 : Int32) (a3 : Int32), rec28 x a1 a2 a3 = some z → Wd p l e { frames := 1, cells := 0, slots := 0, locals := 22 } s m args below meth c D (eM cy ad) 12 ad A (cQi (eM cy ad) 12 ad D A z) 4 28 [(0, .ref (ad 0)), (1, .int a1), (2, .int a2), (3, .int a3)] [] x) : ∀ (x : HT) (a1 : Int32) (a2 : Int32) (a3 : Int32), fX7_putAgain_28b F rec16 rec28 x a1 a2 a3 = some z → Wd p l e { frames := 1, cells := 0, slots := 0, locals := 22 } s m args below meth c D (eM cy ad) 12 ad A (cQi (eM cy ad) 12 ad D A z) 4 28 [(0, .ref (ad 0)), (1, .int a1), (2, .int a2), (3, .int a3)] [] x := by
  intro x a1 a2 a3 hf H locs ls hP hS hl
  obtain ⟨hx, hb, -⟩ := id hC
  refine lv_iload_n hx hb dX7_putAgain_28 rfl (lv_at hl 3 rfl) ?_
  refine lv_bipush (v := 8) hx hb dX7_putAgain_29 (by decide) ?_
  refine lv_icmp_ge (tgt := 52) hx hb dX7_putAgain_31 (by decide) (fun c9 => ?_) (fun c9 => ?_)
  · have hf := it_t c9 hf
    obtain ⟨b10, e11, hf⟩ := lt_some hf
    refine lv_iinc (v := b10) (lv' := [(2, .int b10), (0, .ref (ad 0)), (1, .int a1), (3, .int a3)]) hx hb dX7_putAgain_52 hl (k := 2) rfl (by rw [e11]; rfl) (by decide) rfl (fun ls hl => ?_)
    refine lv_goto (tgt := 16) hx hb dX7_putAgain_55 (by decide) ?_
    exact hrec16 x a1 b10 hf H locs ls hP hS (lv_sub hl [1, 2, 0] rfl)
  · have hf := it_f c9 hf
    refine lv_aload_n hx hb dX7_putAgain_34 rfl (lv_at hl 0 rfl) ?_
    refine gfX7_7 hC hP dX7_putAgain_35 ?_
    refine lv_aload_n hx hb dX7_putAgain_38 rfl (lv_at hl 0 rfl) ?_
    refine lv_iload_n hx hb dX7_putAgain_39 rfl (lv_at hl 2 rfl) ?_
    refine lv_iload_n hx hb dX7_putAgain_40 rfl (lv_at hl 3 rfl) ?_
    obtain ⟨r13, x12, e14, hf⟩ := bd_some hf
    refine gVi (As := [.int a2, .int a3]) (rest := [.ref (ad 1)]) (k := 0) hC hP hS (kX7_spotOf l D cy tX tY ad A hC.2.2.2.2.2.2.2.2.1 F x a2 a3 e14) glX7_109 ⟨rfl, rfl⟩ hdX7_spotOf ⟨Nat.le_of_ble_eq_true rfl, Nat.le_of_ble_eq_true rfl⟩ (by decide) (eM_0 cy ad _ _) rfl rfl hl.1 rfl (Nat.le_of_ble_eq_true rfl) dX7_putAgain_41 ⟨Nat.zero_le _, Nat.zero_le _⟩ (fun H locs hP hS => ?_)
    refine lv_iconst (v := 0) hx hb dX7_putAgain_44 (by decide) ?_
    obtain ⟨h15, hf⟩ := ck_some hf
    refine gIas hC hP hS 1 (by decide) (fun g9 => eM_1 cy ad g9 _) h15 dX7_putAgain_45 (fun H locs hP hS => ?_)
    obtain ⟨x16, e17, hf⟩ := lt_some hf
    have hP : va_P D vwCl (wG (eM cy ad) 12 ad x16) H := by rw [e17]; exact hP
    obtain ⟨b18, e19, hf⟩ := lt_some hf
    refine lv_iinc (v := b18) (lv' := [(3, .int b18), (0, .ref (ad 0)), (1, .int a1), (2, .int a2)]) hx hb dX7_putAgain_46 hl (k := 3) rfl (by rw [e19]; rfl) (by decide) rfl (fun ls hl => ?_)
    refine lv_goto (tgt := 28) hx hb dX7_putAgain_49 (by decide) ?_
    exact hrec28 x16 a1 a2 b18 hf H locs ls hP hS (lv_sub hl [1, 2, 3, 0] rfl)
theorem tX7_putAgain_28 (hC : Cf p s m args meth c cX7_putAgain 4 RX7 (some .int) D cy tX tY ad A 12) (F : Nat) {z : Int32 × HT} (rec16 : HT → Int32 → Int32 → Option (Int32 × HT)) (hrec16 : ∀ (x : HT) (a1 : Int32) (a2 : Int32), rec16 x a1 a2 = some z → Wd p l e { frames := 1, cells := 0, slots := 0, locals := 22 } s m args below meth c D (eM cy ad) 12 ad A (cQi (eM cy ad) 12 ad D A z) 4 16 [(0, .ref (ad 0)), (1, .int a1), (2, .int a2)] [] x) : ∀ (n9 : Nat) (x : HT) (a1 : Int32) (a2 : Int32) (a3 : Int32), fX7_putAgain_28 F rec16 n9 x a1 a2 a3 = some z → Wd p l e { frames := 1, cells := 0, slots := 0, locals := 22 } s m args below meth c D (eM cy ad) 12 ad A (cQi (eM cy ad) 12 ad D A z) 4 28 [(0, .ref (ad 0)), (1, .int a1), (2, .int a2), (3, .int a3)] [] x := by
  intro n9
  induction n9 with
  | zero => intro x a1 a2 a3 hf; cases hf
  | succ n9 ih => intro x a1 a2 a3 hf; exact tX7_putAgain_28b hC F rec16 hrec16 (fX7_putAgain_28 F rec16 n9) ih x a1 a2 a3 hf
set_option maxHeartbeats 4000000 in
set_option maxRecDepth 100000 in
theorem tX7_putAgain_16b (hC : Cf p s m args meth c cX7_putAgain 4 RX7 (some .int) D cy tX tY ad A 12) (F : Nat) {z : Int32 × HT} (rec16 : HT → Int32 → Int32 → Option (Int32 × HT)) (hrec16 : ∀ (x : HT) (a1 : Int32) (a2 : Int32), rec16 x a1 a2 = some z → Wd p l e { frames := 1, cells := 0, slots := 0, locals := 22 } s m args below meth c D (eM cy ad) 12 ad A (cQi (eM cy ad) 12 ad D A z) 4 16 [(0, .ref (ad 0)), (1, .int a1), (2, .int a2)] [] x) : ∀ (x : HT) (a1 : Int32) (a2 : Int32), fX7_putAgain_16b F rec16 x a1 a2 = some z → Wd p l e { frames := 1, cells := 0, slots := 0, locals := 22 } s m args below meth c D (eM cy ad) 12 ad A (cQi (eM cy ad) 12 ad D A z) 4 16 [(0, .ref (ad 0)), (1, .int a1), (2, .int a2)] [] x := by
  intro x a1 a2 hf H locs ls hP hS hl
  obtain ⟨hx, hb, -⟩ := id hC
  refine lv_iload_n hx hb dX7_putAgain_16 rfl (lv_at hl 2 rfl) ?_
  refine lv_aload_n hx hb dX7_putAgain_17 rfl (lv_at hl 0 rfl) ?_
  refine gfX7_7 hC hP dX7_putAgain_18 ?_
  refine lv_iconst (v := 3) hx hb dX7_putAgain_21 (by decide) ?_
  obtain ⟨h7, hf⟩ := ck_some hf
  refine gIal hC hP 1 (by decide) (eM_1 cy ad _ _) h7 dX7_putAgain_22 ?_
  refine lv_icmp_ge (tgt := 58) hx hb dX7_putAgain_23 (by decide) (fun c8 => ?_) (fun c8 => ?_)
  · have hf := it_t c8 hf
    refine lv_iload_n hx hb dX7_putAgain_58 rfl (lv_at hl 1 rfl) ?_
    exact gIret hC hP hS hf dX7_putAgain_59
  · have hf := it_f c8 hf
    refine lv_iconst (v := 4) hx hb dX7_putAgain_26 (by decide) ?_
    refine lv_istore_n (lv' := [(3, .int (4 : Int32)), (0, .ref (ad 0)), (1, .int a1), (2, .int a2)]) hx hb dX7_putAgain_27 rfl hl (by decide) rfl (fun ls hl => ?_)
    exact tX7_putAgain_28 hC F rec16 hrec16 F x a1 a2 (4 : Int32) hf H locs ls hP hS (lv_sub hl [1, 2, 3, 0] rfl)
theorem tX7_putAgain_16 (hC : Cf p s m args meth c cX7_putAgain 4 RX7 (some .int) D cy tX tY ad A 12) (F : Nat) {z : Int32 × HT} : ∀ (n9 : Nat) (x : HT) (a1 : Int32) (a2 : Int32), fX7_putAgain_16 F n9 x a1 a2 = some z → Wd p l e { frames := 1, cells := 0, slots := 0, locals := 22 } s m args below meth c D (eM cy ad) 12 ad A (cQi (eM cy ad) 12 ad D A z) 4 16 [(0, .ref (ad 0)), (1, .int a1), (2, .int a2)] [] x := by
  intro n9
  induction n9 with
  | zero => intro x a1 a2 hf; cases hf
  | succ n9 ih => intro x a1 a2 hf; exact tX7_putAgain_16b hC F (fX7_putAgain_16 F n9) ih x a1 a2 hf
set_option maxHeartbeats 4000000 in
set_option maxRecDepth 100000 in
theorem kX7_putAgain (l : Launch) (D : va_G) (cy : Nat → ClassId) (tX tY : Nat) (ad : Nat → Nat) (A : Nat → Prop) (hA : apart ad A 12) (F : Nat) (x : HT) {z : Int32 × HT} (hf : fX7_putAgain F x = some z) : Met l yX7_putAgain (Cond.code yX7_putAgain cX7_putAgain 4 (some .int) :: wAll) { frames := 1, cells := 0, slots := 0, locals := 22 } (cPc (eM cy ad) 12 ad D cy tX tY A [.ref (ad 0)] x) (cQi (eM cy ad) 12 ad D A z) 0 0 A := by
  refine gMet hA (by decide) (Nat.le_of_ble_eq_true rfl) (fun p e s m below meth c hC H locs ls hP hS hl => ?_)
  have hC : Cf p s m _ meth c cX7_putAgain 4 RX7 (some .int) D cy tX tY ad A 12 := hC
  have hl : lv_has ls 4 [(0, .ref (ad 0))] := hl
  obtain ⟨hx, hb, -⟩ := id hC
  refine lv_aload_n hx hb dX7_putAgain_0 rfl (lv_at hl 0 rfl) ?_
  refine gfX7_7 hC hP dX7_putAgain_1 ?_
  refine lv_iconst (v := 2) hx hb dX7_putAgain_4 (by decide) ?_
  obtain ⟨h1, hf⟩ := ck_some hf
  refine gIal hC hP 1 (by decide) (eM_1 cy ad _ _) h1 dX7_putAgain_5 ?_
  refine lv_topi (fun b2 e3 => ?_)
  have hf := lt_use e3 hf
  refine lv_istore_n (lv' := [(1, .int b2), (0, .ref (ad 0))]) hx hb dX7_putAgain_6 rfl hl (by decide) rfl (fun ls hl => ?_)
  refine lv_aload_n hx hb dX7_putAgain_7 rfl (lv_at hl 1 rfl) ?_
  refine gfX7_7 hC hP dX7_putAgain_8 ?_
  refine lv_iconst (v := 2) hx hb dX7_putAgain_11 (by decide) ?_
  refine lv_iconst (v := 0) hx hb dX7_putAgain_12 (by decide) ?_
  obtain ⟨h4, hf⟩ := ck_some hf
  refine gIas hC hP hS 1 (by decide) (fun g9 => eM_1 cy ad g9 _) h4 dX7_putAgain_13 (fun H locs hP hS => ?_)
  obtain ⟨x5, e6, hf⟩ := lt_some hf
  have hP : va_P D vwCl (wG (eM cy ad) 12 ad x5) H := by rw [e6]; exact hP
  refine lv_iconst (v := 0) hx hb dX7_putAgain_14 (by decide) ?_
  refine lv_istore_n (lv' := [(2, .int (0 : Int32)), (1, .int b2), (0, .ref (ad 0))]) hx hb dX7_putAgain_15 rfl hl (by decide) rfl (fun ls hl => ?_)
  exact tX7_putAgain_16 hC F F x5 b2 (0 : Int32) hf H locs ls hP hS (lv_sub hl [2, 1, 0] rfl)
set_option maxHeartbeats 4000000 in
set_option maxRecDepth 100000 in
theorem kX7_again (l : Launch) (D : va_G) (cy : Nat → ClassId) (tX tY : Nat) (ad : Nat → Nat) (A : Nat → Prop) (hA : apart ad A 12) (F : Nat) (x : HT) {z : Int32 × HT} (hf : fX7_again F x = some z) : Met l yX7_again (Cond.code yX7_again cX7_again 1 (some .int) :: wAll) { frames := 2, cells := 0, slots := 0, locals := 45 } (cPc (eM cy ad) 12 ad D cy tX tY A [.ref (ad 0)] x) (cQi (eM cy ad) 12 ad D A z) 0 0 A := by
  refine gMet hA (by decide) (Nat.le_of_ble_eq_true rfl) (fun p e s m below meth c hC H locs ls hP hS hl => ?_)
  have hC : Cf p s m _ meth c cX7_again 1 RX7 (some .int) D cy tX tY ad A 12 := hC
  have hl : lv_has ls 1 [(0, .ref (ad 0))] := hl
  obtain ⟨hx, hb, -⟩ := id hC
  refine lv_aload_n hx hb dX7_again_0 rfl (lv_at hl 0 rfl) ?_
  obtain ⟨r2, x1, e3, hf⟩ := bd_some hf
  refine gVv (As := []) (rest := []) (k := 0) hC hP hS (kX7_laysAside l D cy tX tY ad A hC.2.2.2.2.2.2.2.2.1 F x e3) glX7_139 ⟨rfl, rfl⟩ hdX7_laysAside ⟨Nat.le_of_ble_eq_true rfl, Nat.le_of_ble_eq_true rfl⟩ (by decide) (eM_0 cy ad _ _) rfl rfl hl.1 rfl (Nat.le_of_ble_eq_true rfl) dX7_again_1 ⟨Nat.zero_le _, Nat.zero_le _⟩ (fun H locs hP hS => ?_)
  refine lv_aload_n hx hb dX7_again_4 rfl (lv_at hl 0 rfl) ?_
  refine lv_aload_n hx hb dX7_again_5 rfl (lv_at hl 0 rfl) ?_
  obtain ⟨r5, x4, e6, hf⟩ := bd_some hf
  refine gVi (As := []) (rest := [.ref (ad 0)]) (k := 0) hC hP hS (kX7_putAgain l D cy tX tY ad A hC.2.2.2.2.2.2.2.2.1 F x1 e6) glX7_161 ⟨rfl, rfl⟩ hdX7_putAgain ⟨Nat.le_of_ble_eq_true rfl, Nat.le_of_ble_eq_true rfl⟩ (by decide) (eM_0 cy ad _ _) rfl rfl hl.1 rfl (Nat.le_of_ble_eq_true rfl) dX7_again_6 ⟨Nat.zero_le _, Nat.zero_le _⟩ (fun H locs hP hS => ?_)
  obtain ⟨r8, x7, e9, hf⟩ := bd_some hf
  refine gVi (As := [.int r5]) (rest := []) (k := 0) hC hP hS (kX7_finished l D cy tX tY ad A hC.2.2.2.2.2.2.2.2.1 F x4 r5 e9) glX7_145 ⟨rfl, rfl⟩ hdX7_finished ⟨Nat.le_of_ble_eq_true rfl, Nat.le_of_ble_eq_true rfl⟩ (by decide) (eM_0 cy ad _ _) rfl rfl hl.1 rfl (Nat.le_of_ble_eq_true rfl) dX7_again_9 ⟨Nat.zero_le _, Nat.zero_le _⟩ (fun H locs hP hS => ?_)
  exact gIret hC hP hS hf dX7_again_12
set_option maxHeartbeats 4000000 in
set_option maxRecDepth 100000 in
theorem kX7_label (l : Launch) (D : va_G) (cy : Nat → ClassId) (tX tY : Nat) (ad : Nat → Nat) (A : Nat → Prop) (hA : apart ad A 12) (F : Nat) (x : HT) (a1 : Int32) (a2 : Int32) {z : Int32 × HT} (hf : fX7_label F x a1 a2 = some z) : Met l yX7_label (Cond.code yX7_label cX7_label 3 (some .int) :: wAll) { frames := 2, cells := 0, slots := 0, locals := 44 } (cPc (eM cy ad) 12 ad D cy tX tY A [.ref (ad 0), .int a1, .int a2] x) (cQi (eM cy ad) 12 ad D A z) 0 0 A := by
  refine gMet hA (by decide) (Nat.le_of_ble_eq_true rfl) (fun p e s m below meth c hC H locs ls hP hS hl => ?_)
  have hC : Cf p s m _ meth c cX7_label 3 RX7 (some .int) D cy tX tY ad A 12 := hC
  have hl : lv_has ls 3 [(0, .ref (ad 0)), (1, .int a1), (2, .int a2)] := hl
  obtain ⟨hx, hb, -⟩ := id hC
  refine lv_aload_n hx hb dX7_label_0 rfl (lv_at hl 0 rfl) ?_
  refine lv_iload_n hx hb dX7_label_1 rfl (lv_at hl 1 rfl) ?_
  refine lv_iload_n hx hb dX7_label_2 rfl (lv_at hl 2 rfl) ?_
  obtain ⟨r2, x1, e3, hf⟩ := bd_some hf
  refine gVi (As := [.int a1, .int a2]) (rest := []) (k := 0) hC hP hS (kX7_isPlace l D cy tX tY ad A hC.2.2.2.2.2.2.2.2.1 F x a1 a2 e3) glX7_64 ⟨rfl, rfl⟩ hdX7_isPlace ⟨Nat.le_of_ble_eq_true rfl, Nat.le_of_ble_eq_true rfl⟩ (by decide) (eM_0 cy ad _ _) rfl rfl hl.1 rfl (Nat.le_of_ble_eq_true rfl) dX7_label_3 ⟨Nat.zero_le _, Nat.zero_le _⟩ (fun H locs hP hS => ?_)
  refine lv_if_eq (tgt := 18) hx hb dX7_label_6 (by decide) (fun c4 => ?_) (fun c4 => ?_)
  · have hf := it_t c4 hf
    refine lv_aload_n hx hb dX7_label_18 rfl (lv_at hl 0 rfl) ?_
    refine lv_bipush (v := -2) hx hb dX7_label_19 (by decide) ?_
    obtain ⟨r6, x5, e7, hf⟩ := bd_some hf
    refine gVi (As := [.int (-2 : Int32)]) (rest := []) (k := 0) hC hP hS (kX7_refuses l D cy tX tY ad A hC.2.2.2.2.2.2.2.2.1 F x1 (-2 : Int32) e7) glX7_47 ⟨rfl, rfl⟩ hdX7_refuses ⟨Nat.le_of_ble_eq_true rfl, Nat.le_of_ble_eq_true rfl⟩ (by decide) (eM_0 cy ad _ _) rfl rfl hl.1 rfl (Nat.le_of_ble_eq_true rfl) dX7_label_21 ⟨Nat.zero_le _, Nat.zero_le _⟩ (fun H locs hP hS => ?_)
    exact gIret hC hP hS hf dX7_label_24
  · have hf := it_f c4 hf
    refine lv_aload_n hx hb dX7_label_9 rfl (lv_at hl 0 rfl) ?_
    refine lv_iload_n hx hb dX7_label_10 rfl (lv_at hl 1 rfl) ?_
    refine lv_iload_n hx hb dX7_label_11 rfl (lv_at hl 2 rfl) ?_
    obtain ⟨r9, x8, e10, hf⟩ := bd_some hf
    refine gVi (As := [.int a1, .int a2]) (rest := []) (k := 0) hC hP hS (kX7_labelOf l D cy tX tY ad A hC.2.2.2.2.2.2.2.2.1 F x1 a1 a2 e10) glX7_68 ⟨rfl, rfl⟩ hdX7_labelOf ⟨Nat.le_of_ble_eq_true rfl, Nat.le_of_ble_eq_true rfl⟩ (by decide) (eM_0 cy ad _ _) rfl rfl hl.1 rfl (Nat.le_of_ble_eq_true rfl) dX7_label_12 ⟨Nat.zero_le _, Nat.zero_le _⟩ (fun H locs hP hS => ?_)
    refine lv_goto (tgt := 24) hx hb dX7_label_15 (by decide) ?_
    exact gIret hC hP hS hf dX7_label_24
set_option maxHeartbeats 4000000 in
set_option maxRecDepth 100000 in
theorem kX7_isLabel (l : Launch) (D : va_G) (cy : Nat → ClassId) (tX tY : Nat) (ad : Nat → Nat) (A : Nat → Prop) (hA : apart ad A 12) (F : Nat) (x : HT) (a1 : Int32) {z : Int32 × HT} (hf : fX7_isLabel F x a1 = some z) : Met l yX7_isLabel (Cond.code yX7_isLabel cX7_isLabel 2 (some .boolean) :: wAll) { frames := 1, cells := 0, slots := 0, locals := 22 } (cPc (eM cy ad) 12 ad D cy tX tY A [.ref (ad 0), .int a1] x) (cQi (eM cy ad) 12 ad D A z) 0 0 A := by
  refine gMet hA (by decide) (Nat.le_of_ble_eq_true rfl) (fun p e s m below meth c hC H locs ls hP hS hl => ?_)
  have hC : Cf p s m _ meth c cX7_isLabel 2 RX7 (some .boolean) D cy tX tY ad A 12 := hC
  have hl : lv_has ls 2 [(0, .ref (ad 0)), (1, .int a1)] := hl
  obtain ⟨hx, hb, -⟩ := id hC
  refine lv_iload_n hx hb dX7_isLabel_0 rfl (lv_at hl 1 rfl) ?_
  refine lv_iconst (v := 0) hx hb dX7_isLabel_1 (by decide) ?_
  refine lv_aload_n hx hb dX7_isLabel_2 rfl (lv_at hl 0 rfl) ?_
  refine gfX7_7 hC hP dX7_isLabel_3 ?_
  refine lv_iconst (v := 0) hx hb dX7_isLabel_6 (by decide) ?_
  obtain ⟨h1, hf⟩ := ck_some hf
  refine gIal hC hP 1 (by decide) (eM_1 cy ad _ _) h1 dX7_isLabel_7 ?_
  refine lv_aload_n hx hb dX7_isLabel_8 rfl (lv_at hl 0 rfl) ?_
  refine gfX7_7 hC hP dX7_isLabel_9 ?_
  refine lv_iconst (v := 1) hx hb dX7_isLabel_12 (by decide) ?_
  obtain ⟨h2, hf⟩ := ck_some hf
  refine gIal hC hP 1 (by decide) (eM_1 cy ad _ _) h2 dX7_isLabel_13 ?_
  refine lv_imul hx hb dX7_isLabel_14 ?_
  refine lv_iconst (v := 1) hx hb dX7_isLabel_15 (by decide) ?_
  refine lv_isub hx hb dX7_isLabel_16 ?_
  obtain ⟨r4, x3, e5, hf⟩ := bd_some hf
  refine gSi (As := [.int a1, .int (0 : Int32), .int (((x.1 1 (0 : Int32).toNatClampNeg) * (x.1 1 (1 : Int32).toNatClampNeg)) - (1 : Int32))]) (rest := []) hC hP hS (kX7_in l D cy tX tY ad A hC.2.2.2.2.2.2.2.2.1 F x a1 (0 : Int32) (((x.1 1 (0 : Int32).toNatClampNeg) * (x.1 1 (1 : Int32).toNatClampNeg)) - (1 : Int32)) e5) glX7_54 ⟨rfl, rfl⟩ hdX7_in ⟨Nat.le_of_ble_eq_true rfl, Nat.le_of_ble_eq_true rfl⟩ rfl hl.1 rfl (Nat.le_of_ble_eq_true rfl) dX7_isLabel_17 ⟨Nat.zero_le _, Nat.zero_le _⟩ (fun H locs hP hS => ?_)
  obtain ⟨h6, hf⟩ := ck_some hf
  exact gZret hC hP hS h6 hf dX7_isLabel_20
set_option maxHeartbeats 4000000 in
set_option maxRecDepth 100000 in
theorem kX7_toldOf (l : Launch) (D : va_G) (cy : Nat → ClassId) (tX tY : Nat) (ad : Nat → Nat) (A : Nat → Prop) (hA : apart ad A 12) (F : Nat) (x : HT) (a1 : Int32) {z : Int32 × HT} (hf : fX7_toldOf F x a1 = some z) : Met l yX7_toldOf (Cond.code yX7_toldOf cX7_toldOf 2 (some .int) :: wAll) { frames := 1, cells := 0, slots := 0, locals := 22 } (cPc (eM cy ad) 12 ad D cy tX tY A [.ref (ad 0), .int a1] x) (cQi (eM cy ad) 12 ad D A z) 0 0 A := by
  refine gMet hA (by decide) (Nat.le_of_ble_eq_true rfl) (fun p e s m below meth c hC H locs ls hP hS hl => ?_)
  have hC : Cf p s m _ meth c cX7_toldOf 2 RX7 (some .int) D cy tX tY ad A 12 := hC
  have hl : lv_has ls 2 [(0, .ref (ad 0)), (1, .int a1)] := hl
  obtain ⟨hx, hb, -⟩ := id hC
  refine lv_bipush (v := 10) hx hb dX7_toldOf_0 (by decide) ?_
  refine lv_aload_n hx hb dX7_toldOf_2 rfl (lv_at hl 0 rfl) ?_
  refine lv_iload_n hx hb dX7_toldOf_3 rfl (lv_at hl 1 rfl) ?_
  obtain ⟨r2, x1, e3, hf⟩ := bd_some hf
  refine gVi (As := [.int a1]) (rest := [.int (10 : Int32)]) (k := 0) hC hP hS (kX7_xOf l D cy tX tY ad A hC.2.2.2.2.2.2.2.2.1 F x a1 e3) glX7_58 ⟨rfl, rfl⟩ hdX7_xOf ⟨Nat.le_of_ble_eq_true rfl, Nat.le_of_ble_eq_true rfl⟩ (by decide) (eM_0 cy ad _ _) rfl rfl hl.1 rfl (Nat.le_of_ble_eq_true rfl) dX7_toldOf_4 ⟨Nat.zero_le _, Nat.zero_le _⟩ (fun H locs hP hS => ?_)
  refine lv_imul hx hb dX7_toldOf_7 ?_
  refine lv_aload_n hx hb dX7_toldOf_8 rfl (lv_at hl 0 rfl) ?_
  refine lv_iload_n hx hb dX7_toldOf_9 rfl (lv_at hl 1 rfl) ?_
  obtain ⟨r5, x4, e6, hf⟩ := bd_some hf
  refine gVi (As := [.int a1]) (rest := [.int ((10 : Int32) * r2)]) (k := 0) hC hP hS (kX7_yOf l D cy tX tY ad A hC.2.2.2.2.2.2.2.2.1 F x1 a1 e6) glX7_61 ⟨rfl, rfl⟩ hdX7_yOf ⟨Nat.le_of_ble_eq_true rfl, Nat.le_of_ble_eq_true rfl⟩ (by decide) (eM_0 cy ad _ _) rfl rfl hl.1 rfl (Nat.le_of_ble_eq_true rfl) dX7_toldOf_10 ⟨Nat.zero_le _, Nat.zero_le _⟩ (fun H locs hP hS => ?_)
  refine lv_iadd hx hb dX7_toldOf_13 ?_
  exact gIret hC hP hS hf dX7_toldOf_14
set_option maxHeartbeats 4000000 in
set_option maxRecDepth 100000 in
theorem kX7_place (l : Launch) (D : va_G) (cy : Nat → ClassId) (tX tY : Nat) (ad : Nat → Nat) (A : Nat → Prop) (hA : apart ad A 12) (F : Nat) (x : HT) (a1 : Int32) {z : Int32 × HT} (hf : fX7_place F x a1 = some z) : Met l yX7_place (Cond.code yX7_place cX7_place 2 (some .int) :: wAll) { frames := 2, cells := 0, slots := 0, locals := 43 } (cPc (eM cy ad) 12 ad D cy tX tY A [.ref (ad 0), .int a1] x) (cQi (eM cy ad) 12 ad D A z) 0 0 A := by
  refine gMet hA (by decide) (Nat.le_of_ble_eq_true rfl) (fun p e s m below meth c hC H locs ls hP hS hl => ?_)
  have hC : Cf p s m _ meth c cX7_place 2 RX7 (some .int) D cy tX tY ad A 12 := hC
  have hl : lv_has ls 2 [(0, .ref (ad 0)), (1, .int a1)] := hl
  obtain ⟨hx, hb, -⟩ := id hC
  refine lv_aload_n hx hb dX7_place_0 rfl (lv_at hl 0 rfl) ?_
  refine lv_iload_n hx hb dX7_place_1 rfl (lv_at hl 1 rfl) ?_
  obtain ⟨r2, x1, e3, hf⟩ := bd_some hf
  refine gVi (As := [.int a1]) (rest := []) (k := 0) hC hP hS (kX7_isLabel l D cy tX tY ad A hC.2.2.2.2.2.2.2.2.1 F x a1 e3) glX7_164 ⟨rfl, rfl⟩ hdX7_isLabel ⟨Nat.le_of_ble_eq_true rfl, Nat.le_of_ble_eq_true rfl⟩ (by decide) (eM_0 cy ad _ _) rfl rfl hl.1 rfl (Nat.le_of_ble_eq_true rfl) dX7_place_2 ⟨Nat.zero_le _, Nat.zero_le _⟩ (fun H locs hP hS => ?_)
  refine lv_if_eq (tgt := 16) hx hb dX7_place_5 (by decide) (fun c4 => ?_) (fun c4 => ?_)
  · have hf := it_t c4 hf
    refine lv_aload_n hx hb dX7_place_16 rfl (lv_at hl 0 rfl) ?_
    refine lv_bipush (v := -2) hx hb dX7_place_17 (by decide) ?_
    obtain ⟨r6, x5, e7, hf⟩ := bd_some hf
    refine gVi (As := [.int (-2 : Int32)]) (rest := []) (k := 0) hC hP hS (kX7_refuses l D cy tX tY ad A hC.2.2.2.2.2.2.2.2.1 F x1 (-2 : Int32) e7) glX7_47 ⟨rfl, rfl⟩ hdX7_refuses ⟨Nat.le_of_ble_eq_true rfl, Nat.le_of_ble_eq_true rfl⟩ (by decide) (eM_0 cy ad _ _) rfl rfl hl.1 rfl (Nat.le_of_ble_eq_true rfl) dX7_place_19 ⟨Nat.zero_le _, Nat.zero_le _⟩ (fun H locs hP hS => ?_)
    exact gIret hC hP hS hf dX7_place_22
  · have hf := it_f c4 hf
    refine lv_aload_n hx hb dX7_place_8 rfl (lv_at hl 0 rfl) ?_
    refine lv_iload_n hx hb dX7_place_9 rfl (lv_at hl 1 rfl) ?_
    obtain ⟨r9, x8, e10, hf⟩ := bd_some hf
    refine gVi (As := [.int a1]) (rest := []) (k := 0) hC hP hS (kX7_toldOf l D cy tX tY ad A hC.2.2.2.2.2.2.2.2.1 F x1 a1 e10) glX7_167 ⟨rfl, rfl⟩ hdX7_toldOf ⟨Nat.le_of_ble_eq_true rfl, Nat.le_of_ble_eq_true rfl⟩ (by decide) (eM_0 cy ad _ _) rfl rfl hl.1 rfl (Nat.le_of_ble_eq_true rfl) dX7_place_10 ⟨Nat.zero_le _, Nat.zero_le _⟩ (fun H locs hP hS => ?_)
    refine lv_goto (tgt := 22) hx hb dX7_place_13 (by decide) ?_
    exact gIret hC hP hS hf dX7_place_22
set_option maxHeartbeats 4000000 in
set_option maxRecDepth 100000 in
theorem tX7_next_37 (hC : Cf p s m args meth c cX7_next 5 RX7 (some .int) D cy tX tY ad A 12) (F : Nat) {z : Int32 × HT} : ∀ (x : HT) (a1 : Int32) (a2 : Int32) (a3 : Int32) (a4 : Int32), fX7_next_37 F x a1 a2 a3 a4 = some z → Wd p l e { frames := 4, cells := 0, slots := 0, locals := 95 } s m args below meth c D (eM cy ad) 12 ad A (cQi (eM cy ad) 12 ad D A z) 5 37 [(0, .ref (ad 0)), (1, .int a1), (2, .int a2), (3, .int a3), (4, .int a4)] [] x := by
  intro x a1 a2 a3 a4 hf H locs ls hP hS hl
  obtain ⟨hx, hb, -⟩ := id hC
  refine lv_aload_n hx hb dX7_next_37 rfl (lv_at hl 0 rfl) ?_
  refine lv_aload_n hx hb dX7_next_38 rfl (lv_at hl 0 rfl) ?_
  refine lv_aload_n hx hb dX7_next_39 rfl (lv_at hl 0 rfl) ?_
  refine lv_iload_n hx hb dX7_next_40 rfl (lv_at hl 1 rfl) ?_
  refine lv_iload_n hx hb dX7_next_41 rfl (lv_at hl 2 rfl) ?_
  obtain ⟨r12, x11, e13, hf⟩ := bd_some hf
  refine gVi (As := [.int a1, .int a2]) (rest := [.ref (ad 0), .ref (ad 0)]) (k := 0) hC hP hS (kX7_labelOf l D cy tX tY ad A hC.2.2.2.2.2.2.2.2.1 F x a1 a2 e13) glX7_68 ⟨rfl, rfl⟩ hdX7_labelOf ⟨Nat.le_of_ble_eq_true rfl, Nat.le_of_ble_eq_true rfl⟩ (by decide) (eM_0 cy ad _ _) rfl rfl hl.1 rfl (Nat.le_of_ble_eq_true rfl) dX7_next_42 ⟨Nat.zero_le _, Nat.zero_le _⟩ (fun H locs hP hS => ?_)
  refine lv_aload_n hx hb dX7_next_45 rfl (lv_at hl 0 rfl) ?_
  refine lv_iload_n hx hb dX7_next_46 rfl (lv_at hl 3 rfl) ?_
  refine lv_iload hx hb dX7_next_47 (lv_at hl 4 rfl) ?_
  obtain ⟨r15, x14, e16, hf⟩ := bd_some hf
  refine gVi (As := [.int a3, .int a4]) (rest := [.int r12, .ref (ad 0), .ref (ad 0)]) (k := 0) hC hP hS (kX7_labelOf l D cy tX tY ad A hC.2.2.2.2.2.2.2.2.1 F x11 a3 a4 e16) glX7_68 ⟨rfl, rfl⟩ hdX7_labelOf ⟨Nat.le_of_ble_eq_true rfl, Nat.le_of_ble_eq_true rfl⟩ (by decide) (eM_0 cy ad _ _) rfl rfl hl.1 rfl (Nat.le_of_ble_eq_true rfl) dX7_next_49 ⟨Nat.zero_le _, Nat.zero_le _⟩ (fun H locs hP hS => ?_)
  obtain ⟨r18, x17, e19, hf⟩ := bd_some hf
  refine gVi (As := [.int r12, .int r15]) (rest := [.ref (ad 0)]) (k := 0) hC hP hS (kX7_nextOf l D cy tX tY ad A hC.2.2.2.2.2.2.2.2.1 F x14 r12 r15 e19) glX7_75 ⟨rfl, rfl⟩ hdX7_nextOf ⟨Nat.le_of_ble_eq_true rfl, Nat.le_of_ble_eq_true rfl⟩ (by decide) (eM_0 cy ad _ _) rfl rfl hl.1 rfl (Nat.le_of_ble_eq_true rfl) dX7_next_52 ⟨Nat.zero_le _, Nat.zero_le _⟩ (fun H locs hP hS => ?_)
  obtain ⟨r21, x20, e22, hf⟩ := bd_some hf
  refine gVi (As := [.int r18]) (rest := []) (k := 0) hC hP hS (kX7_toldOf l D cy tX tY ad A hC.2.2.2.2.2.2.2.2.1 F x17 r18 e22) glX7_167 ⟨rfl, rfl⟩ hdX7_toldOf ⟨Nat.le_of_ble_eq_true rfl, Nat.le_of_ble_eq_true rfl⟩ (by decide) (eM_0 cy ad _ _) rfl rfl hl.1 rfl (Nat.le_of_ble_eq_true rfl) dX7_next_55 ⟨Nat.zero_le _, Nat.zero_le _⟩ (fun H locs hP hS => ?_)
  exact gIret hC hP hS hf dX7_next_58
set_option maxHeartbeats 4000000 in
set_option maxRecDepth 100000 in
theorem tX7_next_30 (hC : Cf p s m args meth c cX7_next 5 RX7 (some .int) D cy tX tY ad A 12) (F : Nat) {z : Int32 × HT} : ∀ (x : HT), fX7_next_30 F x = some z → Wd p l e { frames := 4, cells := 0, slots := 0, locals := 95 } s m args below meth c D (eM cy ad) 12 ad A (cQi (eM cy ad) 12 ad D A z) 5 30 [(0, .ref (ad 0))] [] x := by
  intro x hf H locs ls hP hS hl
  obtain ⟨hx, hb, -⟩ := id hC
  refine lv_aload_n hx hb dX7_next_30 rfl (lv_at hl 0 rfl) ?_
  refine lv_bipush (v := -2) hx hb dX7_next_31 (by decide) ?_
  obtain ⟨r24, x23, e25, hf⟩ := bd_some hf
  refine gVi (As := [.int (-2 : Int32)]) (rest := []) (k := 0) hC hP hS (kX7_refuses l D cy tX tY ad A hC.2.2.2.2.2.2.2.2.1 F x (-2 : Int32) e25) glX7_47 ⟨rfl, rfl⟩ hdX7_refuses ⟨Nat.le_of_ble_eq_true rfl, Nat.le_of_ble_eq_true rfl⟩ (by decide) (eM_0 cy ad _ _) rfl rfl hl.1 rfl (Nat.le_of_ble_eq_true rfl) dX7_next_33 ⟨Nat.zero_le _, Nat.zero_le _⟩ (fun H locs hP hS => ?_)
  exact gIret hC hP hS hf dX7_next_36
set_option maxHeartbeats 4000000 in
set_option maxRecDepth 100000 in
theorem kX7_next (l : Launch) (D : va_G) (cy : Nat → ClassId) (tX tY : Nat) (ad : Nat → Nat) (A : Nat → Prop) (hA : apart ad A 12) (F : Nat) (x : HT) (a1 : Int32) (a2 : Int32) (a3 : Int32) (a4 : Int32) {z : Int32 × HT} (hf : fX7_next F x a1 a2 a3 a4 = some z) : Met l yX7_next (Cond.code yX7_next cX7_next 5 (some .int) :: wAll) { frames := 4, cells := 0, slots := 0, locals := 95 } (cPc (eM cy ad) 12 ad D cy tX tY A [.ref (ad 0), .int a1, .int a2, .int a3, .int a4] x) (cQi (eM cy ad) 12 ad D A z) 0 0 A := by
  refine gMet hA (by decide) (Nat.le_of_ble_eq_true rfl) (fun p e s m below meth c hC H locs ls hP hS hl => ?_)
  have hC : Cf p s m _ meth c cX7_next 5 RX7 (some .int) D cy tX tY ad A 12 := hC
  have hl : lv_has ls 5 [(0, .ref (ad 0)), (1, .int a1), (2, .int a2), (3, .int a3), (4, .int a4)] := hl
  obtain ⟨hx, hb, -⟩ := id hC
  refine lv_aload_n hx hb dX7_next_0 rfl (lv_at hl 0 rfl) ?_
  refine lv_iload_n hx hb dX7_next_1 rfl (lv_at hl 1 rfl) ?_
  refine lv_iload_n hx hb dX7_next_2 rfl (lv_at hl 2 rfl) ?_
  obtain ⟨r2, x1, e3, hf⟩ := bd_some hf
  refine gVi (As := [.int a1, .int a2]) (rest := []) (k := 0) hC hP hS (kX7_isPlace l D cy tX tY ad A hC.2.2.2.2.2.2.2.2.1 F x a1 a2 e3) glX7_64 ⟨rfl, rfl⟩ hdX7_isPlace ⟨Nat.le_of_ble_eq_true rfl, Nat.le_of_ble_eq_true rfl⟩ (by decide) (eM_0 cy ad _ _) rfl rfl hl.1 rfl (Nat.le_of_ble_eq_true rfl) dX7_next_3 ⟨Nat.zero_le _, Nat.zero_le _⟩ (fun H locs hP hS => ?_)
  refine lv_if_eq (tgt := 30) hx hb dX7_next_6 (by decide) (fun c4 => ?_) (fun c4 => ?_)
  · have hf := it_t c4 hf
    exact tX7_next_30 hC F x1 hf H locs ls hP hS (lv_sub hl [0] rfl)
  · have hf := it_f c4 hf
    refine lv_aload_n hx hb dX7_next_9 rfl (lv_at hl 0 rfl) ?_
    refine lv_iload_n hx hb dX7_next_10 rfl (lv_at hl 3 rfl) ?_
    refine lv_iload hx hb dX7_next_11 (lv_at hl 4 rfl) ?_
    obtain ⟨r6, x5, e7, hf⟩ := bd_some hf
    refine gVi (As := [.int a3, .int a4]) (rest := []) (k := 0) hC hP hS (kX7_isPlace l D cy tX tY ad A hC.2.2.2.2.2.2.2.2.1 F x1 a3 a4 e7) glX7_64 ⟨rfl, rfl⟩ hdX7_isPlace ⟨Nat.le_of_ble_eq_true rfl, Nat.le_of_ble_eq_true rfl⟩ (by decide) (eM_0 cy ad _ _) rfl rfl hl.1 rfl (Nat.le_of_ble_eq_true rfl) dX7_next_13 ⟨Nat.zero_le _, Nat.zero_le _⟩ (fun H locs hP hS => ?_)
    refine lv_if_eq (tgt := 30) hx hb dX7_next_16 (by decide) (fun c8 => ?_) (fun c8 => ?_)
    · have hf := it_t c8 hf
      exact tX7_next_30 hC F x5 hf H locs ls hP hS (lv_sub hl [0] rfl)
    · have hf := it_f c8 hf
      refine lv_iload_n hx hb dX7_next_19 rfl (lv_at hl 1 rfl) ?_
      refine lv_iload_n hx hb dX7_next_20 rfl (lv_at hl 3 rfl) ?_
      refine lv_icmp_ne (tgt := 37) hx hb dX7_next_21 (by decide) (fun c9 => ?_) (fun c9 => ?_)
      · have hf := it_f c9 hf
        exact tX7_next_37 hC F x5 a1 a2 a3 a4 hf H locs ls hP hS (lv_sub hl [0, 1, 2, 3, 4] rfl)
      · have hf := it_t c9 hf
        refine lv_iload_n hx hb dX7_next_24 rfl (lv_at hl 2 rfl) ?_
        refine lv_iload hx hb dX7_next_25 (lv_at hl 4 rfl) ?_
        refine lv_icmp_ne (tgt := 37) hx hb dX7_next_27 (by decide) (fun c10 => ?_) (fun c10 => ?_)
        · have hf := it_f c10 hf
          exact tX7_next_37 hC F x5 a1 a2 a3 a4 hf H locs ls hP hS (lv_sub hl [0, 1, 2, 3, 4] rfl)
        · have hf := it_t c10 hf
          exact tX7_next_30 hC F x5 hf H locs ls hP hS (lv_sub hl [0] rfl)
set_option maxHeartbeats 4000000 in
set_option maxRecDepth 100000 in
theorem tX7_farOf_5b (hC : Cf p s m args meth c cX7_farOf 5 RX7 (some .int) D cy tX tY ad A 12) (F : Nat) {z : Int32 × HT} (rec5 : HT → Int32 → Int32 → Int32 → Option (Int32 × HT)) (hrec5 : ∀ (x : HT) (a2 : Int32) (a3 : Int32) (a4 : Int32), rec5 x a2 a3 a4 = some z → Wd p l e { frames := 4, cells := 0, slots := 0, locals := 95 } s m args below meth c D (eM cy ad) 12 ad A (cQi (eM cy ad) 12 ad D A z) 5 5 [(0, .ref (ad 0)), (2, .int a2), (3, .int a3), (4, .int a4)] [] x) : ∀ (x : HT) (a2 : Int32) (a3 : Int32) (a4 : Int32), fX7_farOf_5b F rec5 x a2 a3 a4 = some z → Wd p l e { frames := 4, cells := 0, slots := 0, locals := 95 } s m args below meth c D (eM cy ad) 12 ad A (cQi (eM cy ad) 12 ad D A z) 5 5 [(0, .ref (ad 0)), (2, .int a2), (3, .int a3), (4, .int a4)] [] x := by
  intro x a2 a3 a4 hf H locs ls hP hS hl
  obtain ⟨hx, hb, -⟩ := id hC
  refine lv_iload hx hb dX7_farOf_5 (lv_at hl 3 rfl) ?_
  refine lv_iload_n hx hb dX7_farOf_7 rfl (lv_at hl 1 rfl) ?_
  refine lv_icmp_eq (tgt := 26) hx hb dX7_farOf_8 (by decide) (fun c1 => ?_) (fun c1 => ?_)
  · have hf := it_t c1 hf
    refine lv_iload_n hx hb dX7_farOf_26 rfl (lv_at hl 2 rfl) ?_
    exact gIret hC hP hS hf dX7_farOf_27
  · have hf := it_f c1 hf
    refine lv_aload_n hx hb dX7_farOf_11 rfl (lv_at hl 0 rfl) ?_
    refine lv_iload hx hb dX7_farOf_12 (lv_at hl 3 rfl) ?_
    refine lv_iload_n hx hb dX7_farOf_14 rfl (lv_at hl 1 rfl) ?_
    obtain ⟨r3, x2, e4, hf⟩ := bd_some hf
    refine gVi (As := [.int a4, .int a2]) (rest := []) (k := 0) hC hP hS (kX7_nextOf l D cy tX tY ad A hC.2.2.2.2.2.2.2.2.1 F x a4 a2 e4) glX7_75 ⟨rfl, rfl⟩ hdX7_nextOf ⟨Nat.le_of_ble_eq_true rfl, Nat.le_of_ble_eq_true rfl⟩ (by decide) (eM_0 cy ad _ _) rfl rfl hl.1 rfl (Nat.le_of_ble_eq_true rfl) dX7_farOf_15 ⟨Nat.zero_le _, Nat.zero_le _⟩ (fun H locs hP hS => ?_)
    refine lv_istore (lv' := [(4, .int r3), (0, .ref (ad 0)), (2, .int a2), (3, .int a3)]) hx hb dX7_farOf_18 hl (by decide) rfl (fun ls hl => ?_)
    obtain ⟨b5, e6, hf⟩ := lt_some hf
    refine lv_iinc (v := b5) (lv' := [(3, .int b5), (4, .int r3), (0, .ref (ad 0)), (2, .int a2)]) hx hb dX7_farOf_20 hl (k := 3) rfl (by rw [e6]; rfl) (by decide) rfl (fun ls hl => ?_)
    refine lv_goto (tgt := 5) hx hb dX7_farOf_23 (by decide) ?_
    exact hrec5 x2 a2 b5 r3 hf H locs ls hP hS (lv_sub hl [2, 3, 0, 1] rfl)
theorem tX7_farOf_5 (hC : Cf p s m args meth c cX7_farOf 5 RX7 (some .int) D cy tX tY ad A 12) (F : Nat) {z : Int32 × HT} : ∀ (n9 : Nat) (x : HT) (a2 : Int32) (a3 : Int32) (a4 : Int32), fX7_farOf_5 F n9 x a2 a3 a4 = some z → Wd p l e { frames := 4, cells := 0, slots := 0, locals := 95 } s m args below meth c D (eM cy ad) 12 ad A (cQi (eM cy ad) 12 ad D A z) 5 5 [(0, .ref (ad 0)), (2, .int a2), (3, .int a3), (4, .int a4)] [] x := by
  intro n9
  induction n9 with
  | zero => intro x a2 a3 a4 hf; cases hf
  | succ n9 ih => intro x a2 a3 a4 hf; exact tX7_farOf_5b hC F (fX7_farOf_5 F n9) ih x a2 a3 a4 hf
set_option maxHeartbeats 4000000 in
set_option maxRecDepth 100000 in
theorem kX7_farOf (l : Launch) (D : va_G) (cy : Nat → ClassId) (tX tY : Nat) (ad : Nat → Nat) (A : Nat → Prop) (hA : apart ad A 12) (F : Nat) (x : HT) (a1 : Int32) (a2 : Int32) {z : Int32 × HT} (hf : fX7_farOf F x a1 a2 = some z) : Met l yX7_farOf (Cond.code yX7_farOf cX7_farOf 5 (some .int) :: wAll) { frames := 4, cells := 0, slots := 0, locals := 95 } (cPc (eM cy ad) 12 ad D cy tX tY A [.ref (ad 0), .int a1, .int a2] x) (cQi (eM cy ad) 12 ad D A z) 0 0 A := by
  refine gMet hA (by decide) (Nat.le_of_ble_eq_true rfl) (fun p e s m below meth c hC H locs ls hP hS hl => ?_)
  have hC : Cf p s m _ meth c cX7_farOf 5 RX7 (some .int) D cy tX tY ad A 12 := hC
  have hl : lv_has ls 5 [(0, .ref (ad 0)), (1, .int a1), (2, .int a2)] := hl
  obtain ⟨hx, hb, -⟩ := id hC
  refine lv_iconst (v := 0) hx hb dX7_farOf_0 (by decide) ?_
  refine lv_istore_n (lv' := [(3, .int (0 : Int32)), (0, .ref (ad 0)), (1, .int a1), (2, .int a2)]) hx hb dX7_farOf_1 rfl hl (by decide) rfl (fun ls hl => ?_)
  refine lv_iload_n hx hb dX7_farOf_2 rfl (lv_at hl 2 rfl) ?_
  refine lv_istore (lv' := [(4, .int a1), (3, .int (0 : Int32)), (0, .ref (ad 0)), (1, .int a1), (2, .int a2)]) hx hb dX7_farOf_3 hl (by decide) rfl (fun ls hl => ?_)
  exact tX7_farOf_5 hC F F x a2 (0 : Int32) a1 hf H locs ls hP hS (lv_sub hl [2, 4, 1, 0] rfl)
