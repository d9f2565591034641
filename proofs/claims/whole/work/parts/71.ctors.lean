-- ===== constructors that make rows alone =====
def cS (cy : Nat → ClassId) (q : Nat → Nat) (k : Nat) : Nat × va_E := (q k, if k = 0 then .inr (2, [.int 0, .int 0, .int 0, .int 0, .ref (q 1), .ref (q 2), .ref (q 3), .ref (q 4), .ref (q 5), .ref (q 6)]) else if k = 4 then .inl (cy 1, 5, .inr (.inl (fun _ => 0))) else .inl (cy 0, [0, 36, 5, 5, 0, 10, 10].getD k 0, .inl (fun _ => 0)))
def cG (cy : Nat → ClassId) (q : Nat → Nat) (k : Nat) : Nat × va_E := (q k, if k = 0 then .inr (0, [.int 0, .int 0, .ref (q 1), .ref (q 2), .ref (q 3)]) else .inl (cy 0, [0, 36, 36, 144].getD k 0, .inl (fun _ => 0)))
def cT (cy : Nat → ClassId) (q : Nat → Nat) (k : Nat) : Nat × va_E := (q k, if k = 0 then .inr (3, [.ref (q 1), .int 0, .ref (q 2), .ref (q 3), .int 0, .int 0]) else .inl (cy 0, [0, 120, 60, 180].getD k 0, .inl (fun _ => 0)))
def cR (cy : Nat → ClassId) (q : Nat → Nat) (k : Nat) : Nat × va_E := (q k, if k = 0 then .inr (4, [.ref (q 1)]) else .inl (cy 2, 144, .inl (fun _ => 0)))
def m0 : HT := (fun c => if c = 1 then upd (upd (fun _ => 0) 0 4) 1 4 else fun _ => 0, fun _ _ => 0)
def cM (cy : Nat → ClassId) (q : Nat → Nat) (k : Nat) : Nat × va_E := (q k, eM cy q k (m0.1 k) (m0.2 k))
set_option maxHeartbeats 4000000 in
set_option maxRecDepth 100000 in
theorem kiS (l : Launch) (D : va_G) (cy : Nat → ClassId) (h0 sz : Nat) : Met l yX2_init (Cond.code yX2_init cX2_init 1 none :: wAll) { frames := 1, cells := 6, slots := 71, locals := 12 } (iPc D cy [.ref h0] h0 sz (.inr (2, [.int 0, .int 0, .int 0, .int 0, .null, .null, .null, .null, .null, .null]))) (iQ D 7 (cS cy) h0 (va_A [(h0, .inr (2, [.int 0, .int 0, .int 0, .int 0, .null, .null, .null, .null, .null, .null]))] sz)) 6 71 (va_A [(h0, .inr (2, [.int 0, .int 0, .int 0, .int 0, .null, .null, .null, .null, .null, .null]))] sz) := by
  refine iMet (by decide) rfl (Nat.le_of_ble_eq_true rfl) (fun p e s m below meth c hC hsz ls hP hl => ?_)
  have hC : Ci p s m _ meth c cX2_init 1 RX2 D cy := hC
  have hl : lv_has ls 1 [(0, .ref h0)] := hl
  obtain ⟨hx, hb, hml9, hown9, hts9, hr9, hK9, -⟩ := id hC
  generalize hAe : va_A [(h0, .inr (2, [.int 0, .int 0, .int 0, .int 0, .null, .null, .null, .null, .null, .null]))] sz = A
  have hA : ∀ q : Nat, s.heap.size ≤ q → A q := fun q h => by rw [← hAe, ← hsz]; exact Or.inr h
  have hS : va_S A s.heap s.heap [] := va_S.rf
  have hD : va_D A [(h0, (.inr (2, [.int 0, .int 0, .int 0, .int 0, .null, .null, .null, .null, .null, .null]) : va_E))] := va_D1 (by rw [← hAe]; exact Or.inl ⟨0, _, rfl⟩)
  refine lv_aload_n hx hb dX2_init_0 rfl (lv_at hl 0 rfl) ?_
  refine iObj hC (idx := 3) (by decide +kernel) hl.1 ⟨Nat.le_of_ble_eq_true rfl, Nat.le_of_ble_eq_true rfl⟩ dX2_init_1 ?_
  refine lv_aload_n hx hb dX2_init_4 rfl (lv_at hl 0 rfl) ?_
  refine lv_bipush (v := 36) hx hb dX2_init_5 (by decide) ?_
  refine iNewI hC hP hD hS hA (N := 36) (by decide) (by decide) (Nat.le_of_ble_eq_true rfl) (Nat.le_of_ble_eq_true rfl) (Nat.le_of_ble_eq_true rfl) dX2_init_7 (fun q1 H hP hD hS => ?_)
  have hP : va_P D vwCl [(h0, .inr (2, [.int 0, .int 0, .int 0, .int 0, .null, .null, .null, .null, .null, .null])), (q1, .inl (cy 0, 36, .inl (fun _ => 0)))] H := hP
  have hD : va_D A [(h0, .inr (2, [.int 0, .int 0, .int 0, .int 0, .null, .null, .null, .null, .null, .null])), (q1, .inl (cy 0, 36, .inl (fun _ => 0)))] := hD
  refine iPutF hC hP hD hS (ci := 2) (N := 10) (T := TX2) rfl iX2 tyX2_ok nmX2 4 (by decide) (index := 9) (by decide +kernel) rfl rfl (ty := .array .int) (by decide +kernel) rfl rfl (Nat.le_of_ble_eq_true rfl) dX2_init_9 (fun H locs hP hD hS => ?_)
  have hP : va_P D vwCl [(h0, .inr (2, [.int 0, .int 0, .int 0, .int 0, .ref q1, .null, .null, .null, .null, .null])), (q1, .inl (cy 0, 36, .inl (fun _ => 0)))] H := hP
  have hD : va_D A [(h0, .inr (2, [.int 0, .int 0, .int 0, .int 0, .ref q1, .null, .null, .null, .null, .null])), (q1, .inl (cy 0, 36, .inl (fun _ => 0)))] := hD
  refine lv_aload_n hx hb dX2_init_12 rfl (lv_at hl 0 rfl) ?_
  refine lv_iconst (v := 5) hx hb dX2_init_13 (by decide) ?_
  refine iNewI hC hP hD hS hA (N := 5) (by decide) (by decide) (Nat.le_of_ble_eq_true rfl) (Nat.le_of_ble_eq_true rfl) (Nat.le_of_ble_eq_true rfl) dX2_init_14 (fun q2 H hP hD hS => ?_)
  have hP : va_P D vwCl [(h0, .inr (2, [.int 0, .int 0, .int 0, .int 0, .ref q1, .null, .null, .null, .null, .null])), (q1, .inl (cy 0, 36, .inl (fun _ => 0))), (q2, .inl (cy 0, 5, .inl (fun _ => 0)))] H := hP
  have hD : va_D A [(h0, .inr (2, [.int 0, .int 0, .int 0, .int 0, .ref q1, .null, .null, .null, .null, .null])), (q1, .inl (cy 0, 36, .inl (fun _ => 0))), (q2, .inl (cy 0, 5, .inl (fun _ => 0)))] := hD
  refine iPutF hC hP hD hS (ci := 2) (N := 10) (T := TX2) rfl iX2 tyX2_ok nmX2 5 (by decide) (index := 15) (by decide +kernel) rfl rfl (ty := .array .int) (by decide +kernel) rfl rfl (Nat.le_of_ble_eq_true rfl) dX2_init_16 (fun H locs hP hD hS => ?_)
  have hP : va_P D vwCl [(h0, .inr (2, [.int 0, .int 0, .int 0, .int 0, .ref q1, .ref q2, .null, .null, .null, .null])), (q1, .inl (cy 0, 36, .inl (fun _ => 0))), (q2, .inl (cy 0, 5, .inl (fun _ => 0)))] H := hP
  have hD : va_D A [(h0, .inr (2, [.int 0, .int 0, .int 0, .int 0, .ref q1, .ref q2, .null, .null, .null, .null])), (q1, .inl (cy 0, 36, .inl (fun _ => 0))), (q2, .inl (cy 0, 5, .inl (fun _ => 0)))] := hD
  refine lv_aload_n hx hb dX2_init_19 rfl (lv_at hl 0 rfl) ?_
  refine lv_iconst (v := 5) hx hb dX2_init_20 (by decide) ?_
  refine iNewI hC hP hD hS hA (N := 5) (by decide) (by decide) (Nat.le_of_ble_eq_true rfl) (Nat.le_of_ble_eq_true rfl) (Nat.le_of_ble_eq_true rfl) dX2_init_21 (fun q3 H hP hD hS => ?_)
  have hP : va_P D vwCl [(h0, .inr (2, [.int 0, .int 0, .int 0, .int 0, .ref q1, .ref q2, .null, .null, .null, .null])), (q1, .inl (cy 0, 36, .inl (fun _ => 0))), (q2, .inl (cy 0, 5, .inl (fun _ => 0))), (q3, .inl (cy 0, 5, .inl (fun _ => 0)))] H := hP
  have hD : va_D A [(h0, .inr (2, [.int 0, .int 0, .int 0, .int 0, .ref q1, .ref q2, .null, .null, .null, .null])), (q1, .inl (cy 0, 36, .inl (fun _ => 0))), (q2, .inl (cy 0, 5, .inl (fun _ => 0))), (q3, .inl (cy 0, 5, .inl (fun _ => 0)))] := hD
  refine iPutF hC hP hD hS (ci := 2) (N := 10) (T := TX2) rfl iX2 tyX2_ok nmX2 6 (by decide) (index := 18) (by decide +kernel) rfl rfl (ty := .array .int) (by decide +kernel) rfl rfl (Nat.le_of_ble_eq_true rfl) dX2_init_23 (fun H locs hP hD hS => ?_)
  have hP : va_P D vwCl [(h0, .inr (2, [.int 0, .int 0, .int 0, .int 0, .ref q1, .ref q2, .ref q3, .null, .null, .null])), (q1, .inl (cy 0, 36, .inl (fun _ => 0))), (q2, .inl (cy 0, 5, .inl (fun _ => 0))), (q3, .inl (cy 0, 5, .inl (fun _ => 0)))] H := hP
  have hD : va_D A [(h0, .inr (2, [.int 0, .int 0, .int 0, .int 0, .ref q1, .ref q2, .ref q3, .null, .null, .null])), (q1, .inl (cy 0, 36, .inl (fun _ => 0))), (q2, .inl (cy 0, 5, .inl (fun _ => 0))), (q3, .inl (cy 0, 5, .inl (fun _ => 0)))] := hD
  refine lv_aload_n hx hb dX2_init_26 rfl (lv_at hl 0 rfl) ?_
  refine lv_iconst (v := 5) hx hb dX2_init_27 (by decide) ?_
  refine iNewL hC hP hD hS hA (N := 5) (by decide) (by decide) (Nat.le_of_ble_eq_true rfl) (Nat.le_of_ble_eq_true rfl) (Nat.le_of_ble_eq_true rfl) dX2_init_28 (fun q4 H hP hD hS => ?_)
  have hP : va_P D vwCl [(h0, .inr (2, [.int 0, .int 0, .int 0, .int 0, .ref q1, .ref q2, .ref q3, .null, .null, .null])), (q1, .inl (cy 0, 36, .inl (fun _ => 0))), (q2, .inl (cy 0, 5, .inl (fun _ => 0))), (q3, .inl (cy 0, 5, .inl (fun _ => 0))), (q4, .inl (cy 1, 5, .inr (.inl (fun _ => 0))))] H := hP
  have hD : va_D A [(h0, .inr (2, [.int 0, .int 0, .int 0, .int 0, .ref q1, .ref q2, .ref q3, .null, .null, .null])), (q1, .inl (cy 0, 36, .inl (fun _ => 0))), (q2, .inl (cy 0, 5, .inl (fun _ => 0))), (q3, .inl (cy 0, 5, .inl (fun _ => 0))), (q4, .inl (cy 1, 5, .inr (.inl (fun _ => 0))))] := hD
  refine iPutF hC hP hD hS (ci := 2) (N := 10) (T := TX2) rfl iX2 tyX2_ok nmX2 7 (by decide) (index := 21) (by decide +kernel) rfl rfl (ty := .array .long) (by decide +kernel) rfl rfl (Nat.le_of_ble_eq_true rfl) dX2_init_30 (fun H locs hP hD hS => ?_)
  have hP : va_P D vwCl [(h0, .inr (2, [.int 0, .int 0, .int 0, .int 0, .ref q1, .ref q2, .ref q3, .ref q4, .null, .null])), (q1, .inl (cy 0, 36, .inl (fun _ => 0))), (q2, .inl (cy 0, 5, .inl (fun _ => 0))), (q3, .inl (cy 0, 5, .inl (fun _ => 0))), (q4, .inl (cy 1, 5, .inr (.inl (fun _ => 0))))] H := hP
  have hD : va_D A [(h0, .inr (2, [.int 0, .int 0, .int 0, .int 0, .ref q1, .ref q2, .ref q3, .ref q4, .null, .null])), (q1, .inl (cy 0, 36, .inl (fun _ => 0))), (q2, .inl (cy 0, 5, .inl (fun _ => 0))), (q3, .inl (cy 0, 5, .inl (fun _ => 0))), (q4, .inl (cy 1, 5, .inr (.inl (fun _ => 0))))] := hD
  refine lv_aload_n hx hb dX2_init_33 rfl (lv_at hl 0 rfl) ?_
  refine lv_bipush (v := 10) hx hb dX2_init_34 (by decide) ?_
  refine iNewI hC hP hD hS hA (N := 10) (by decide) (by decide) (Nat.le_of_ble_eq_true rfl) (Nat.le_of_ble_eq_true rfl) (Nat.le_of_ble_eq_true rfl) dX2_init_36 (fun q5 H hP hD hS => ?_)
  have hP : va_P D vwCl [(h0, .inr (2, [.int 0, .int 0, .int 0, .int 0, .ref q1, .ref q2, .ref q3, .ref q4, .null, .null])), (q1, .inl (cy 0, 36, .inl (fun _ => 0))), (q2, .inl (cy 0, 5, .inl (fun _ => 0))), (q3, .inl (cy 0, 5, .inl (fun _ => 0))), (q4, .inl (cy 1, 5, .inr (.inl (fun _ => 0)))), (q5, .inl (cy 0, 10, .inl (fun _ => 0)))] H := hP
  have hD : va_D A [(h0, .inr (2, [.int 0, .int 0, .int 0, .int 0, .ref q1, .ref q2, .ref q3, .ref q4, .null, .null])), (q1, .inl (cy 0, 36, .inl (fun _ => 0))), (q2, .inl (cy 0, 5, .inl (fun _ => 0))), (q3, .inl (cy 0, 5, .inl (fun _ => 0))), (q4, .inl (cy 1, 5, .inr (.inl (fun _ => 0)))), (q5, .inl (cy 0, 10, .inl (fun _ => 0)))] := hD
  refine iPutF hC hP hD hS (ci := 2) (N := 10) (T := TX2) rfl iX2 tyX2_ok nmX2 8 (by decide) (index := 25) (by decide +kernel) rfl rfl (ty := .array .int) (by decide +kernel) rfl rfl (Nat.le_of_ble_eq_true rfl) dX2_init_38 (fun H locs hP hD hS => ?_)
  have hP : va_P D vwCl [(h0, .inr (2, [.int 0, .int 0, .int 0, .int 0, .ref q1, .ref q2, .ref q3, .ref q4, .ref q5, .null])), (q1, .inl (cy 0, 36, .inl (fun _ => 0))), (q2, .inl (cy 0, 5, .inl (fun _ => 0))), (q3, .inl (cy 0, 5, .inl (fun _ => 0))), (q4, .inl (cy 1, 5, .inr (.inl (fun _ => 0)))), (q5, .inl (cy 0, 10, .inl (fun _ => 0)))] H := hP
  have hD : va_D A [(h0, .inr (2, [.int 0, .int 0, .int 0, .int 0, .ref q1, .ref q2, .ref q3, .ref q4, .ref q5, .null])), (q1, .inl (cy 0, 36, .inl (fun _ => 0))), (q2, .inl (cy 0, 5, .inl (fun _ => 0))), (q3, .inl (cy 0, 5, .inl (fun _ => 0))), (q4, .inl (cy 1, 5, .inr (.inl (fun _ => 0)))), (q5, .inl (cy 0, 10, .inl (fun _ => 0)))] := hD
  refine lv_aload_n hx hb dX2_init_41 rfl (lv_at hl 0 rfl) ?_
  refine lv_bipush (v := 10) hx hb dX2_init_42 (by decide) ?_
  refine iNewI hC hP hD hS hA (N := 10) (by decide) (by decide) (Nat.le_of_ble_eq_true rfl) (Nat.le_of_ble_eq_true rfl) (Nat.le_of_ble_eq_true rfl) dX2_init_44 (fun q6 H hP hD hS => ?_)
  have hP : va_P D vwCl [(h0, .inr (2, [.int 0, .int 0, .int 0, .int 0, .ref q1, .ref q2, .ref q3, .ref q4, .ref q5, .null])), (q1, .inl (cy 0, 36, .inl (fun _ => 0))), (q2, .inl (cy 0, 5, .inl (fun _ => 0))), (q3, .inl (cy 0, 5, .inl (fun _ => 0))), (q4, .inl (cy 1, 5, .inr (.inl (fun _ => 0)))), (q5, .inl (cy 0, 10, .inl (fun _ => 0))), (q6, .inl (cy 0, 10, .inl (fun _ => 0)))] H := hP
  have hD : va_D A [(h0, .inr (2, [.int 0, .int 0, .int 0, .int 0, .ref q1, .ref q2, .ref q3, .ref q4, .ref q5, .null])), (q1, .inl (cy 0, 36, .inl (fun _ => 0))), (q2, .inl (cy 0, 5, .inl (fun _ => 0))), (q3, .inl (cy 0, 5, .inl (fun _ => 0))), (q4, .inl (cy 1, 5, .inr (.inl (fun _ => 0)))), (q5, .inl (cy 0, 10, .inl (fun _ => 0))), (q6, .inl (cy 0, 10, .inl (fun _ => 0)))] := hD
  refine iPutF hC hP hD hS (ci := 2) (N := 10) (T := TX2) rfl iX2 tyX2_ok nmX2 9 (by decide) (index := 28) (by decide +kernel) rfl rfl (ty := .array .int) (by decide +kernel) rfl rfl (Nat.le_of_ble_eq_true rfl) dX2_init_46 (fun H locs hP hD hS => ?_)
  have hP : va_P D vwCl [(h0, .inr (2, [.int 0, .int 0, .int 0, .int 0, .ref q1, .ref q2, .ref q3, .ref q4, .ref q5, .ref q6])), (q1, .inl (cy 0, 36, .inl (fun _ => 0))), (q2, .inl (cy 0, 5, .inl (fun _ => 0))), (q3, .inl (cy 0, 5, .inl (fun _ => 0))), (q4, .inl (cy 1, 5, .inr (.inl (fun _ => 0)))), (q5, .inl (cy 0, 10, .inl (fun _ => 0))), (q6, .inl (cy 0, 10, .inl (fun _ => 0)))] H := hP
  have hD : va_D A [(h0, .inr (2, [.int 0, .int 0, .int 0, .int 0, .ref q1, .ref q2, .ref q3, .ref q4, .ref q5, .ref q6])), (q1, .inl (cy 0, 36, .inl (fun _ => 0))), (q2, .inl (cy 0, 5, .inl (fun _ => 0))), (q3, .inl (cy 0, 5, .inl (fun _ => 0))), (q4, .inl (cy 1, 5, .inr (.inl (fun _ => 0)))), (q5, .inl (cy 0, 10, .inl (fun _ => 0))), (q6, .inl (cy 0, 10, .inl (fun _ => 0)))] := hD
  exact iRet hC (q := fun k => [h0, q1, q2, q3, q4, q5, q6].getD k 0) rfl hP hD hS rfl rfl dX2_init_49
set_option maxHeartbeats 4000000 in
set_option maxRecDepth 100000 in
theorem kiG (l : Launch) (D : va_G) (cy : Nat → ClassId) (h0 sz : Nat) : Met l yX0_init (Cond.code yX0_init cX0_init 1 none :: wAll) { frames := 1, cells := 3, slots := 216, locals := 12 } (iPc D cy [.ref h0] h0 sz (.inr (0, [.int 0, .int 0, .null, .null, .null]))) (iQ D 4 (cG cy) h0 (va_A [(h0, .inr (0, [.int 0, .int 0, .null, .null, .null]))] sz)) 3 216 (va_A [(h0, .inr (0, [.int 0, .int 0, .null, .null, .null]))] sz) := by
  refine iMet (by decide) rfl (Nat.le_of_ble_eq_true rfl) (fun p e s m below meth c hC hsz ls hP hl => ?_)
  have hC : Ci p s m _ meth c cX0_init 1 RX0 D cy := hC
  have hl : lv_has ls 1 [(0, .ref h0)] := hl
  obtain ⟨hx, hb, hml9, hown9, hts9, hr9, hK9, -⟩ := id hC
  generalize hAe : va_A [(h0, .inr (0, [.int 0, .int 0, .null, .null, .null]))] sz = A
  have hA : ∀ q : Nat, s.heap.size ≤ q → A q := fun q h => by rw [← hAe, ← hsz]; exact Or.inr h
  have hS : va_S A s.heap s.heap [] := va_S.rf
  have hD : va_D A [(h0, (.inr (0, [.int 0, .int 0, .null, .null, .null]) : va_E))] := va_D1 (by rw [← hAe]; exact Or.inl ⟨0, _, rfl⟩)
  refine lv_aload_n hx hb dX0_init_0 rfl (lv_at hl 0 rfl) ?_
  refine iObj hC (idx := 3) (by decide +kernel) hl.1 ⟨Nat.le_of_ble_eq_true rfl, Nat.le_of_ble_eq_true rfl⟩ dX0_init_1 ?_
  refine lv_aload_n hx hb dX0_init_4 rfl (lv_at hl 0 rfl) ?_
  refine lv_bipush (v := 36) hx hb dX0_init_5 (by decide) ?_
  refine iNewI hC hP hD hS hA (N := 36) (by decide) (by decide) (Nat.le_of_ble_eq_true rfl) (Nat.le_of_ble_eq_true rfl) (Nat.le_of_ble_eq_true rfl) dX0_init_7 (fun q1 H hP hD hS => ?_)
  have hP : va_P D vwCl [(h0, .inr (0, [.int 0, .int 0, .null, .null, .null])), (q1, .inl (cy 0, 36, .inl (fun _ => 0)))] H := hP
  have hD : va_D A [(h0, .inr (0, [.int 0, .int 0, .null, .null, .null])), (q1, .inl (cy 0, 36, .inl (fun _ => 0)))] := hD
  refine iPutF hC hP hD hS (ci := 0) (N := 5) (T := TX0) rfl iX0 tyX0_ok nmX0 2 (by decide) (index := 9) (by decide +kernel) rfl rfl (ty := .array .int) (by decide +kernel) rfl rfl (Nat.le_of_ble_eq_true rfl) dX0_init_9 (fun H locs hP hD hS => ?_)
  have hP : va_P D vwCl [(h0, .inr (0, [.int 0, .int 0, .ref q1, .null, .null])), (q1, .inl (cy 0, 36, .inl (fun _ => 0)))] H := hP
  have hD : va_D A [(h0, .inr (0, [.int 0, .int 0, .ref q1, .null, .null])), (q1, .inl (cy 0, 36, .inl (fun _ => 0)))] := hD
  refine lv_aload_n hx hb dX0_init_12 rfl (lv_at hl 0 rfl) ?_
  refine lv_bipush (v := 36) hx hb dX0_init_13 (by decide) ?_
  refine iNewI hC hP hD hS hA (N := 36) (by decide) (by decide) (Nat.le_of_ble_eq_true rfl) (Nat.le_of_ble_eq_true rfl) (Nat.le_of_ble_eq_true rfl) dX0_init_15 (fun q2 H hP hD hS => ?_)
  have hP : va_P D vwCl [(h0, .inr (0, [.int 0, .int 0, .ref q1, .null, .null])), (q1, .inl (cy 0, 36, .inl (fun _ => 0))), (q2, .inl (cy 0, 36, .inl (fun _ => 0)))] H := hP
  have hD : va_D A [(h0, .inr (0, [.int 0, .int 0, .ref q1, .null, .null])), (q1, .inl (cy 0, 36, .inl (fun _ => 0))), (q2, .inl (cy 0, 36, .inl (fun _ => 0)))] := hD
  refine iPutF hC hP hD hS (ci := 0) (N := 5) (T := TX0) rfl iX0 tyX0_ok nmX0 3 (by decide) (index := 15) (by decide +kernel) rfl rfl (ty := .array .int) (by decide +kernel) rfl rfl (Nat.le_of_ble_eq_true rfl) dX0_init_17 (fun H locs hP hD hS => ?_)
  have hP : va_P D vwCl [(h0, .inr (0, [.int 0, .int 0, .ref q1, .ref q2, .null])), (q1, .inl (cy 0, 36, .inl (fun _ => 0))), (q2, .inl (cy 0, 36, .inl (fun _ => 0)))] H := hP
  have hD : va_D A [(h0, .inr (0, [.int 0, .int 0, .ref q1, .ref q2, .null])), (q1, .inl (cy 0, 36, .inl (fun _ => 0))), (q2, .inl (cy 0, 36, .inl (fun _ => 0)))] := hD
  refine lv_aload_n hx hb dX0_init_20 rfl (lv_at hl 0 rfl) ?_
  refine lv_sipush (v := 144) hx hb dX0_init_21 (by decide) ?_
  refine iNewI hC hP hD hS hA (N := 144) (by decide) (by decide) (Nat.le_of_ble_eq_true rfl) (Nat.le_of_ble_eq_true rfl) (Nat.le_of_ble_eq_true rfl) dX0_init_24 (fun q3 H hP hD hS => ?_)
  have hP : va_P D vwCl [(h0, .inr (0, [.int 0, .int 0, .ref q1, .ref q2, .null])), (q1, .inl (cy 0, 36, .inl (fun _ => 0))), (q2, .inl (cy 0, 36, .inl (fun _ => 0))), (q3, .inl (cy 0, 144, .inl (fun _ => 0)))] H := hP
  have hD : va_D A [(h0, .inr (0, [.int 0, .int 0, .ref q1, .ref q2, .null])), (q1, .inl (cy 0, 36, .inl (fun _ => 0))), (q2, .inl (cy 0, 36, .inl (fun _ => 0))), (q3, .inl (cy 0, 144, .inl (fun _ => 0)))] := hD
  refine iPutF hC hP hD hS (ci := 0) (N := 5) (T := TX0) rfl iX0 tyX0_ok nmX0 4 (by decide) (index := 18) (by decide +kernel) rfl rfl (ty := .array .int) (by decide +kernel) rfl rfl (Nat.le_of_ble_eq_true rfl) dX0_init_26 (fun H locs hP hD hS => ?_)
  have hP : va_P D vwCl [(h0, .inr (0, [.int 0, .int 0, .ref q1, .ref q2, .ref q3])), (q1, .inl (cy 0, 36, .inl (fun _ => 0))), (q2, .inl (cy 0, 36, .inl (fun _ => 0))), (q3, .inl (cy 0, 144, .inl (fun _ => 0)))] H := hP
  have hD : va_D A [(h0, .inr (0, [.int 0, .int 0, .ref q1, .ref q2, .ref q3])), (q1, .inl (cy 0, 36, .inl (fun _ => 0))), (q2, .inl (cy 0, 36, .inl (fun _ => 0))), (q3, .inl (cy 0, 144, .inl (fun _ => 0)))] := hD
  exact iRet hC (q := fun k => [h0, q1, q2, q3].getD k 0) rfl hP hD hS rfl rfl dX0_init_29
set_option maxHeartbeats 4000000 in
set_option maxRecDepth 100000 in
theorem kiT (l : Launch) (D : va_G) (cy : Nat → ClassId) (h0 sz : Nat) : Met l yX3_init (Cond.code yX3_init cX3_init 1 none :: wAll) { frames := 1, cells := 3, slots := 360, locals := 12 } (iPc D cy [.ref h0] h0 sz (.inr (3, [.null, .int 0, .null, .null, .int 0, .int 0]))) (iQ D 4 (cT cy) h0 (va_A [(h0, .inr (3, [.null, .int 0, .null, .null, .int 0, .int 0]))] sz)) 3 360 (va_A [(h0, .inr (3, [.null, .int 0, .null, .null, .int 0, .int 0]))] sz) := by
  refine iMet (by decide) rfl (Nat.le_of_ble_eq_true rfl) (fun p e s m below meth c hC hsz ls hP hl => ?_)
  have hC : Ci p s m _ meth c cX3_init 1 RX3 D cy := hC
  have hl : lv_has ls 1 [(0, .ref h0)] := hl
  obtain ⟨hx, hb, hml9, hown9, hts9, hr9, hK9, -⟩ := id hC
  generalize hAe : va_A [(h0, .inr (3, [.null, .int 0, .null, .null, .int 0, .int 0]))] sz = A
  have hA : ∀ q : Nat, s.heap.size ≤ q → A q := fun q h => by rw [← hAe, ← hsz]; exact Or.inr h
  have hS : va_S A s.heap s.heap [] := va_S.rf
  have hD : va_D A [(h0, (.inr (3, [.null, .int 0, .null, .null, .int 0, .int 0]) : va_E))] := va_D1 (by rw [← hAe]; exact Or.inl ⟨0, _, rfl⟩)
  refine lv_aload_n hx hb dX3_init_0 rfl (lv_at hl 0 rfl) ?_
  refine iObj hC (idx := 3) (by decide +kernel) hl.1 ⟨Nat.le_of_ble_eq_true rfl, Nat.le_of_ble_eq_true rfl⟩ dX3_init_1 ?_
  refine lv_aload_n hx hb dX3_init_4 rfl (lv_at hl 0 rfl) ?_
  refine lv_bipush (v := 120) hx hb dX3_init_5 (by decide) ?_
  refine iNewI hC hP hD hS hA (N := 120) (by decide) (by decide) (Nat.le_of_ble_eq_true rfl) (Nat.le_of_ble_eq_true rfl) (Nat.le_of_ble_eq_true rfl) dX3_init_7 (fun q1 H hP hD hS => ?_)
  have hP : va_P D vwCl [(h0, .inr (3, [.null, .int 0, .null, .null, .int 0, .int 0])), (q1, .inl (cy 0, 120, .inl (fun _ => 0)))] H := hP
  have hD : va_D A [(h0, .inr (3, [.null, .int 0, .null, .null, .int 0, .int 0])), (q1, .inl (cy 0, 120, .inl (fun _ => 0)))] := hD
  refine iPutF hC hP hD hS (ci := 3) (N := 6) (T := TX3) rfl iX3 tyX3_ok nmX3 0 (by decide) (index := 9) (by decide +kernel) rfl rfl (ty := .array .int) (by decide +kernel) rfl rfl (Nat.le_of_ble_eq_true rfl) dX3_init_9 (fun H locs hP hD hS => ?_)
  have hP : va_P D vwCl [(h0, .inr (3, [.ref q1, .int 0, .null, .null, .int 0, .int 0])), (q1, .inl (cy 0, 120, .inl (fun _ => 0)))] H := hP
  have hD : va_D A [(h0, .inr (3, [.ref q1, .int 0, .null, .null, .int 0, .int 0])), (q1, .inl (cy 0, 120, .inl (fun _ => 0)))] := hD
  refine lv_aload_n hx hb dX3_init_12 rfl (lv_at hl 0 rfl) ?_
  refine lv_bipush (v := 60) hx hb dX3_init_13 (by decide) ?_
  refine iNewI hC hP hD hS hA (N := 60) (by decide) (by decide) (Nat.le_of_ble_eq_true rfl) (Nat.le_of_ble_eq_true rfl) (Nat.le_of_ble_eq_true rfl) dX3_init_15 (fun q2 H hP hD hS => ?_)
  have hP : va_P D vwCl [(h0, .inr (3, [.ref q1, .int 0, .null, .null, .int 0, .int 0])), (q1, .inl (cy 0, 120, .inl (fun _ => 0))), (q2, .inl (cy 0, 60, .inl (fun _ => 0)))] H := hP
  have hD : va_D A [(h0, .inr (3, [.ref q1, .int 0, .null, .null, .int 0, .int 0])), (q1, .inl (cy 0, 120, .inl (fun _ => 0))), (q2, .inl (cy 0, 60, .inl (fun _ => 0)))] := hD
  refine iPutF hC hP hD hS (ci := 3) (N := 6) (T := TX3) rfl iX3 tyX3_ok nmX3 2 (by decide) (index := 15) (by decide +kernel) rfl rfl (ty := .array .int) (by decide +kernel) rfl rfl (Nat.le_of_ble_eq_true rfl) dX3_init_17 (fun H locs hP hD hS => ?_)
  have hP : va_P D vwCl [(h0, .inr (3, [.ref q1, .int 0, .ref q2, .null, .int 0, .int 0])), (q1, .inl (cy 0, 120, .inl (fun _ => 0))), (q2, .inl (cy 0, 60, .inl (fun _ => 0)))] H := hP
  have hD : va_D A [(h0, .inr (3, [.ref q1, .int 0, .ref q2, .null, .int 0, .int 0])), (q1, .inl (cy 0, 120, .inl (fun _ => 0))), (q2, .inl (cy 0, 60, .inl (fun _ => 0)))] := hD
  refine lv_aload_n hx hb dX3_init_20 rfl (lv_at hl 0 rfl) ?_
  refine lv_sipush (v := 180) hx hb dX3_init_21 (by decide) ?_
  refine iNewI hC hP hD hS hA (N := 180) (by decide) (by decide) (Nat.le_of_ble_eq_true rfl) (Nat.le_of_ble_eq_true rfl) (Nat.le_of_ble_eq_true rfl) dX3_init_24 (fun q3 H hP hD hS => ?_)
  have hP : va_P D vwCl [(h0, .inr (3, [.ref q1, .int 0, .ref q2, .null, .int 0, .int 0])), (q1, .inl (cy 0, 120, .inl (fun _ => 0))), (q2, .inl (cy 0, 60, .inl (fun _ => 0))), (q3, .inl (cy 0, 180, .inl (fun _ => 0)))] H := hP
  have hD : va_D A [(h0, .inr (3, [.ref q1, .int 0, .ref q2, .null, .int 0, .int 0])), (q1, .inl (cy 0, 120, .inl (fun _ => 0))), (q2, .inl (cy 0, 60, .inl (fun _ => 0))), (q3, .inl (cy 0, 180, .inl (fun _ => 0)))] := hD
  refine iPutF hC hP hD hS (ci := 3) (N := 6) (T := TX3) rfl iX3 tyX3_ok nmX3 3 (by decide) (index := 18) (by decide +kernel) rfl rfl (ty := .array .int) (by decide +kernel) rfl rfl (Nat.le_of_ble_eq_true rfl) dX3_init_26 (fun H locs hP hD hS => ?_)
  have hP : va_P D vwCl [(h0, .inr (3, [.ref q1, .int 0, .ref q2, .ref q3, .int 0, .int 0])), (q1, .inl (cy 0, 120, .inl (fun _ => 0))), (q2, .inl (cy 0, 60, .inl (fun _ => 0))), (q3, .inl (cy 0, 180, .inl (fun _ => 0)))] H := hP
  have hD : va_D A [(h0, .inr (3, [.ref q1, .int 0, .ref q2, .ref q3, .int 0, .int 0])), (q1, .inl (cy 0, 120, .inl (fun _ => 0))), (q2, .inl (cy 0, 60, .inl (fun _ => 0))), (q3, .inl (cy 0, 180, .inl (fun _ => 0)))] := hD
  exact iRet hC (q := fun k => [h0, q1, q2, q3].getD k 0) rfl hP hD hS rfl rfl dX3_init_29
set_option maxHeartbeats 4000000 in
set_option maxRecDepth 100000 in
theorem kiR (l : Launch) (D : va_G) (cy : Nat → ClassId) (h0 sz : Nat) : Met l yX4_init (Cond.code yX4_init cX4_init 1 none :: wAll) { frames := 1, cells := 1, slots := 144, locals := 12 } (iPc D cy [.ref h0] h0 sz (.inr (4, [.null]))) (iQ D 2 (cR cy) h0 (va_A [(h0, .inr (4, [.null]))] sz)) 1 144 (va_A [(h0, .inr (4, [.null]))] sz) := by
  refine iMet (by decide) rfl (Nat.le_of_ble_eq_true rfl) (fun p e s m below meth c hC hsz ls hP hl => ?_)
  have hC : Ci p s m _ meth c cX4_init 1 RX4 D cy := hC
  have hl : lv_has ls 1 [(0, .ref h0)] := hl
  obtain ⟨hx, hb, hml9, hown9, hts9, hr9, hK9, -⟩ := id hC
  generalize hAe : va_A [(h0, .inr (4, [.null]))] sz = A
  have hA : ∀ q : Nat, s.heap.size ≤ q → A q := fun q h => by rw [← hAe, ← hsz]; exact Or.inr h
  have hS : va_S A s.heap s.heap [] := va_S.rf
  have hD : va_D A [(h0, (.inr (4, [.null]) : va_E))] := va_D1 (by rw [← hAe]; exact Or.inl ⟨0, _, rfl⟩)
  refine lv_aload_n hx hb dX4_init_0 rfl (lv_at hl 0 rfl) ?_
  refine iObj hC (idx := 3) (by decide +kernel) hl.1 ⟨Nat.le_of_ble_eq_true rfl, Nat.le_of_ble_eq_true rfl⟩ dX4_init_1 ?_
  refine lv_aload_n hx hb dX4_init_4 rfl (lv_at hl 0 rfl) ?_
  refine lv_sipush (v := 144) hx hb dX4_init_5 (by decide) ?_
  refine iNewZ hC hP hD hS hA (N := 144) (by decide) (by decide) (Nat.le_of_ble_eq_true rfl) (Nat.le_of_ble_eq_true rfl) (Nat.le_of_ble_eq_true rfl) dX4_init_8 (fun q1 H hP hD hS => ?_)
  have hP : va_P D vwCl [(h0, .inr (4, [.null])), (q1, .inl (cy 2, 144, .inl (fun _ => 0)))] H := hP
  have hD : va_D A [(h0, .inr (4, [.null])), (q1, .inl (cy 2, 144, .inl (fun _ => 0)))] := hD
  refine iPutF hC hP hD hS (ci := 4) (N := 1) (T := TX4) rfl iX4 tyX4_ok nmX4 0 (by decide) (index := 9) (by decide +kernel) rfl rfl (ty := .array .boolean) (by decide +kernel) rfl rfl (Nat.le_of_ble_eq_true rfl) dX4_init_10 (fun H locs hP hD hS => ?_)
  have hP : va_P D vwCl [(h0, .inr (4, [.ref q1])), (q1, .inl (cy 2, 144, .inl (fun _ => 0)))] H := hP
  have hD : va_D A [(h0, .inr (4, [.ref q1])), (q1, .inl (cy 2, 144, .inl (fun _ => 0)))] := hD
  exact iRet hC (q := fun k => [h0, q1].getD k 0) rfl hP hD hS rfl rfl dX4_init_13
set_option maxHeartbeats 4000000 in
set_option maxRecDepth 100000 in
theorem kiM (l : Launch) (D : va_G) (cy : Nat → ClassId) (h0 sz : Nat) : Met l yX7_init (Cond.code yX7_init cX7_init 1 none :: wAll) { frames := 1, cells := 11, slots := 1673, locals := 12 } (iPc D cy [.ref h0] h0 sz (.inr (7, [.null, .null, .null, .int 0, .null, .null, .int 0, .null, .null, .null, .null, .null, .null, .int 0, .int 0, .int 0, .long 0]))) (iQ D 12 (cM cy) h0 (va_A [(h0, .inr (7, [.null, .null, .null, .int 0, .null, .null, .int 0, .null, .null, .null, .null, .null, .null, .int 0, .int 0, .int 0, .long 0]))] sz)) 11 1673 (va_A [(h0, .inr (7, [.null, .null, .null, .int 0, .null, .null, .int 0, .null, .null, .null, .null, .null, .null, .int 0, .int 0, .int 0, .long 0]))] sz) := by
  refine iMet (by decide) rfl (Nat.le_of_ble_eq_true rfl) (fun p e s m below meth c hC hsz ls hP hl => ?_)
  have hC : Ci p s m _ meth c cX7_init 1 RX7 D cy := hC
  have hl : lv_has ls 1 [(0, .ref h0)] := hl
  obtain ⟨hx, hb, hml9, hown9, hts9, hr9, hK9, -⟩ := id hC
  generalize hAe : va_A [(h0, .inr (7, [.null, .null, .null, .int 0, .null, .null, .int 0, .null, .null, .null, .null, .null, .null, .int 0, .int 0, .int 0, .long 0]))] sz = A
  have hA : ∀ q : Nat, s.heap.size ≤ q → A q := fun q h => by rw [← hAe, ← hsz]; exact Or.inr h
  have hS : va_S A s.heap s.heap [] := va_S.rf
  have hD : va_D A [(h0, (.inr (7, [.null, .null, .null, .int 0, .null, .null, .int 0, .null, .null, .null, .null, .null, .null, .int 0, .int 0, .int 0, .long 0]) : va_E))] := va_D1 (by rw [← hAe]; exact Or.inl ⟨0, _, rfl⟩)
  refine lv_aload_n hx hb dX7_init_0 rfl (lv_at hl 0 rfl) ?_
  refine iObj hC (idx := 1) (by decide +kernel) hl.1 ⟨Nat.le_of_ble_eq_true rfl, Nat.le_of_ble_eq_true rfl⟩ dX7_init_1 ?_
  refine lv_aload_n hx hb dX7_init_4 rfl (lv_at hl 0 rfl) ?_
  refine lv_bipush (v := 80) hx hb dX7_init_5 (by decide) ?_
  refine iNewI hC hP hD hS hA (N := 80) (by decide) (by decide) (Nat.le_of_ble_eq_true rfl) (Nat.le_of_ble_eq_true rfl) (Nat.le_of_ble_eq_true rfl) dX7_init_7 (fun q1 H hP hD hS => ?_)
  have hP : va_P D vwCl [(h0, .inr (7, [.null, .null, .null, .int 0, .null, .null, .int 0, .null, .null, .null, .null, .null, .null, .int 0, .int 0, .int 0, .long 0])), (q1, .inl (cy 0, 80, .inl (fun _ => 0)))] H := hP
  have hD : va_D A [(h0, .inr (7, [.null, .null, .null, .int 0, .null, .null, .int 0, .null, .null, .null, .null, .null, .null, .int 0, .int 0, .int 0, .long 0])), (q1, .inl (cy 0, 80, .inl (fun _ => 0)))] := hD
  refine iPutF hC hP hD hS (ci := 7) (N := 17) (T := TX7) rfl iX7 tyX7_ok nmX7 0 (by decide) (index := 7) (by decide +kernel) rfl rfl (ty := .array .int) (by decide +kernel) rfl rfl (Nat.le_of_ble_eq_true rfl) dX7_init_9 (fun H locs hP hD hS => ?_)
  have hP : va_P D vwCl [(h0, .inr (7, [.ref q1, .null, .null, .int 0, .null, .null, .int 0, .null, .null, .null, .null, .null, .null, .int 0, .int 0, .int 0, .long 0])), (q1, .inl (cy 0, 80, .inl (fun _ => 0)))] H := hP
  have hD : va_D A [(h0, .inr (7, [.ref q1, .null, .null, .int 0, .null, .null, .int 0, .null, .null, .null, .null, .null, .null, .int 0, .int 0, .int 0, .long 0])), (q1, .inl (cy 0, 80, .inl (fun _ => 0)))] := hD
  refine lv_aload_n hx hb dX7_init_12 rfl (lv_at hl 0 rfl) ?_
  refine lv_bipush (v := 80) hx hb dX7_init_13 (by decide) ?_
  refine iNewI hC hP hD hS hA (N := 80) (by decide) (by decide) (Nat.le_of_ble_eq_true rfl) (Nat.le_of_ble_eq_true rfl) (Nat.le_of_ble_eq_true rfl) dX7_init_15 (fun q2 H hP hD hS => ?_)
  have hP : va_P D vwCl [(h0, .inr (7, [.ref q1, .null, .null, .int 0, .null, .null, .int 0, .null, .null, .null, .null, .null, .null, .int 0, .int 0, .int 0, .long 0])), (q1, .inl (cy 0, 80, .inl (fun _ => 0))), (q2, .inl (cy 0, 80, .inl (fun _ => 0)))] H := hP
  have hD : va_D A [(h0, .inr (7, [.ref q1, .null, .null, .int 0, .null, .null, .int 0, .null, .null, .null, .null, .null, .null, .int 0, .int 0, .int 0, .long 0])), (q1, .inl (cy 0, 80, .inl (fun _ => 0))), (q2, .inl (cy 0, 80, .inl (fun _ => 0)))] := hD
  refine iPutF hC hP hD hS (ci := 7) (N := 17) (T := TX7) rfl iX7 tyX7_ok nmX7 1 (by decide) (index := 13) (by decide +kernel) rfl rfl (ty := .array .int) (by decide +kernel) rfl rfl (Nat.le_of_ble_eq_true rfl) dX7_init_17 (fun H locs hP hD hS => ?_)
  have hP : va_P D vwCl [(h0, .inr (7, [.ref q1, .ref q2, .null, .int 0, .null, .null, .int 0, .null, .null, .null, .null, .null, .null, .int 0, .int 0, .int 0, .long 0])), (q1, .inl (cy 0, 80, .inl (fun _ => 0))), (q2, .inl (cy 0, 80, .inl (fun _ => 0)))] H := hP
  have hD : va_D A [(h0, .inr (7, [.ref q1, .ref q2, .null, .int 0, .null, .null, .int 0, .null, .null, .null, .null, .null, .null, .int 0, .int 0, .int 0, .long 0])), (q1, .inl (cy 0, 80, .inl (fun _ => 0))), (q2, .inl (cy 0, 80, .inl (fun _ => 0)))] := hD
  refine lv_aload_n hx hb dX7_init_20 rfl (lv_at hl 0 rfl) ?_
  refine lv_sipush (v := 400) hx hb dX7_init_21 (by decide) ?_
  refine iNewI hC hP hD hS hA (N := 400) (by decide) (by decide) (Nat.le_of_ble_eq_true rfl) (Nat.le_of_ble_eq_true rfl) (Nat.le_of_ble_eq_true rfl) dX7_init_24 (fun q3 H hP hD hS => ?_)
  have hP : va_P D vwCl [(h0, .inr (7, [.ref q1, .ref q2, .null, .int 0, .null, .null, .int 0, .null, .null, .null, .null, .null, .null, .int 0, .int 0, .int 0, .long 0])), (q1, .inl (cy 0, 80, .inl (fun _ => 0))), (q2, .inl (cy 0, 80, .inl (fun _ => 0))), (q3, .inl (cy 0, 400, .inl (fun _ => 0)))] H := hP
  have hD : va_D A [(h0, .inr (7, [.ref q1, .ref q2, .null, .int 0, .null, .null, .int 0, .null, .null, .null, .null, .null, .null, .int 0, .int 0, .int 0, .long 0])), (q1, .inl (cy 0, 80, .inl (fun _ => 0))), (q2, .inl (cy 0, 80, .inl (fun _ => 0))), (q3, .inl (cy 0, 400, .inl (fun _ => 0)))] := hD
  refine iPutF hC hP hD hS (ci := 7) (N := 17) (T := TX7) rfl iX7 tyX7_ok nmX7 2 (by decide) (index := 16) (by decide +kernel) rfl rfl (ty := .array .int) (by decide +kernel) rfl rfl (Nat.le_of_ble_eq_true rfl) dX7_init_26 (fun H locs hP hD hS => ?_)
  have hP : va_P D vwCl [(h0, .inr (7, [.ref q1, .ref q2, .ref q3, .int 0, .null, .null, .int 0, .null, .null, .null, .null, .null, .null, .int 0, .int 0, .int 0, .long 0])), (q1, .inl (cy 0, 80, .inl (fun _ => 0))), (q2, .inl (cy 0, 80, .inl (fun _ => 0))), (q3, .inl (cy 0, 400, .inl (fun _ => 0)))] H := hP
  have hD : va_D A [(h0, .inr (7, [.ref q1, .ref q2, .ref q3, .int 0, .null, .null, .int 0, .null, .null, .null, .null, .null, .null, .int 0, .int 0, .int 0, .long 0])), (q1, .inl (cy 0, 80, .inl (fun _ => 0))), (q2, .inl (cy 0, 80, .inl (fun _ => 0))), (q3, .inl (cy 0, 400, .inl (fun _ => 0)))] := hD
  refine lv_aload_n hx hb dX7_init_29 rfl (lv_at hl 0 rfl) ?_
  refine lv_iconst (v := 3) hx hb dX7_init_30 (by decide) ?_
  refine iNewI hC hP hD hS hA (N := 3) (by decide) (by decide) (Nat.le_of_ble_eq_true rfl) (Nat.le_of_ble_eq_true rfl) (Nat.le_of_ble_eq_true rfl) dX7_init_31 (fun q4 H hP hD hS => ?_)
  have hP : va_P D vwCl [(h0, .inr (7, [.ref q1, .ref q2, .ref q3, .int 0, .null, .null, .int 0, .null, .null, .null, .null, .null, .null, .int 0, .int 0, .int 0, .long 0])), (q1, .inl (cy 0, 80, .inl (fun _ => 0))), (q2, .inl (cy 0, 80, .inl (fun _ => 0))), (q3, .inl (cy 0, 400, .inl (fun _ => 0))), (q4, .inl (cy 0, 3, .inl (fun _ => 0)))] H := hP
  have hD : va_D A [(h0, .inr (7, [.ref q1, .ref q2, .ref q3, .int 0, .null, .null, .int 0, .null, .null, .null, .null, .null, .null, .int 0, .int 0, .int 0, .long 0])), (q1, .inl (cy 0, 80, .inl (fun _ => 0))), (q2, .inl (cy 0, 80, .inl (fun _ => 0))), (q3, .inl (cy 0, 400, .inl (fun _ => 0))), (q4, .inl (cy 0, 3, .inl (fun _ => 0)))] := hD
  refine iPutF hC hP hD hS (ci := 7) (N := 17) (T := TX7) rfl iX7 tyX7_ok nmX7 4 (by decide) (index := 19) (by decide +kernel) rfl rfl (ty := .array .int) (by decide +kernel) rfl rfl (Nat.le_of_ble_eq_true rfl) dX7_init_33 (fun H locs hP hD hS => ?_)
  have hP : va_P D vwCl [(h0, .inr (7, [.ref q1, .ref q2, .ref q3, .int 0, .ref q4, .null, .int 0, .null, .null, .null, .null, .null, .null, .int 0, .int 0, .int 0, .long 0])), (q1, .inl (cy 0, 80, .inl (fun _ => 0))), (q2, .inl (cy 0, 80, .inl (fun _ => 0))), (q3, .inl (cy 0, 400, .inl (fun _ => 0))), (q4, .inl (cy 0, 3, .inl (fun _ => 0)))] H := hP
  have hD : va_D A [(h0, .inr (7, [.ref q1, .ref q2, .ref q3, .int 0, .ref q4, .null, .int 0, .null, .null, .null, .null, .null, .null, .int 0, .int 0, .int 0, .long 0])), (q1, .inl (cy 0, 80, .inl (fun _ => 0))), (q2, .inl (cy 0, 80, .inl (fun _ => 0))), (q3, .inl (cy 0, 400, .inl (fun _ => 0))), (q4, .inl (cy 0, 3, .inl (fun _ => 0)))] := hD
  refine lv_aload_n hx hb dX7_init_36 rfl (lv_at hl 0 rfl) ?_
  refine lv_bipush (v := 120) hx hb dX7_init_37 (by decide) ?_
  refine iNewI hC hP hD hS hA (N := 120) (by decide) (by decide) (Nat.le_of_ble_eq_true rfl) (Nat.le_of_ble_eq_true rfl) (Nat.le_of_ble_eq_true rfl) dX7_init_39 (fun q5 H hP hD hS => ?_)
  have hP : va_P D vwCl [(h0, .inr (7, [.ref q1, .ref q2, .ref q3, .int 0, .ref q4, .null, .int 0, .null, .null, .null, .null, .null, .null, .int 0, .int 0, .int 0, .long 0])), (q1, .inl (cy 0, 80, .inl (fun _ => 0))), (q2, .inl (cy 0, 80, .inl (fun _ => 0))), (q3, .inl (cy 0, 400, .inl (fun _ => 0))), (q4, .inl (cy 0, 3, .inl (fun _ => 0))), (q5, .inl (cy 0, 120, .inl (fun _ => 0)))] H := hP
  have hD : va_D A [(h0, .inr (7, [.ref q1, .ref q2, .ref q3, .int 0, .ref q4, .null, .int 0, .null, .null, .null, .null, .null, .null, .int 0, .int 0, .int 0, .long 0])), (q1, .inl (cy 0, 80, .inl (fun _ => 0))), (q2, .inl (cy 0, 80, .inl (fun _ => 0))), (q3, .inl (cy 0, 400, .inl (fun _ => 0))), (q4, .inl (cy 0, 3, .inl (fun _ => 0))), (q5, .inl (cy 0, 120, .inl (fun _ => 0)))] := hD
  refine iPutF hC hP hD hS (ci := 7) (N := 17) (T := TX7) rfl iX7 tyX7_ok nmX7 5 (by decide) (index := 22) (by decide +kernel) rfl rfl (ty := .array .int) (by decide +kernel) rfl rfl (Nat.le_of_ble_eq_true rfl) dX7_init_41 (fun H locs hP hD hS => ?_)
  have hP : va_P D vwCl [(h0, .inr (7, [.ref q1, .ref q2, .ref q3, .int 0, .ref q4, .ref q5, .int 0, .null, .null, .null, .null, .null, .null, .int 0, .int 0, .int 0, .long 0])), (q1, .inl (cy 0, 80, .inl (fun _ => 0))), (q2, .inl (cy 0, 80, .inl (fun _ => 0))), (q3, .inl (cy 0, 400, .inl (fun _ => 0))), (q4, .inl (cy 0, 3, .inl (fun _ => 0))), (q5, .inl (cy 0, 120, .inl (fun _ => 0)))] H := hP
  have hD : va_D A [(h0, .inr (7, [.ref q1, .ref q2, .ref q3, .int 0, .ref q4, .ref q5, .int 0, .null, .null, .null, .null, .null, .null, .int 0, .int 0, .int 0, .long 0])), (q1, .inl (cy 0, 80, .inl (fun _ => 0))), (q2, .inl (cy 0, 80, .inl (fun _ => 0))), (q3, .inl (cy 0, 400, .inl (fun _ => 0))), (q4, .inl (cy 0, 3, .inl (fun _ => 0))), (q5, .inl (cy 0, 120, .inl (fun _ => 0)))] := hD
  refine lv_aload_n hx hb dX7_init_44 rfl (lv_at hl 0 rfl) ?_
  refine lv_sipush (v := 370) hx hb dX7_init_45 (by decide) ?_
  refine iNewI hC hP hD hS hA (N := 370) (by decide) (by decide) (Nat.le_of_ble_eq_true rfl) (Nat.le_of_ble_eq_true rfl) (Nat.le_of_ble_eq_true rfl) dX7_init_48 (fun q6 H hP hD hS => ?_)
  have hP : va_P D vwCl [(h0, .inr (7, [.ref q1, .ref q2, .ref q3, .int 0, .ref q4, .ref q5, .int 0, .null, .null, .null, .null, .null, .null, .int 0, .int 0, .int 0, .long 0])), (q1, .inl (cy 0, 80, .inl (fun _ => 0))), (q2, .inl (cy 0, 80, .inl (fun _ => 0))), (q3, .inl (cy 0, 400, .inl (fun _ => 0))), (q4, .inl (cy 0, 3, .inl (fun _ => 0))), (q5, .inl (cy 0, 120, .inl (fun _ => 0))), (q6, .inl (cy 0, 370, .inl (fun _ => 0)))] H := hP
  have hD : va_D A [(h0, .inr (7, [.ref q1, .ref q2, .ref q3, .int 0, .ref q4, .ref q5, .int 0, .null, .null, .null, .null, .null, .null, .int 0, .int 0, .int 0, .long 0])), (q1, .inl (cy 0, 80, .inl (fun _ => 0))), (q2, .inl (cy 0, 80, .inl (fun _ => 0))), (q3, .inl (cy 0, 400, .inl (fun _ => 0))), (q4, .inl (cy 0, 3, .inl (fun _ => 0))), (q5, .inl (cy 0, 120, .inl (fun _ => 0))), (q6, .inl (cy 0, 370, .inl (fun _ => 0)))] := hD
  refine iPutF hC hP hD hS (ci := 7) (N := 17) (T := TX7) rfl iX7 tyX7_ok nmX7 7 (by decide) (index := 25) (by decide +kernel) rfl rfl (ty := .array .int) (by decide +kernel) rfl rfl (Nat.le_of_ble_eq_true rfl) dX7_init_50 (fun H locs hP hD hS => ?_)
  have hP : va_P D vwCl [(h0, .inr (7, [.ref q1, .ref q2, .ref q3, .int 0, .ref q4, .ref q5, .int 0, .ref q6, .null, .null, .null, .null, .null, .int 0, .int 0, .int 0, .long 0])), (q1, .inl (cy 0, 80, .inl (fun _ => 0))), (q2, .inl (cy 0, 80, .inl (fun _ => 0))), (q3, .inl (cy 0, 400, .inl (fun _ => 0))), (q4, .inl (cy 0, 3, .inl (fun _ => 0))), (q5, .inl (cy 0, 120, .inl (fun _ => 0))), (q6, .inl (cy 0, 370, .inl (fun _ => 0)))] H := hP
  have hD : va_D A [(h0, .inr (7, [.ref q1, .ref q2, .ref q3, .int 0, .ref q4, .ref q5, .int 0, .ref q6, .null, .null, .null, .null, .null, .int 0, .int 0, .int 0, .long 0])), (q1, .inl (cy 0, 80, .inl (fun _ => 0))), (q2, .inl (cy 0, 80, .inl (fun _ => 0))), (q3, .inl (cy 0, 400, .inl (fun _ => 0))), (q4, .inl (cy 0, 3, .inl (fun _ => 0))), (q5, .inl (cy 0, 120, .inl (fun _ => 0))), (q6, .inl (cy 0, 370, .inl (fun _ => 0)))] := hD
  refine lv_aload_n hx hb dX7_init_53 rfl (lv_at hl 0 rfl) ?_
  refine lv_bipush (v := 10) hx hb dX7_init_54 (by decide) ?_
  refine iNewI hC hP hD hS hA (N := 10) (by decide) (by decide) (Nat.le_of_ble_eq_true rfl) (Nat.le_of_ble_eq_true rfl) (Nat.le_of_ble_eq_true rfl) dX7_init_56 (fun q7 H hP hD hS => ?_)
  have hP : va_P D vwCl [(h0, .inr (7, [.ref q1, .ref q2, .ref q3, .int 0, .ref q4, .ref q5, .int 0, .ref q6, .null, .null, .null, .null, .null, .int 0, .int 0, .int 0, .long 0])), (q1, .inl (cy 0, 80, .inl (fun _ => 0))), (q2, .inl (cy 0, 80, .inl (fun _ => 0))), (q3, .inl (cy 0, 400, .inl (fun _ => 0))), (q4, .inl (cy 0, 3, .inl (fun _ => 0))), (q5, .inl (cy 0, 120, .inl (fun _ => 0))), (q6, .inl (cy 0, 370, .inl (fun _ => 0))), (q7, .inl (cy 0, 10, .inl (fun _ => 0)))] H := hP
  have hD : va_D A [(h0, .inr (7, [.ref q1, .ref q2, .ref q3, .int 0, .ref q4, .ref q5, .int 0, .ref q6, .null, .null, .null, .null, .null, .int 0, .int 0, .int 0, .long 0])), (q1, .inl (cy 0, 80, .inl (fun _ => 0))), (q2, .inl (cy 0, 80, .inl (fun _ => 0))), (q3, .inl (cy 0, 400, .inl (fun _ => 0))), (q4, .inl (cy 0, 3, .inl (fun _ => 0))), (q5, .inl (cy 0, 120, .inl (fun _ => 0))), (q6, .inl (cy 0, 370, .inl (fun _ => 0))), (q7, .inl (cy 0, 10, .inl (fun _ => 0)))] := hD
  refine iPutF hC hP hD hS (ci := 7) (N := 17) (T := TX7) rfl iX7 tyX7_ok nmX7 8 (by decide) (index := 28) (by decide +kernel) rfl rfl (ty := .array .int) (by decide +kernel) rfl rfl (Nat.le_of_ble_eq_true rfl) dX7_init_58 (fun H locs hP hD hS => ?_)
  have hP : va_P D vwCl [(h0, .inr (7, [.ref q1, .ref q2, .ref q3, .int 0, .ref q4, .ref q5, .int 0, .ref q6, .ref q7, .null, .null, .null, .null, .int 0, .int 0, .int 0, .long 0])), (q1, .inl (cy 0, 80, .inl (fun _ => 0))), (q2, .inl (cy 0, 80, .inl (fun _ => 0))), (q3, .inl (cy 0, 400, .inl (fun _ => 0))), (q4, .inl (cy 0, 3, .inl (fun _ => 0))), (q5, .inl (cy 0, 120, .inl (fun _ => 0))), (q6, .inl (cy 0, 370, .inl (fun _ => 0))), (q7, .inl (cy 0, 10, .inl (fun _ => 0)))] H := hP
  have hD : va_D A [(h0, .inr (7, [.ref q1, .ref q2, .ref q3, .int 0, .ref q4, .ref q5, .int 0, .ref q6, .ref q7, .null, .null, .null, .null, .int 0, .int 0, .int 0, .long 0])), (q1, .inl (cy 0, 80, .inl (fun _ => 0))), (q2, .inl (cy 0, 80, .inl (fun _ => 0))), (q3, .inl (cy 0, 400, .inl (fun _ => 0))), (q4, .inl (cy 0, 3, .inl (fun _ => 0))), (q5, .inl (cy 0, 120, .inl (fun _ => 0))), (q6, .inl (cy 0, 370, .inl (fun _ => 0))), (q7, .inl (cy 0, 10, .inl (fun _ => 0)))] := hD
  refine lv_aload_n hx hb dX7_init_61 rfl (lv_at hl 0 rfl) ?_
  refine lv_bipush (v := 10) hx hb dX7_init_62 (by decide) ?_
  refine iNewI hC hP hD hS hA (N := 10) (by decide) (by decide) (Nat.le_of_ble_eq_true rfl) (Nat.le_of_ble_eq_true rfl) (Nat.le_of_ble_eq_true rfl) dX7_init_64 (fun q8 H hP hD hS => ?_)
  have hP : va_P D vwCl [(h0, .inr (7, [.ref q1, .ref q2, .ref q3, .int 0, .ref q4, .ref q5, .int 0, .ref q6, .ref q7, .null, .null, .null, .null, .int 0, .int 0, .int 0, .long 0])), (q1, .inl (cy 0, 80, .inl (fun _ => 0))), (q2, .inl (cy 0, 80, .inl (fun _ => 0))), (q3, .inl (cy 0, 400, .inl (fun _ => 0))), (q4, .inl (cy 0, 3, .inl (fun _ => 0))), (q5, .inl (cy 0, 120, .inl (fun _ => 0))), (q6, .inl (cy 0, 370, .inl (fun _ => 0))), (q7, .inl (cy 0, 10, .inl (fun _ => 0))), (q8, .inl (cy 0, 10, .inl (fun _ => 0)))] H := hP
  have hD : va_D A [(h0, .inr (7, [.ref q1, .ref q2, .ref q3, .int 0, .ref q4, .ref q5, .int 0, .ref q6, .ref q7, .null, .null, .null, .null, .int 0, .int 0, .int 0, .long 0])), (q1, .inl (cy 0, 80, .inl (fun _ => 0))), (q2, .inl (cy 0, 80, .inl (fun _ => 0))), (q3, .inl (cy 0, 400, .inl (fun _ => 0))), (q4, .inl (cy 0, 3, .inl (fun _ => 0))), (q5, .inl (cy 0, 120, .inl (fun _ => 0))), (q6, .inl (cy 0, 370, .inl (fun _ => 0))), (q7, .inl (cy 0, 10, .inl (fun _ => 0))), (q8, .inl (cy 0, 10, .inl (fun _ => 0)))] := hD
  refine iPutF hC hP hD hS (ci := 7) (N := 17) (T := TX7) rfl iX7 tyX7_ok nmX7 9 (by decide) (index := 31) (by decide +kernel) rfl rfl (ty := .array .int) (by decide +kernel) rfl rfl (Nat.le_of_ble_eq_true rfl) dX7_init_66 (fun H locs hP hD hS => ?_)
  have hP : va_P D vwCl [(h0, .inr (7, [.ref q1, .ref q2, .ref q3, .int 0, .ref q4, .ref q5, .int 0, .ref q6, .ref q7, .ref q8, .null, .null, .null, .int 0, .int 0, .int 0, .long 0])), (q1, .inl (cy 0, 80, .inl (fun _ => 0))), (q2, .inl (cy 0, 80, .inl (fun _ => 0))), (q3, .inl (cy 0, 400, .inl (fun _ => 0))), (q4, .inl (cy 0, 3, .inl (fun _ => 0))), (q5, .inl (cy 0, 120, .inl (fun _ => 0))), (q6, .inl (cy 0, 370, .inl (fun _ => 0))), (q7, .inl (cy 0, 10, .inl (fun _ => 0))), (q8, .inl (cy 0, 10, .inl (fun _ => 0)))] H := hP
  have hD : va_D A [(h0, .inr (7, [.ref q1, .ref q2, .ref q3, .int 0, .ref q4, .ref q5, .int 0, .ref q6, .ref q7, .ref q8, .null, .null, .null, .int 0, .int 0, .int 0, .long 0])), (q1, .inl (cy 0, 80, .inl (fun _ => 0))), (q2, .inl (cy 0, 80, .inl (fun _ => 0))), (q3, .inl (cy 0, 400, .inl (fun _ => 0))), (q4, .inl (cy 0, 3, .inl (fun _ => 0))), (q5, .inl (cy 0, 120, .inl (fun _ => 0))), (q6, .inl (cy 0, 370, .inl (fun _ => 0))), (q7, .inl (cy 0, 10, .inl (fun _ => 0))), (q8, .inl (cy 0, 10, .inl (fun _ => 0)))] := hD
  refine lv_aload_n hx hb dX7_init_69 rfl (lv_at hl 0 rfl) ?_
  refine lv_sipush (v := 360) hx hb dX7_init_70 (by decide) ?_
  refine iNewI hC hP hD hS hA (N := 360) (by decide) (by decide) (Nat.le_of_ble_eq_true rfl) (Nat.le_of_ble_eq_true rfl) (Nat.le_of_ble_eq_true rfl) dX7_init_73 (fun q9 H hP hD hS => ?_)
  have hP : va_P D vwCl [(h0, .inr (7, [.ref q1, .ref q2, .ref q3, .int 0, .ref q4, .ref q5, .int 0, .ref q6, .ref q7, .ref q8, .null, .null, .null, .int 0, .int 0, .int 0, .long 0])), (q1, .inl (cy 0, 80, .inl (fun _ => 0))), (q2, .inl (cy 0, 80, .inl (fun _ => 0))), (q3, .inl (cy 0, 400, .inl (fun _ => 0))), (q4, .inl (cy 0, 3, .inl (fun _ => 0))), (q5, .inl (cy 0, 120, .inl (fun _ => 0))), (q6, .inl (cy 0, 370, .inl (fun _ => 0))), (q7, .inl (cy 0, 10, .inl (fun _ => 0))), (q8, .inl (cy 0, 10, .inl (fun _ => 0))), (q9, .inl (cy 0, 360, .inl (fun _ => 0)))] H := hP
  have hD : va_D A [(h0, .inr (7, [.ref q1, .ref q2, .ref q3, .int 0, .ref q4, .ref q5, .int 0, .ref q6, .ref q7, .ref q8, .null, .null, .null, .int 0, .int 0, .int 0, .long 0])), (q1, .inl (cy 0, 80, .inl (fun _ => 0))), (q2, .inl (cy 0, 80, .inl (fun _ => 0))), (q3, .inl (cy 0, 400, .inl (fun _ => 0))), (q4, .inl (cy 0, 3, .inl (fun _ => 0))), (q5, .inl (cy 0, 120, .inl (fun _ => 0))), (q6, .inl (cy 0, 370, .inl (fun _ => 0))), (q7, .inl (cy 0, 10, .inl (fun _ => 0))), (q8, .inl (cy 0, 10, .inl (fun _ => 0))), (q9, .inl (cy 0, 360, .inl (fun _ => 0)))] := hD
  refine iPutF hC hP hD hS (ci := 7) (N := 17) (T := TX7) rfl iX7 tyX7_ok nmX7 10 (by decide) (index := 34) (by decide +kernel) rfl rfl (ty := .array .int) (by decide +kernel) rfl rfl (Nat.le_of_ble_eq_true rfl) dX7_init_75 (fun H locs hP hD hS => ?_)
  have hP : va_P D vwCl [(h0, .inr (7, [.ref q1, .ref q2, .ref q3, .int 0, .ref q4, .ref q5, .int 0, .ref q6, .ref q7, .ref q8, .ref q9, .null, .null, .int 0, .int 0, .int 0, .long 0])), (q1, .inl (cy 0, 80, .inl (fun _ => 0))), (q2, .inl (cy 0, 80, .inl (fun _ => 0))), (q3, .inl (cy 0, 400, .inl (fun _ => 0))), (q4, .inl (cy 0, 3, .inl (fun _ => 0))), (q5, .inl (cy 0, 120, .inl (fun _ => 0))), (q6, .inl (cy 0, 370, .inl (fun _ => 0))), (q7, .inl (cy 0, 10, .inl (fun _ => 0))), (q8, .inl (cy 0, 10, .inl (fun _ => 0))), (q9, .inl (cy 0, 360, .inl (fun _ => 0)))] H := hP
  have hD : va_D A [(h0, .inr (7, [.ref q1, .ref q2, .ref q3, .int 0, .ref q4, .ref q5, .int 0, .ref q6, .ref q7, .ref q8, .ref q9, .null, .null, .int 0, .int 0, .int 0, .long 0])), (q1, .inl (cy 0, 80, .inl (fun _ => 0))), (q2, .inl (cy 0, 80, .inl (fun _ => 0))), (q3, .inl (cy 0, 400, .inl (fun _ => 0))), (q4, .inl (cy 0, 3, .inl (fun _ => 0))), (q5, .inl (cy 0, 120, .inl (fun _ => 0))), (q6, .inl (cy 0, 370, .inl (fun _ => 0))), (q7, .inl (cy 0, 10, .inl (fun _ => 0))), (q8, .inl (cy 0, 10, .inl (fun _ => 0))), (q9, .inl (cy 0, 360, .inl (fun _ => 0)))] := hD
  refine lv_aload_n hx hb dX7_init_78 rfl (lv_at hl 0 rfl) ?_
  refine lv_bipush (v := 60) hx hb dX7_init_79 (by decide) ?_
  refine iNewI hC hP hD hS hA (N := 60) (by decide) (by decide) (Nat.le_of_ble_eq_true rfl) (Nat.le_of_ble_eq_true rfl) (Nat.le_of_ble_eq_true rfl) dX7_init_81 (fun q10 H hP hD hS => ?_)
  have hP : va_P D vwCl [(h0, .inr (7, [.ref q1, .ref q2, .ref q3, .int 0, .ref q4, .ref q5, .int 0, .ref q6, .ref q7, .ref q8, .ref q9, .null, .null, .int 0, .int 0, .int 0, .long 0])), (q1, .inl (cy 0, 80, .inl (fun _ => 0))), (q2, .inl (cy 0, 80, .inl (fun _ => 0))), (q3, .inl (cy 0, 400, .inl (fun _ => 0))), (q4, .inl (cy 0, 3, .inl (fun _ => 0))), (q5, .inl (cy 0, 120, .inl (fun _ => 0))), (q6, .inl (cy 0, 370, .inl (fun _ => 0))), (q7, .inl (cy 0, 10, .inl (fun _ => 0))), (q8, .inl (cy 0, 10, .inl (fun _ => 0))), (q9, .inl (cy 0, 360, .inl (fun _ => 0))), (q10, .inl (cy 0, 60, .inl (fun _ => 0)))] H := hP
  have hD : va_D A [(h0, .inr (7, [.ref q1, .ref q2, .ref q3, .int 0, .ref q4, .ref q5, .int 0, .ref q6, .ref q7, .ref q8, .ref q9, .null, .null, .int 0, .int 0, .int 0, .long 0])), (q1, .inl (cy 0, 80, .inl (fun _ => 0))), (q2, .inl (cy 0, 80, .inl (fun _ => 0))), (q3, .inl (cy 0, 400, .inl (fun _ => 0))), (q4, .inl (cy 0, 3, .inl (fun _ => 0))), (q5, .inl (cy 0, 120, .inl (fun _ => 0))), (q6, .inl (cy 0, 370, .inl (fun _ => 0))), (q7, .inl (cy 0, 10, .inl (fun _ => 0))), (q8, .inl (cy 0, 10, .inl (fun _ => 0))), (q9, .inl (cy 0, 360, .inl (fun _ => 0))), (q10, .inl (cy 0, 60, .inl (fun _ => 0)))] := hD
  refine iPutF hC hP hD hS (ci := 7) (N := 17) (T := TX7) rfl iX7 tyX7_ok nmX7 11 (by decide) (index := 37) (by decide +kernel) rfl rfl (ty := .array .int) (by decide +kernel) rfl rfl (Nat.le_of_ble_eq_true rfl) dX7_init_83 (fun H locs hP hD hS => ?_)
  have hP : va_P D vwCl [(h0, .inr (7, [.ref q1, .ref q2, .ref q3, .int 0, .ref q4, .ref q5, .int 0, .ref q6, .ref q7, .ref q8, .ref q9, .ref q10, .null, .int 0, .int 0, .int 0, .long 0])), (q1, .inl (cy 0, 80, .inl (fun _ => 0))), (q2, .inl (cy 0, 80, .inl (fun _ => 0))), (q3, .inl (cy 0, 400, .inl (fun _ => 0))), (q4, .inl (cy 0, 3, .inl (fun _ => 0))), (q5, .inl (cy 0, 120, .inl (fun _ => 0))), (q6, .inl (cy 0, 370, .inl (fun _ => 0))), (q7, .inl (cy 0, 10, .inl (fun _ => 0))), (q8, .inl (cy 0, 10, .inl (fun _ => 0))), (q9, .inl (cy 0, 360, .inl (fun _ => 0))), (q10, .inl (cy 0, 60, .inl (fun _ => 0)))] H := hP
  have hD : va_D A [(h0, .inr (7, [.ref q1, .ref q2, .ref q3, .int 0, .ref q4, .ref q5, .int 0, .ref q6, .ref q7, .ref q8, .ref q9, .ref q10, .null, .int 0, .int 0, .int 0, .long 0])), (q1, .inl (cy 0, 80, .inl (fun _ => 0))), (q2, .inl (cy 0, 80, .inl (fun _ => 0))), (q3, .inl (cy 0, 400, .inl (fun _ => 0))), (q4, .inl (cy 0, 3, .inl (fun _ => 0))), (q5, .inl (cy 0, 120, .inl (fun _ => 0))), (q6, .inl (cy 0, 370, .inl (fun _ => 0))), (q7, .inl (cy 0, 10, .inl (fun _ => 0))), (q8, .inl (cy 0, 10, .inl (fun _ => 0))), (q9, .inl (cy 0, 360, .inl (fun _ => 0))), (q10, .inl (cy 0, 60, .inl (fun _ => 0)))] := hD
  refine lv_aload_n hx hb dX7_init_86 rfl (lv_at hl 0 rfl) ?_
  refine lv_sipush (v := 180) hx hb dX7_init_87 (by decide) ?_
  refine iNewI hC hP hD hS hA (N := 180) (by decide) (by decide) (Nat.le_of_ble_eq_true rfl) (Nat.le_of_ble_eq_true rfl) (Nat.le_of_ble_eq_true rfl) dX7_init_90 (fun q11 H hP hD hS => ?_)
  have hP : va_P D vwCl [(h0, .inr (7, [.ref q1, .ref q2, .ref q3, .int 0, .ref q4, .ref q5, .int 0, .ref q6, .ref q7, .ref q8, .ref q9, .ref q10, .null, .int 0, .int 0, .int 0, .long 0])), (q1, .inl (cy 0, 80, .inl (fun _ => 0))), (q2, .inl (cy 0, 80, .inl (fun _ => 0))), (q3, .inl (cy 0, 400, .inl (fun _ => 0))), (q4, .inl (cy 0, 3, .inl (fun _ => 0))), (q5, .inl (cy 0, 120, .inl (fun _ => 0))), (q6, .inl (cy 0, 370, .inl (fun _ => 0))), (q7, .inl (cy 0, 10, .inl (fun _ => 0))), (q8, .inl (cy 0, 10, .inl (fun _ => 0))), (q9, .inl (cy 0, 360, .inl (fun _ => 0))), (q10, .inl (cy 0, 60, .inl (fun _ => 0))), (q11, .inl (cy 0, 180, .inl (fun _ => 0)))] H := hP
  have hD : va_D A [(h0, .inr (7, [.ref q1, .ref q2, .ref q3, .int 0, .ref q4, .ref q5, .int 0, .ref q6, .ref q7, .ref q8, .ref q9, .ref q10, .null, .int 0, .int 0, .int 0, .long 0])), (q1, .inl (cy 0, 80, .inl (fun _ => 0))), (q2, .inl (cy 0, 80, .inl (fun _ => 0))), (q3, .inl (cy 0, 400, .inl (fun _ => 0))), (q4, .inl (cy 0, 3, .inl (fun _ => 0))), (q5, .inl (cy 0, 120, .inl (fun _ => 0))), (q6, .inl (cy 0, 370, .inl (fun _ => 0))), (q7, .inl (cy 0, 10, .inl (fun _ => 0))), (q8, .inl (cy 0, 10, .inl (fun _ => 0))), (q9, .inl (cy 0, 360, .inl (fun _ => 0))), (q10, .inl (cy 0, 60, .inl (fun _ => 0))), (q11, .inl (cy 0, 180, .inl (fun _ => 0)))] := hD
  refine iPutF hC hP hD hS (ci := 7) (N := 17) (T := TX7) rfl iX7 tyX7_ok nmX7 12 (by decide) (index := 40) (by decide +kernel) rfl rfl (ty := .array .int) (by decide +kernel) rfl rfl (Nat.le_of_ble_eq_true rfl) dX7_init_92 (fun H locs hP hD hS => ?_)
  have hP : va_P D vwCl [(h0, .inr (7, [.ref q1, .ref q2, .ref q3, .int 0, .ref q4, .ref q5, .int 0, .ref q6, .ref q7, .ref q8, .ref q9, .ref q10, .ref q11, .int 0, .int 0, .int 0, .long 0])), (q1, .inl (cy 0, 80, .inl (fun _ => 0))), (q2, .inl (cy 0, 80, .inl (fun _ => 0))), (q3, .inl (cy 0, 400, .inl (fun _ => 0))), (q4, .inl (cy 0, 3, .inl (fun _ => 0))), (q5, .inl (cy 0, 120, .inl (fun _ => 0))), (q6, .inl (cy 0, 370, .inl (fun _ => 0))), (q7, .inl (cy 0, 10, .inl (fun _ => 0))), (q8, .inl (cy 0, 10, .inl (fun _ => 0))), (q9, .inl (cy 0, 360, .inl (fun _ => 0))), (q10, .inl (cy 0, 60, .inl (fun _ => 0))), (q11, .inl (cy 0, 180, .inl (fun _ => 0)))] H := hP
  have hD : va_D A [(h0, .inr (7, [.ref q1, .ref q2, .ref q3, .int 0, .ref q4, .ref q5, .int 0, .ref q6, .ref q7, .ref q8, .ref q9, .ref q10, .ref q11, .int 0, .int 0, .int 0, .long 0])), (q1, .inl (cy 0, 80, .inl (fun _ => 0))), (q2, .inl (cy 0, 80, .inl (fun _ => 0))), (q3, .inl (cy 0, 400, .inl (fun _ => 0))), (q4, .inl (cy 0, 3, .inl (fun _ => 0))), (q5, .inl (cy 0, 120, .inl (fun _ => 0))), (q6, .inl (cy 0, 370, .inl (fun _ => 0))), (q7, .inl (cy 0, 10, .inl (fun _ => 0))), (q8, .inl (cy 0, 10, .inl (fun _ => 0))), (q9, .inl (cy 0, 360, .inl (fun _ => 0))), (q10, .inl (cy 0, 60, .inl (fun _ => 0))), (q11, .inl (cy 0, 180, .inl (fun _ => 0)))] := hD
  refine lv_aload_n hx hb dX7_init_95 rfl (lv_at hl 0 rfl) ?_
  refine va_get (D := D) (ci := 7) (v := .ref q1) (C := RX7) (T := TX7) (N := 17) hx hb hts9 iX7 hown9 hK9 hP 0 rfl rfl 0 (by decide) (hts9 (.fieldLink RX7 7 "SnakeMeshModel" "now" "[I") (by decide +kernel)) (fun _ h9 => h9) rfl dX7_init_96 ?_
  refine lv_iconst (v := 0) hx hb dX7_init_99 (by decide) ?_
  refine lv_iconst (v := 4) hx hb dX7_init_100 (by decide) ?_
  refine va_iast hx hb hK9 hP hD hS 1 0 rfl rfl (inb_in (by decide)) dX7_init_101 (fun H locs hP hD hS => ?_)
  have hP : va_P D vwCl [(h0, .inr (7, [.ref q1, .ref q2, .ref q3, .int 0, .ref q4, .ref q5, .int 0, .ref q6, .ref q7, .ref q8, .ref q9, .ref q10, .ref q11, .int 0, .int 0, .int 0, .long 0])), (q1, .inl (cy 0, 80, .inl (upd (fun _ => 0) 0 4))), (q2, .inl (cy 0, 80, .inl (fun _ => 0))), (q3, .inl (cy 0, 400, .inl (fun _ => 0))), (q4, .inl (cy 0, 3, .inl (fun _ => 0))), (q5, .inl (cy 0, 120, .inl (fun _ => 0))), (q6, .inl (cy 0, 370, .inl (fun _ => 0))), (q7, .inl (cy 0, 10, .inl (fun _ => 0))), (q8, .inl (cy 0, 10, .inl (fun _ => 0))), (q9, .inl (cy 0, 360, .inl (fun _ => 0))), (q10, .inl (cy 0, 60, .inl (fun _ => 0))), (q11, .inl (cy 0, 180, .inl (fun _ => 0)))] H := hP
  have hD : va_D A [(h0, .inr (7, [.ref q1, .ref q2, .ref q3, .int 0, .ref q4, .ref q5, .int 0, .ref q6, .ref q7, .ref q8, .ref q9, .ref q10, .ref q11, .int 0, .int 0, .int 0, .long 0])), (q1, .inl (cy 0, 80, .inl (upd (fun _ => 0) 0 4))), (q2, .inl (cy 0, 80, .inl (fun _ => 0))), (q3, .inl (cy 0, 400, .inl (fun _ => 0))), (q4, .inl (cy 0, 3, .inl (fun _ => 0))), (q5, .inl (cy 0, 120, .inl (fun _ => 0))), (q6, .inl (cy 0, 370, .inl (fun _ => 0))), (q7, .inl (cy 0, 10, .inl (fun _ => 0))), (q8, .inl (cy 0, 10, .inl (fun _ => 0))), (q9, .inl (cy 0, 360, .inl (fun _ => 0))), (q10, .inl (cy 0, 60, .inl (fun _ => 0))), (q11, .inl (cy 0, 180, .inl (fun _ => 0)))] := hD
  refine lv_aload_n hx hb dX7_init_102 rfl (lv_at hl 0 rfl) ?_
  refine va_get (D := D) (ci := 7) (v := .ref q1) (C := RX7) (T := TX7) (N := 17) hx hb hts9 iX7 hown9 hK9 hP 0 rfl rfl 0 (by decide) (hts9 (.fieldLink RX7 7 "SnakeMeshModel" "now" "[I") (by decide +kernel)) (fun _ h9 => h9) rfl dX7_init_103 ?_
  refine lv_iconst (v := 1) hx hb dX7_init_106 (by decide) ?_
  refine lv_iconst (v := 4) hx hb dX7_init_107 (by decide) ?_
  refine va_iast hx hb hK9 hP hD hS 1 0 rfl rfl (inb_in (by decide)) dX7_init_108 (fun H locs hP hD hS => ?_)
  have hP : va_P D vwCl [(h0, .inr (7, [.ref q1, .ref q2, .ref q3, .int 0, .ref q4, .ref q5, .int 0, .ref q6, .ref q7, .ref q8, .ref q9, .ref q10, .ref q11, .int 0, .int 0, .int 0, .long 0])), (q1, .inl (cy 0, 80, .inl (upd (upd (fun _ => 0) 0 4) 1 4))), (q2, .inl (cy 0, 80, .inl (fun _ => 0))), (q3, .inl (cy 0, 400, .inl (fun _ => 0))), (q4, .inl (cy 0, 3, .inl (fun _ => 0))), (q5, .inl (cy 0, 120, .inl (fun _ => 0))), (q6, .inl (cy 0, 370, .inl (fun _ => 0))), (q7, .inl (cy 0, 10, .inl (fun _ => 0))), (q8, .inl (cy 0, 10, .inl (fun _ => 0))), (q9, .inl (cy 0, 360, .inl (fun _ => 0))), (q10, .inl (cy 0, 60, .inl (fun _ => 0))), (q11, .inl (cy 0, 180, .inl (fun _ => 0)))] H := hP
  have hD : va_D A [(h0, .inr (7, [.ref q1, .ref q2, .ref q3, .int 0, .ref q4, .ref q5, .int 0, .ref q6, .ref q7, .ref q8, .ref q9, .ref q10, .ref q11, .int 0, .int 0, .int 0, .long 0])), (q1, .inl (cy 0, 80, .inl (upd (upd (fun _ => 0) 0 4) 1 4))), (q2, .inl (cy 0, 80, .inl (fun _ => 0))), (q3, .inl (cy 0, 400, .inl (fun _ => 0))), (q4, .inl (cy 0, 3, .inl (fun _ => 0))), (q5, .inl (cy 0, 120, .inl (fun _ => 0))), (q6, .inl (cy 0, 370, .inl (fun _ => 0))), (q7, .inl (cy 0, 10, .inl (fun _ => 0))), (q8, .inl (cy 0, 10, .inl (fun _ => 0))), (q9, .inl (cy 0, 360, .inl (fun _ => 0))), (q10, .inl (cy 0, 60, .inl (fun _ => 0))), (q11, .inl (cy 0, 180, .inl (fun _ => 0)))] := hD
  exact iRet hC (q := fun k => [h0, q1, q2, q3, q4, q5, q6, q7, q8, q9, q10, q11].getD k 0) rfl hP hD hS rfl rfl dX7_init_109
