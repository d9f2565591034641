-- ===== SnakeMesh() =====
/-- the class as it begins -/
def X0 (x : HT) : Prop := CX x (rMesh 4 4) ∧ x.1 57 1 = 0 ∧ x.1 57 2 = 0 ∧ x.1 89 1 = 0 ∧ x.1 0 8 = 0 ∧ x.1 0 9 = 0 ∧ x.1 0 10 = 0
theorem ok44 : okW 4 4 := ⟨by omega, by omega, by omega, by omega⟩
theorem x_new : ∃ xa xb, fX2_begin 1000 0 x0 4 4 = some ((), xa) ∧ fX0_lay 1000 xa 4 4 = some ((), xb) ∧ X0 xb := by
  obtain ⟨xa, e1, f1, r1⟩ := x_begin 1000 0 x0 4 4
  have g0 : xa.1 59 0 = nI 0 := (f1 59 0 (by omega)).1
  obtain ⟨xb, e2, f2, g2⟩ := x_lay (F := 1000) (by omega) (x := xa) ok44 (fun W' H' h1 h2 h3 h4 h6 h7 => by
    rw [g0, eq_nI (by omega) (by omega)] at h3
    omega)
  refine ⟨xa, xb, e1, e2, ⟨f2.l.rx (by omega) r1, g2, fun w hw => absurd hw (Nat.not_lt_zero w)⟩, ?_, ?_, ?_, ?_, ?_, ?_⟩
  · rw [f2.l.2 57 1 (by omega), (f1 57 1 (by omega)).1]; rfl
  · rw [f2.l.2 57 2 (by omega), (f1 57 2 (by omega)).1]; rfl
  · rw [f2.l.2 89 1 (by omega), (f1 89 1 (by omega)).1]; rfl
  · rw [f2.l.2 0 8 (by omega), (f1 0 8 (by omega)).1]; rfl
  · rw [f2.l.2 0 9 (by omega), (f1 0 9 (by omega)).1]; rfl
  · rw [f2.l.2 0 10 (by omega), (f1 0 10 (by omega)).1]; rfl
def jPc (D : va_G) (cy : Nat → ClassId) (tX tY : Nat) (h0 sz : Nat) : Array Value → State → Prop := va_Pc [.ref h0] (fun U => U.heap.size = sz ∧ va_P D vwCl [(h0, .inr (6, [.null, .null, .null, .null, .null, .null, .null, .null, .int 0, .int 0, .int 0]))] U.heap ∧ va_K D vwCl (tyL cy) U ∧ ZS tX tY (va_A [(h0, .inr (6, [.null, .null, .null, .null, .null, .null, .null, .null, .int 0, .int 0, .int 0]))] sz) U U.heap ∧ CW U)
theorem jPc_blind {D : va_G} {cy : Nat → ClassId} {tX tY h0 sz : Nat} : FrameBlind (jPc D cy tX tY h0 sz) := fun a U g mk q => ⟨q.1, q.2.1, q.2.2.1, va_K.moved (u := U) (U := U.calling g mk a) (Vm.Alike.refl U.vm) q.2.2.2.1, ZS.same (u := U) (U := U.calling g mk a) (Vm.Alike.refl U.vm) rfl q.2.2.2.2.1, CW.moved (u := U) (U := U.calling g mk a) (Vm.Alike.refl U.vm) q.2.2.2.2.2⟩
def jB (D : va_G) (cy : Nat → ClassId) (A : Nat → Prop) (u : (Nat → Nat) × HT) (t : State) : Prop := va_P D vwCl (wG (eX cy u.1) 93 u.1 u.2) t.heap ∧ apart u.1 A 93
def jQ (D : va_G) (cy : Nat → ClassId) (h0 : Nat) (A : Nat → Prop) : Array Value → State → Outcome → State → Prop := va_Qv (fun u : (Nat → Nat) × HT => u.1 0 = h0 ∧ X0 u.2) (jB D cy A) A
theorem qjK1 : Cond.methodLink RX6 3 objectInit ∈ wAll := by decide +kernel
theorem qjS1 : Cond.classLink RX6 9 RX2 ∈ wAll := by decide +kernel
theorem qjH1 : Cond.classLink RX6 22 RX1 ∈ wAll := by decide +kernel
theorem qjH2 : Cond.instantiable RX1 3 ∈ wAll := by decide +kernel
theorem qjH3 : Cond.initialized RX1 ∈ wAll := by decide +kernel
theorem qjH4 : Cond.code yX1_init cX1_init 2 none ∈ wAll := by decide +kernel
theorem qjH5 : Cond.instanceMethod yX1_init ∈ wAll := by decide +kernel
theorem qjH6 : Cond.methodLink RX6 24 yX1_init ∈ wAll := by decide +kernel
theorem qjG1 : Cond.classLink RX6 29 RX0 ∈ wAll := by decide +kernel
theorem qjG2 : Cond.instantiable RX0 5 ∈ wAll := by decide +kernel
theorem qjG3 : Cond.initialized RX0 ∈ wAll := by decide +kernel
theorem qjG4 : Cond.code yX0_init cX0_init 1 none ∈ wAll := by decide +kernel
theorem qjG5 : Cond.instanceMethod yX0_init ∈ wAll := by decide +kernel
theorem qjW1 : Cond.classLink RX6 36 RX5 ∈ wAll := by decide +kernel
theorem qjW2 : Cond.instantiable RX5 3 ∈ wAll := by decide +kernel
theorem qjW3 : Cond.initialized RX5 ∈ wAll := by decide +kernel
theorem qjW4 : Cond.code yX5_init cX5_init 1 none ∈ wAll := by decide +kernel
theorem qjW5 : Cond.instanceMethod yX5_init ∈ wAll := by decide +kernel
theorem qjR1 : Cond.classLink RX6 43 RX4 ∈ wAll := by decide +kernel
theorem qjR2 : Cond.instantiable RX4 1 ∈ wAll := by decide +kernel
theorem qjR3 : Cond.initialized RX4 ∈ wAll := by decide +kernel
theorem qjR4 : Cond.code yX4_init cX4_init 1 none ∈ wAll := by decide +kernel
theorem qjR5 : Cond.instanceMethod yX4_init ∈ wAll := by decide +kernel
theorem qjT1 : Cond.classLink RX6 50 RX3 ∈ wAll := by decide +kernel
theorem qjT2 : Cond.instantiable RX3 6 ∈ wAll := by decide +kernel
theorem qjT3 : Cond.initialized RX3 ∈ wAll := by decide +kernel
theorem qjT4 : Cond.code yX3_init cX3_init 1 none ∈ wAll := by decide +kernel
theorem qjT5 : Cond.instanceMethod yX3_init ∈ wAll := by decide +kernel
theorem qjF0 : Cond.fieldLink RX6 12 "SnakeMesh" "now" "LSnakeMesh$State;" ∈ wAll := by decide +kernel
theorem qjF1 : Cond.fieldLink RX6 16 "SnakeMesh" "before" "LSnakeMesh$State;" ∈ wAll := by decide +kernel
theorem qjF2 : Cond.fieldLink RX6 19 "SnakeMesh" "ahead" "LSnakeMesh$State;" ∈ wAll := by decide +kernel
theorem qjF3 : Cond.fieldLink RX6 25 "SnakeMesh" "history" "LSnakeMesh$History;" ∈ wAll := by decide +kernel
theorem qjF4 : Cond.fieldLink RX6 32 "SnakeMesh" "grid" "LSnakeMesh$Grid;" ∈ wAll := by decide +kernel
theorem qjF5 : Cond.fieldLink RX6 39 "SnakeMesh" "ways" "LSnakeMesh$Ways;" ∈ wAll := by decide +kernel
theorem qjF6 : Cond.fieldLink RX6 46 "SnakeMesh" "traffic" "LSnakeMesh$Traffic;" ∈ wAll := by decide +kernel
theorem qjF7 : Cond.fieldLink RX6 53 "SnakeMesh" "text" "LSnakeMesh$Text;" ∈ wAll := by decide +kernel
theorem fsH : ∀ j, j < 3 → defaultValue (tyX1 j) = vp_V [.null, .int 0, .int 0] j := fun j hj => by
  rcases (show j = 0 ∨ j = 1 ∨ j = 2 by omega) with rfl | rfl | rfl <;> rfl
theorem fsG : ∀ j, j < 5 → defaultValue (tyX0 j) = vp_V [.int 0, .int 0, .null, .null, .null] j := fun j hj => by
  rcases (show j = 0 ∨ j = 1 ∨ j = 2 ∨ j = 3 ∨ j = 4 by omega) with rfl | rfl | rfl | rfl | rfl <;> rfl
theorem fsW : ∀ j, j < 3 → defaultValue (tyX5 j) = vp_V [.null, .null, .null] j := fun j hj => by
  rcases (show j = 0 ∨ j = 1 ∨ j = 2 by omega) with rfl | rfl | rfl <;> rfl
theorem fsR : ∀ j, j < 1 → defaultValue (tyX4 j) = vp_V [.null] j := fun j hj => by
  rcases (show j = 0 by omega) with rfl <;> rfl
theorem fsT : ∀ j, j < 6 → defaultValue (tyX3 j) = vp_V [.null, .int 0, .null, .null, .int 0, .int 0] j := fun j hj => by
  rcases (show j = 0 ∨ j = 1 ∨ j = 2 ∨ j = 3 ∨ j = 4 ∨ j = 5 by omega) with rfl | rfl | rfl | rfl | rfl | rfl <;> rfl
set_option maxHeartbeats 8000000 in
set_option maxRecDepth 100000 in
theorem kiX (l : Launch) (D : va_G) (cy : Nat → ClassId) (tX tY h0 sz : Nat) : Met l yX6_init (Cond.code yX6_init cX6_init 1 none :: wAll) { frames := 3, cells := 92, slots := 2141, locals := 72 } (jPc D cy tX tY h0 sz) (jQ D cy h0 (va_A [(h0, .inr (6, [.null, .null, .null, .null, .null, .null, .null, .null, .int 0, .int 0, .int 0]))] sz)) 92 2141 (va_A [(h0, .inr (6, [.null, .null, .null, .null, .null, .null, .null, .null, .int 0, .int 0, .int 0]))] sz) := by
  refine Met.ofW (cc := cX6_init) (maxL := 1) (ret := none) (by decide) rfl ?_
  intro p e s m args below meth c s₁ B hml hv
  obtain ⟨rfl, hsz, hP, hK9, hZ9, hCW9⟩ := hv
  have hts := atoms_spec (ws := Cond.code yX6_init cX6_init 1 none :: wAll) B.pre
  have hin9 : meth.name = yX6_init.name := (name_of_methodNamed B.named B.method).1
  have hC : Ci p s m [Value.ref h0].toArray meth c cX6_init 1 RX6 D cy := ⟨B.exec, B.bytes, hml, findClass_of_methodNamed B.named, fun w hw => hts w (List.mem_cons_of_mem _ hw), B.returns, hK9, hZ9.2.2.2.2, hCW9, B.notSynchronized, hin9⟩
  have hl := lv_entry [Value.ref h0] (n := 1) (Nat.le_of_ble_eq_true rfl)
  rw [lg_entry_eq]
  generalize (lg_sl ([Value.ref h0]) ++ List.replicate (1 - (lg_sl ([Value.ref h0])).length) Slot.unset).toArray = ls at hl ⊢
  have hl : lv_has ls 1 [(0, .ref h0)] := hl
  obtain ⟨hx, hb, hml9, hown9, hts9, hr9, -, hN9, -⟩ := id hC
  generalize hAe : va_A [(h0, .inr (6, [.null, .null, .null, .null, .null, .null, .null, .null, .int 0, .int 0, .int 0]))] sz = A at hZ9 ⊢
  have hA : ∀ q : Nat, s.heap.size ≤ q → A q := fun q h => by rw [← hAe, ← hsz]; exact Or.inr h
  have hS : va_S A s.heap s.heap [] := va_S.rf
  have hD : va_D A [(h0, (.inr (6, [.null, .null, .null, .null, .null, .null, .null, .null, .int 0, .int 0, .int 0]) : va_E))] := va_D1 (by rw [← hAe]; exact Or.inl ⟨0, _, rfl⟩)
  show W p l e { frames := 3, cells := 92, slots := 2141, locals := 72 } s m _ below meth c s.heap [] 0 0 _ _
  refine lv_aload_n hx hb dX6_init_0 rfl (lv_at hl 0 rfl) ?_
  refine iObj hC (idx := 3) qjK1 hl.1 ⟨Nat.le_of_ble_eq_true rfl, Nat.le_of_ble_eq_true rfl⟩ dX6_init_1 ?_
  refine lv_aload_n hx hb dX6_init_4 rfl (lv_at hl 0 rfl) ?_
  refine iNewC hC hP hD hS hA (ci := 2) (C := RX2) (T := TX2) (N := 10) rfl iX2 tyX2_ok qjS1 qwH2 qwH3 fsS (Nat.le_of_ble_eq_true rfl) (Nat.le_of_ble_eq_true rfl) dX6_init_5 (fun q H hP hD hS => ?_)
  refine lv_dup hx hb dX6_init_8 rfl ?_
  refine iCallN hC hP hD hS hA (As := []) (rest := [.ref q, .ref h0]) (cE := cS cy) (n := 7) (nn := 0) (kiS l D cy q H.size) qwH4 ⟨rfl, rfl⟩ hN9.2.2.1 qwH3 qwH5 rfl (by decide +kernel) ⟨Nat.le_of_ble_eq_true rfl, Nat.le_of_ble_eq_true rfl⟩ rfl hl.1 rfl (Nat.le_of_ble_eq_true rfl) dX6_init_9 ⟨Nat.le_of_ble_eq_true rfl, Nat.le_of_ble_eq_true rfl⟩ (fun r1 H locs hr1 hP hD hS => ?_)
  rw [← hr1]
  have hP : va_P D vwCl ((h0, .inr (6, [.null, .null, .null, .null, .null, .null, .null, .null, .int 0, .int 0, .int 0])) :: wF 7 (cS cy r1)) H := hP
  have hD : va_D A ((h0, .inr (6, [.null, .null, .null, .null, .null, .null, .null, .null, .int 0, .int 0, .int 0])) :: wF 7 (cS cy r1)) := hD
  refine iPutF hC hP hD hS (ci := 6) (N := 11) (T := TX6) rfl iX6 tyX6_ok nmX6 0 (by decide) (index := 12) qjF0 rfl rfl (ty := .object "SnakeMesh$State") (by decide +kernel) rfl rfl (Nat.le_of_ble_eq_true rfl) dX6_init_12 (fun H locs hP hD hS => ?_)
  have hP : va_P D vwCl ((h0, .inr (6, [.ref (r1 0), .null, .null, .null, .null, .null, .null, .null, .int 0, .int 0, .int 0])) :: wF 7 (cS cy r1)) H := hP
  have hD : va_D A ((h0, .inr (6, [.ref (r1 0), .null, .null, .null, .null, .null, .null, .null, .int 0, .int 0, .int 0])) :: wF 7 (cS cy r1)) := hD
  refine lv_aload_n hx hb dX6_init_15 rfl (lv_at hl 0 rfl) ?_
  refine iNewC hC hP hD hS hA (ci := 2) (C := RX2) (T := TX2) (N := 10) rfl iX2 tyX2_ok qjS1 qwH2 qwH3 fsS (Nat.le_of_ble_eq_true rfl) (Nat.le_of_ble_eq_true rfl) dX6_init_16 (fun q H hP hD hS => ?_)
  refine lv_dup hx hb dX6_init_19 rfl ?_
  refine iCallN hC hP hD hS hA (As := []) (rest := [.ref q, .ref h0]) (cE := cS cy) (n := 7) (nn := 0) (kiS l D cy q H.size) qwH4 ⟨rfl, rfl⟩ hN9.2.2.1 qwH3 qwH5 rfl (by decide +kernel) ⟨Nat.le_of_ble_eq_true rfl, Nat.le_of_ble_eq_true rfl⟩ rfl hl.1 rfl (Nat.le_of_ble_eq_true rfl) dX6_init_20 ⟨Nat.le_of_ble_eq_true rfl, Nat.le_of_ble_eq_true rfl⟩ (fun r2 H locs hr2 hP hD hS => ?_)
  rw [← hr2]
  have hP : va_P D vwCl ((h0, .inr (6, [.ref (r1 0), .null, .null, .null, .null, .null, .null, .null, .int 0, .int 0, .int 0])) :: (wF 7 (cS cy r1) ++ wF 7 (cS cy r2))) H := hP
  have hD : va_D A ((h0, .inr (6, [.ref (r1 0), .null, .null, .null, .null, .null, .null, .null, .int 0, .int 0, .int 0])) :: (wF 7 (cS cy r1) ++ wF 7 (cS cy r2))) := hD
  refine iPutF hC hP hD hS (ci := 6) (N := 11) (T := TX6) rfl iX6 tyX6_ok nmX6 1 (by decide) (index := 16) qjF1 rfl rfl (ty := .object "SnakeMesh$State") (by decide +kernel) rfl rfl (Nat.le_of_ble_eq_true rfl) dX6_init_23 (fun H locs hP hD hS => ?_)
  have hP : va_P D vwCl ((h0, .inr (6, [.ref (r1 0), .ref (r2 0), .null, .null, .null, .null, .null, .null, .int 0, .int 0, .int 0])) :: (wF 7 (cS cy r1) ++ wF 7 (cS cy r2))) H := hP
  have hD : va_D A ((h0, .inr (6, [.ref (r1 0), .ref (r2 0), .null, .null, .null, .null, .null, .null, .int 0, .int 0, .int 0])) :: (wF 7 (cS cy r1) ++ wF 7 (cS cy r2))) := hD
  refine lv_aload_n hx hb dX6_init_26 rfl (lv_at hl 0 rfl) ?_
  refine iNewC hC hP hD hS hA (ci := 2) (C := RX2) (T := TX2) (N := 10) rfl iX2 tyX2_ok qjS1 qwH2 qwH3 fsS (Nat.le_of_ble_eq_true rfl) (Nat.le_of_ble_eq_true rfl) dX6_init_27 (fun q H hP hD hS => ?_)
  refine lv_dup hx hb dX6_init_30 rfl ?_
  refine iCallN hC hP hD hS hA (As := []) (rest := [.ref q, .ref h0]) (cE := cS cy) (n := 7) (nn := 0) (kiS l D cy q H.size) qwH4 ⟨rfl, rfl⟩ hN9.2.2.1 qwH3 qwH5 rfl (by decide +kernel) ⟨Nat.le_of_ble_eq_true rfl, Nat.le_of_ble_eq_true rfl⟩ rfl hl.1 rfl (Nat.le_of_ble_eq_true rfl) dX6_init_31 ⟨Nat.le_of_ble_eq_true rfl, Nat.le_of_ble_eq_true rfl⟩ (fun r3 H locs hr3 hP hD hS => ?_)
  rw [← hr3]
  have hP : va_P D vwCl ((h0, .inr (6, [.ref (r1 0), .ref (r2 0), .null, .null, .null, .null, .null, .null, .int 0, .int 0, .int 0])) :: ((wF 7 (cS cy r1) ++ wF 7 (cS cy r2)) ++ wF 7 (cS cy r3))) H := hP
  have hD : va_D A ((h0, .inr (6, [.ref (r1 0), .ref (r2 0), .null, .null, .null, .null, .null, .null, .int 0, .int 0, .int 0])) :: ((wF 7 (cS cy r1) ++ wF 7 (cS cy r2)) ++ wF 7 (cS cy r3))) := hD
  refine iPutF hC hP hD hS (ci := 6) (N := 11) (T := TX6) rfl iX6 tyX6_ok nmX6 2 (by decide) (index := 19) qjF2 rfl rfl (ty := .object "SnakeMesh$State") (by decide +kernel) rfl rfl (Nat.le_of_ble_eq_true rfl) dX6_init_34 (fun H locs hP hD hS => ?_)
  have hP : va_P D vwCl ((h0, .inr (6, [.ref (r1 0), .ref (r2 0), .ref (r3 0), .null, .null, .null, .null, .null, .int 0, .int 0, .int 0])) :: ((wF 7 (cS cy r1) ++ wF 7 (cS cy r2)) ++ wF 7 (cS cy r3))) H := hP
  have hD : va_D A ((h0, .inr (6, [.ref (r1 0), .ref (r2 0), .ref (r3 0), .null, .null, .null, .null, .null, .int 0, .int 0, .int 0])) :: ((wF 7 (cS cy r1) ++ wF 7 (cS cy r2)) ++ wF 7 (cS cy r3))) := hD
  refine lv_aload_n hx hb dX6_init_37 rfl (lv_at hl 0 rfl) ?_
  refine iNewC hC hP hD hS hA (ci := 1) (C := RX1) (T := TX1) (N := 3) rfl iX1 tyX1_ok qjH1 qjH2 qjH3 fsH (Nat.le_of_ble_eq_true rfl) (Nat.le_of_ble_eq_true rfl) dX6_init_38 (fun q H hP hD hS => ?_)
  refine lv_dup hx hb dX6_init_41 rfl ?_
  refine iCallI hC hP hD hS hA (As := []) (rest := [.ref q, .ref h0]) (cE := cH cy) (n := 37) (nn := 0) (kiH l D cy q H.size) qjH4 ⟨rfl, rfl⟩ qjH6 qjH3 qjH5 rfl (by decide +kernel) ⟨Nat.le_of_ble_eq_true rfl, Nat.le_of_ble_eq_true rfl⟩ rfl hl.1 rfl (Nat.le_of_ble_eq_true rfl) dX6_init_42 ⟨Nat.le_of_ble_eq_true rfl, Nat.le_of_ble_eq_true rfl⟩ (fun rh H locs hrh hP hD hS => ?_)
  rw [← hrh]
  have hP : va_P D vwCl ((h0, .inr (6, [.ref (r1 0), .ref (r2 0), .ref (r3 0), .null, .null, .null, .null, .null, .int 0, .int 0, .int 0])) :: (((wF 7 (cS cy r1) ++ wF 7 (cS cy r2)) ++ wF 7 (cS cy r3)) ++ wF 37 (cH cy rh))) H := hP
  have hD : va_D A ((h0, .inr (6, [.ref (r1 0), .ref (r2 0), .ref (r3 0), .null, .null, .null, .null, .null, .int 0, .int 0, .int 0])) :: (((wF 7 (cS cy r1) ++ wF 7 (cS cy r2)) ++ wF 7 (cS cy r3)) ++ wF 37 (cH cy rh))) := hD
  refine iPutF hC hP hD hS (ci := 6) (N := 11) (T := TX6) rfl iX6 tyX6_ok nmX6 3 (by decide) (index := 25) qjF3 rfl rfl (ty := .object "SnakeMesh$History") (by decide +kernel) rfl rfl (Nat.le_of_ble_eq_true rfl) dX6_init_45 (fun H locs hP hD hS => ?_)
  have hP : va_P D vwCl ((h0, .inr (6, [.ref (r1 0), .ref (r2 0), .ref (r3 0), .ref (rh 0), .null, .null, .null, .null, .int 0, .int 0, .int 0])) :: (((wF 7 (cS cy r1) ++ wF 7 (cS cy r2)) ++ wF 7 (cS cy r3)) ++ wF 37 (cH cy rh))) H := hP
  have hD : va_D A ((h0, .inr (6, [.ref (r1 0), .ref (r2 0), .ref (r3 0), .ref (rh 0), .null, .null, .null, .null, .int 0, .int 0, .int 0])) :: (((wF 7 (cS cy r1) ++ wF 7 (cS cy r2)) ++ wF 7 (cS cy r3)) ++ wF 37 (cH cy rh))) := hD
  refine lv_aload_n hx hb dX6_init_48 rfl (lv_at hl 0 rfl) ?_
  refine iNewC hC hP hD hS hA (ci := 0) (C := RX0) (T := TX0) (N := 5) rfl iX0 tyX0_ok qjG1 qjG2 qjG3 fsG (Nat.le_of_ble_eq_true rfl) (Nat.le_of_ble_eq_true rfl) dX6_init_49 (fun q H hP hD hS => ?_)
  refine lv_dup hx hb dX6_init_52 rfl ?_
  refine iCallN hC hP hD hS hA (As := []) (rest := [.ref q, .ref h0]) (cE := cG cy) (n := 4) (nn := 0) (kiG l D cy q H.size) qjG4 ⟨rfl, rfl⟩ hN9.2.2.2.2.1 qjG3 qjG5 rfl (by decide +kernel) ⟨Nat.le_of_ble_eq_true rfl, Nat.le_of_ble_eq_true rfl⟩ rfl hl.1 rfl (Nat.le_of_ble_eq_true rfl) dX6_init_53 ⟨Nat.le_of_ble_eq_true rfl, Nat.le_of_ble_eq_true rfl⟩ (fun rg H locs hrg hP hD hS => ?_)
  rw [← hrg]
  have hP : va_P D vwCl ((h0, .inr (6, [.ref (r1 0), .ref (r2 0), .ref (r3 0), .ref (rh 0), .null, .null, .null, .null, .int 0, .int 0, .int 0])) :: ((((wF 7 (cS cy r1) ++ wF 7 (cS cy r2)) ++ wF 7 (cS cy r3)) ++ wF 37 (cH cy rh)) ++ wF 4 (cG cy rg))) H := hP
  have hD : va_D A ((h0, .inr (6, [.ref (r1 0), .ref (r2 0), .ref (r3 0), .ref (rh 0), .null, .null, .null, .null, .int 0, .int 0, .int 0])) :: ((((wF 7 (cS cy r1) ++ wF 7 (cS cy r2)) ++ wF 7 (cS cy r3)) ++ wF 37 (cH cy rh)) ++ wF 4 (cG cy rg))) := hD
  refine iPutF hC hP hD hS (ci := 6) (N := 11) (T := TX6) rfl iX6 tyX6_ok nmX6 4 (by decide) (index := 32) qjF4 rfl rfl (ty := .object "SnakeMesh$Grid") (by decide +kernel) rfl rfl (Nat.le_of_ble_eq_true rfl) dX6_init_56 (fun H locs hP hD hS => ?_)
  have hP : va_P D vwCl ((h0, .inr (6, [.ref (r1 0), .ref (r2 0), .ref (r3 0), .ref (rh 0), .ref (rg 0), .null, .null, .null, .int 0, .int 0, .int 0])) :: ((((wF 7 (cS cy r1) ++ wF 7 (cS cy r2)) ++ wF 7 (cS cy r3)) ++ wF 37 (cH cy rh)) ++ wF 4 (cG cy rg))) H := hP
  have hD : va_D A ((h0, .inr (6, [.ref (r1 0), .ref (r2 0), .ref (r3 0), .ref (rh 0), .ref (rg 0), .null, .null, .null, .int 0, .int 0, .int 0])) :: ((((wF 7 (cS cy r1) ++ wF 7 (cS cy r2)) ++ wF 7 (cS cy r3)) ++ wF 37 (cH cy rh)) ++ wF 4 (cG cy rg))) := hD
  refine lv_aload_n hx hb dX6_init_59 rfl (lv_at hl 0 rfl) ?_
  refine iNewC hC hP hD hS hA (ci := 5) (C := RX5) (T := TX5) (N := 3) rfl iX5 tyX5_ok qjW1 qjW2 qjW3 fsW (Nat.le_of_ble_eq_true rfl) (Nat.le_of_ble_eq_true rfl) dX6_init_60 (fun q H hP hD hS => ?_)
  refine lv_dup hx hb dX6_init_63 rfl ?_
  refine iCallN hC hP hD hS hA (As := []) (rest := [.ref q, .ref h0]) (cE := cW cy) (n := 24) (nn := 0) (kiW l D cy q H.size) qjW4 ⟨rfl, rfl⟩ hN9.2.2.2.2.2.1 qjW3 qjW5 rfl (by decide +kernel) ⟨Nat.le_of_ble_eq_true rfl, Nat.le_of_ble_eq_true rfl⟩ rfl hl.1 rfl (Nat.le_of_ble_eq_true rfl) dX6_init_64 ⟨Nat.le_of_ble_eq_true rfl, Nat.le_of_ble_eq_true rfl⟩ (fun rw H locs hrw hP hD hS => ?_)
  rw [← hrw]
  have hP : va_P D vwCl ((h0, .inr (6, [.ref (r1 0), .ref (r2 0), .ref (r3 0), .ref (rh 0), .ref (rg 0), .null, .null, .null, .int 0, .int 0, .int 0])) :: (((((wF 7 (cS cy r1) ++ wF 7 (cS cy r2)) ++ wF 7 (cS cy r3)) ++ wF 37 (cH cy rh)) ++ wF 4 (cG cy rg)) ++ wF 24 (cW cy rw))) H := hP
  have hD : va_D A ((h0, .inr (6, [.ref (r1 0), .ref (r2 0), .ref (r3 0), .ref (rh 0), .ref (rg 0), .null, .null, .null, .int 0, .int 0, .int 0])) :: (((((wF 7 (cS cy r1) ++ wF 7 (cS cy r2)) ++ wF 7 (cS cy r3)) ++ wF 37 (cH cy rh)) ++ wF 4 (cG cy rg)) ++ wF 24 (cW cy rw))) := hD
  refine iPutF hC hP hD hS (ci := 6) (N := 11) (T := TX6) rfl iX6 tyX6_ok nmX6 5 (by decide) (index := 39) qjF5 rfl rfl (ty := .object "SnakeMesh$Ways") (by decide +kernel) rfl rfl (Nat.le_of_ble_eq_true rfl) dX6_init_67 (fun H locs hP hD hS => ?_)
  have hP : va_P D vwCl ((h0, .inr (6, [.ref (r1 0), .ref (r2 0), .ref (r3 0), .ref (rh 0), .ref (rg 0), .ref (rw 0), .null, .null, .int 0, .int 0, .int 0])) :: (((((wF 7 (cS cy r1) ++ wF 7 (cS cy r2)) ++ wF 7 (cS cy r3)) ++ wF 37 (cH cy rh)) ++ wF 4 (cG cy rg)) ++ wF 24 (cW cy rw))) H := hP
  have hD : va_D A ((h0, .inr (6, [.ref (r1 0), .ref (r2 0), .ref (r3 0), .ref (rh 0), .ref (rg 0), .ref (rw 0), .null, .null, .int 0, .int 0, .int 0])) :: (((((wF 7 (cS cy r1) ++ wF 7 (cS cy r2)) ++ wF 7 (cS cy r3)) ++ wF 37 (cH cy rh)) ++ wF 4 (cG cy rg)) ++ wF 24 (cW cy rw))) := hD
  refine lv_aload_n hx hb dX6_init_70 rfl (lv_at hl 0 rfl) ?_
  refine iNewC hC hP hD hS hA (ci := 4) (C := RX4) (T := TX4) (N := 1) rfl iX4 tyX4_ok qjR1 qjR2 qjR3 fsR (Nat.le_of_ble_eq_true rfl) (Nat.le_of_ble_eq_true rfl) dX6_init_71 (fun q H hP hD hS => ?_)
  refine lv_dup hx hb dX6_init_74 rfl ?_
  refine iCallN hC hP hD hS hA (As := []) (rest := [.ref q, .ref h0]) (cE := cR cy) (n := 2) (nn := 0) (kiR l D cy q H.size) qjR4 ⟨rfl, rfl⟩ hN9.2.2.2.2.2.2.1 qjR3 qjR5 rfl (by decide +kernel) ⟨Nat.le_of_ble_eq_true rfl, Nat.le_of_ble_eq_true rfl⟩ rfl hl.1 rfl (Nat.le_of_ble_eq_true rfl) dX6_init_75 ⟨Nat.le_of_ble_eq_true rfl, Nat.le_of_ble_eq_true rfl⟩ (fun rt H locs hrt hP hD hS => ?_)
  rw [← hrt]
  have hP : va_P D vwCl ((h0, .inr (6, [.ref (r1 0), .ref (r2 0), .ref (r3 0), .ref (rh 0), .ref (rg 0), .ref (rw 0), .null, .null, .int 0, .int 0, .int 0])) :: ((((((wF 7 (cS cy r1) ++ wF 7 (cS cy r2)) ++ wF 7 (cS cy r3)) ++ wF 37 (cH cy rh)) ++ wF 4 (cG cy rg)) ++ wF 24 (cW cy rw)) ++ wF 2 (cR cy rt))) H := hP
  have hD : va_D A ((h0, .inr (6, [.ref (r1 0), .ref (r2 0), .ref (r3 0), .ref (rh 0), .ref (rg 0), .ref (rw 0), .null, .null, .int 0, .int 0, .int 0])) :: ((((((wF 7 (cS cy r1) ++ wF 7 (cS cy r2)) ++ wF 7 (cS cy r3)) ++ wF 37 (cH cy rh)) ++ wF 4 (cG cy rg)) ++ wF 24 (cW cy rw)) ++ wF 2 (cR cy rt))) := hD
  refine iPutF hC hP hD hS (ci := 6) (N := 11) (T := TX6) rfl iX6 tyX6_ok nmX6 6 (by decide) (index := 46) qjF6 rfl rfl (ty := .object "SnakeMesh$Traffic") (by decide +kernel) rfl rfl (Nat.le_of_ble_eq_true rfl) dX6_init_78 (fun H locs hP hD hS => ?_)
  have hP : va_P D vwCl ((h0, .inr (6, [.ref (r1 0), .ref (r2 0), .ref (r3 0), .ref (rh 0), .ref (rg 0), .ref (rw 0), .ref (rt 0), .null, .int 0, .int 0, .int 0])) :: ((((((wF 7 (cS cy r1) ++ wF 7 (cS cy r2)) ++ wF 7 (cS cy r3)) ++ wF 37 (cH cy rh)) ++ wF 4 (cG cy rg)) ++ wF 24 (cW cy rw)) ++ wF 2 (cR cy rt))) H := hP
  have hD : va_D A ((h0, .inr (6, [.ref (r1 0), .ref (r2 0), .ref (r3 0), .ref (rh 0), .ref (rg 0), .ref (rw 0), .ref (rt 0), .null, .int 0, .int 0, .int 0])) :: ((((((wF 7 (cS cy r1) ++ wF 7 (cS cy r2)) ++ wF 7 (cS cy r3)) ++ wF 37 (cH cy rh)) ++ wF 4 (cG cy rg)) ++ wF 24 (cW cy rw)) ++ wF 2 (cR cy rt))) := hD
  refine lv_aload_n hx hb dX6_init_81 rfl (lv_at hl 0 rfl) ?_
  refine iNewC hC hP hD hS hA (ci := 3) (C := RX3) (T := TX3) (N := 6) rfl iX3 tyX3_ok qjT1 qjT2 qjT3 fsT (Nat.le_of_ble_eq_true rfl) (Nat.le_of_ble_eq_true rfl) dX6_init_82 (fun q H hP hD hS => ?_)
  refine lv_dup hx hb dX6_init_85 rfl ?_
  refine iCallN hC hP hD hS hA (As := []) (rest := [.ref q, .ref h0]) (cE := cT cy) (n := 4) (nn := 0) (kiT l D cy q H.size) qjT4 ⟨rfl, rfl⟩ hN9.2.2.2.2.2.2.2 qjT3 qjT5 rfl (by decide +kernel) ⟨Nat.le_of_ble_eq_true rfl, Nat.le_of_ble_eq_true rfl⟩ rfl hl.1 rfl (Nat.le_of_ble_eq_true rfl) dX6_init_86 ⟨Nat.le_of_ble_eq_true rfl, Nat.le_of_ble_eq_true rfl⟩ (fun rx H locs hrx hP hD hS => ?_)
  rw [← hrx]
  have hP : va_P D vwCl ((h0, .inr (6, [.ref (r1 0), .ref (r2 0), .ref (r3 0), .ref (rh 0), .ref (rg 0), .ref (rw 0), .ref (rt 0), .null, .int 0, .int 0, .int 0])) :: (((((((wF 7 (cS cy r1) ++ wF 7 (cS cy r2)) ++ wF 7 (cS cy r3)) ++ wF 37 (cH cy rh)) ++ wF 4 (cG cy rg)) ++ wF 24 (cW cy rw)) ++ wF 2 (cR cy rt)) ++ wF 4 (cT cy rx))) H := hP
  have hD : va_D A ((h0, .inr (6, [.ref (r1 0), .ref (r2 0), .ref (r3 0), .ref (rh 0), .ref (rg 0), .ref (rw 0), .ref (rt 0), .null, .int 0, .int 0, .int 0])) :: (((((((wF 7 (cS cy r1) ++ wF 7 (cS cy r2)) ++ wF 7 (cS cy r3)) ++ wF 37 (cH cy rh)) ++ wF 4 (cG cy rg)) ++ wF 24 (cW cy rw)) ++ wF 2 (cR cy rt)) ++ wF 4 (cT cy rx))) := hD
  refine iPutF hC hP hD hS (ci := 6) (N := 11) (T := TX6) rfl iX6 tyX6_ok nmX6 7 (by decide) (index := 53) qjF7 rfl rfl (ty := .object "SnakeMesh$Text") (by decide +kernel) rfl rfl (Nat.le_of_ble_eq_true rfl) dX6_init_89 (fun H locs hP hD hS => ?_)
  have hP : va_P D vwCl ((h0, .inr (6, [.ref (r1 0), .ref (r2 0), .ref (r3 0), .ref (rh 0), .ref (rg 0), .ref (rw 0), .ref (rt 0), .ref (rx 0), .int 0, .int 0, .int 0])) :: (((((((wF 7 (cS cy r1) ++ wF 7 (cS cy r2)) ++ wF 7 (cS cy r3)) ++ wF 37 (cH cy rh)) ++ wF 4 (cG cy rg)) ++ wF 24 (cW cy rw)) ++ wF 2 (cR cy rt)) ++ wF 4 (cT cy rx))) H := hP
  have hD : va_D A ((h0, .inr (6, [.ref (r1 0), .ref (r2 0), .ref (r3 0), .ref (rh 0), .ref (rg 0), .ref (rw 0), .ref (rt 0), .ref (rx 0), .int 0, .int 0, .int 0])) :: (((((((wF 7 (cS cy r1) ++ wF 7 (cS cy r2)) ++ wF 7 (cS cy r3)) ++ wF 37 (cH cy rh)) ++ wF 4 (cG cy rg)) ++ wF 24 (cW cy rw)) ++ wF 2 (cR cy rt)) ++ wF 4 (cT cy rx))) := hD
  have hP := asm_P (h0 := h0) (r1 := r1) (r2 := r2) (r3 := r3) (rh := rh) (rg := rg) (rw := rw) (rt := rt) (rx := rx) hP
  have hap := asm_D (h0 := h0) (r1 := r1) (r2 := r2) (r3 := r3) (rh := rh) (rg := rg) (rw := rw) (rt := rt) (rx := rx) hD
  have had0 : adX h0 r1 r2 r3 rh rg rw rt rx 0 = h0 := rfl
  generalize adX h0 r1 r2 r3 rh rg rw rt rx = ad at hP hap had0
  have hCf : Cf p s m [Value.ref h0].toArray meth c cX6_init 1 RX6 none D cy tX tY ad A 93 := ⟨hx, hb, hml9, hown9, hts9, hr9, hK9, hZ9, hap, B.notSynchronized⟩
  obtain ⟨xa, xb, ea, eb, hX0⟩ := x_new
  have hl9 : lv_has ls 1 [(0, .ref (ad 0))] := by rw [had0]; exact hl
  refine lv_aload_n hx hb dX6_init_92 rfl (lv_at hl9 0 rfl) ?_
  refine gfX6_12 hCf hP dX6_init_93 ?_
  refine lv_iconst (v := 4) hx hb dX6_init_96 (by decide) ?_
  refine lv_iconst (v := 4) hx hb dX6_init_97 (by decide) ?_
  refine gVv (As := [.int 4, .int 4]) (rest := []) (k := (7 * 0 + 1)) hCf hP hS (kX2_begin l D cy tX tY ad A hap 1000 (j := 0) (by decide) x0 4 4 ea) glX6_57 ⟨rfl, rfl⟩ hdX2_begin ⟨Nat.le_of_ble_eq_true rfl, Nat.le_of_ble_eq_true rfl⟩ (by omega) (eX_S (by decide) cy ad _ _) rfl rfl hl.1 rfl (Nat.le_of_ble_eq_true rfl) dX6_init_98 ⟨Nat.le_of_ble_eq_true rfl, Nat.le_of_ble_eq_true rfl⟩ (fun H locs hP hS => ?_)
  refine lv_aload_n hx hb dX6_init_101 rfl (lv_at hl9 0 rfl) ?_
  refine gfX6_32 hCf hP dX6_init_102 ?_
  refine lv_iconst (v := 4) hx hb dX6_init_105 (by decide) ?_
  refine lv_iconst (v := 4) hx hb dX6_init_106 (by decide) ?_
  refine gVv (As := [.int 4, .int 4]) (rest := []) (k := 59) hCf hP hS (kX0_lay l D cy tX tY ad A hap 1000 xa 4 4 eb) glX6_61 ⟨rfl, rfl⟩ hdX0_lay ⟨Nat.le_of_ble_eq_true rfl, Nat.le_of_ble_eq_true rfl⟩ (by decide) (eX_59 cy ad _ _) rfl rfl hl.1 rfl (Nat.le_of_ble_eq_true rfl) dX6_init_107 ⟨Nat.le_of_ble_eq_true rfl, Nat.le_of_ble_eq_true rfl⟩ (fun H locs hP hS => ?_)
  exact W.vret hx hb hr9 (fun t ht hW => ⟨⟨(ad, xb), rfl, ⟨had0, hX0⟩, by rw [ht]; exact hP, hap⟩, hS.F ht⟩) hS.2.2 dX6_init_110 B.notSynchronized
