-- ===== the law from its entry =====
theorem rel0 {x : HT} (h : X0 x) : REL x m0 0 := by
  obtain ⟨hC, h1, h2, h3, h4, h5, h6⟩ := h
  refine ⟨rMesh 4 4, 0, fun _ _ => 0, 0, 0, fun _ => 0, fun _ => 0, ⟨hC, ⟨by omega, by omega, h1, h2, fun t ht => absurd ht (Nat.not_lt_zero t)⟩, ⟨by omega, h3, fun k hk => absurd hk (Nat.not_lt_zero k)⟩, h4, h5, h6⟩, ⟨fun k hk => ?_, ⟨by omega, rfl, fun t ht => absurd ht (Nat.not_lt_zero t)⟩, ⟨by omega, rfl, fun k hk => absurd hk (Nat.not_lt_zero k)⟩, fun q hq => rfl⟩, rMesh_ok ok44, by decide, fun t ht => absurd ht (Nat.not_lt_zero t)⟩
  show upd (upd (fun _ => 0) 0 4) 1 4 k = nI (rMesh 4 4 k)
  unfold upd rMesh
  by_cases e1 : k = 1
  · subst e1; rfl
  by_cases e0 : k = 0
  · subst e0; rfl
  rw [if_neg e1, if_neg e0, if_neg e1, if_neg e0]
  rfl
theorem qs61 : Cond.classLink RL 7 RX6 ∈ wAll := by decide +kernel
theorem qs62 : Cond.instantiable RX6 11 ∈ wAll := by decide +kernel
theorem qs63 : Cond.initialized RX6 ∈ wAll := by decide +kernel
theorem qs64 : Cond.code yX6_init cX6_init 1 none ∈ wAll := by decide +kernel
theorem qs65 : Cond.instanceMethod yX6_init ∈ wAll := by decide +kernel
theorem qs66 : Cond.methodLink RL 9 yX6_init ∈ wAll := by decide +kernel
theorem qs71 : Cond.classLink RL 10 RX7 ∈ wAll := by decide +kernel
theorem qs72 : Cond.instantiable RX7 17 ∈ wAll := by decide +kernel
theorem qs73 : Cond.initialized RX7 ∈ wAll := by decide +kernel
theorem qs74 : Cond.code yX7_init cX7_init 1 none ∈ wAll := by decide +kernel
theorem qs75 : Cond.instanceMethod yX7_init ∈ wAll := by decide +kernel
theorem qs76 : Cond.methodLink RL 12 yX7_init ∈ wAll := by decide +kernel
theorem fsX : ∀ j, j < 11 → defaultValue (tyX6 j) = vp_V [.null, .null, .null, .null, .null, .null, .null, .null, .int 0, .int 0, .int 0] j := fun j hj => by
  rcases (show j = 0 ∨ j = 1 ∨ j = 2 ∨ j = 3 ∨ j = 4 ∨ j = 5 ∨ j = 6 ∨ j = 7 ∨ j = 8 ∨ j = 9 ∨ j = 10 by omega) with rfl | rfl | rfl | rfl | rfl | rfl | rfl | rfl | rfl | rfl | rfl <;> rfl
theorem fsM : ∀ j, j < 17 → defaultValue (tyX7 j) = vp_V [.null, .null, .null, .int 0, .null, .null, .int 0, .null, .null, .null, .null, .null, .null, .int 0, .int 0, .int 0, .long 0] j := fun j hj => by
  rcases (show j = 0 ∨ j = 1 ∨ j = 2 ∨ j = 3 ∨ j = 4 ∨ j = 5 ∨ j = 6 ∨ j = 7 ∨ j = 8 ∨ j = 9 ∨ j = 10 ∨ j = 11 ∨ j = 12 ∨ j = 13 ∨ j = 14 ∨ j = 15 ∨ j = 16 by omega) with rfl | rfl | rfl | rfl | rfl | rfl | rfl | rfl | rfl | rfl | rfl | rfl | rfl | rfl | rfl | rfl | rfl <;> rfl
/-- what the tables say of the rows' own classes -/
theorem ty_start {args : Array Value} {s : State} (h0 : (Cond.arrayClass .int).before args s = true) (h1 : (Cond.arrayClass .long).before args s = true) (h2 : (Cond.arrayClass .boolean).before args s = true) (h3 : va_AO "SnakeMesh$State" s) (h4 : (Cond.arrayOver (.array .int)).before #[] s = true) : ∃ cy : Nat → ClassId, ∀ (k : Nat) (q : ClassId × FieldType), (tyL cy)[k]? = some q → ArrOfT s q.1 q.2 ∧ va_RA s q.1 q.2 := by
  obtain ⟨c0, k0, m0, a0, b0, d0⟩ := Cond.arrayClass_spec h0
  obtain ⟨c1, k1, m1, a1, b1, d1⟩ := Cond.arrayClass_spec h1
  obtain ⟨c2, k2, m2, a2, b2, d2⟩ := Cond.arrayClass_spec h2
  obtain ⟨m3, c3, k3, a3, -, b3, d3, e3⟩ := Cond.arrayOver_spec h3
  obtain ⟨m4, c4, k4, a4, -, b4, d4, e4⟩ := ao_spec h4
  refine ⟨fun k => if k = 0 then c0 else if k = 1 then c1 else if k = 2 then c2 else if k = 3 then c3 else c4, ?_⟩
  intro k q hq
  match k, hq with
  | 0, hq => cases hq; exact ⟨fun _ _ => ⟨fun k h => (by cases h), k0, b0, m0, d0⟩, a0⟩
  | 1, hq => cases hq; exact ⟨fun _ _ => ⟨fun k h => (by cases h), k1, b1, m1, d1⟩, a1⟩
  | 2, hq => cases hq; exact ⟨fun _ _ => ⟨fun k h => (by cases h), k2, b2, m2, d2⟩, a2⟩
  | 3, hq => cases hq; exact ⟨fun _ _ => ⟨fun k h => (by cases h), k3, b3, m3, d3⟩, k3, m3, b3, d3, a3, e3⟩
  | 4, hq => cases hq; exact ⟨fun _ _ => ⟨fun k h => (by cases h), k4, b4, m4, d4⟩, e4⟩
  | k + 5, hq => simp [tyL] at hq
theorem kn_start {args : Array Value} {s : State} (hts : ∀ w ∈ wAll, w.before args s = true) : ∃ D : va_G, ∀ (k : Nat) (q : vw_C), vwCl[k]? = some q → u_Kn s q.1 q.2.1 q.2.2 (D.1 k) (D.2 k) := by
  obtain ⟨c0, i0, n0⟩ := u_known (C := RX0) (T := TX0) (N := 5) (n := 5) hts iX0 (hts (.instantiable RX0 5) (by decide +kernel))
  obtain ⟨c1, i1, n1⟩ := u_known (C := RX1) (T := TX1) (N := 3) (n := 3) hts iX1 (hts (.instantiable RX1 3) (by decide +kernel))
  obtain ⟨c2, i2, n2⟩ := u_known (C := RX2) (T := TX2) (N := 10) (n := 10) hts iX2 (hts (.instantiable RX2 10) (by decide +kernel))
  obtain ⟨c3, i3, n3⟩ := u_known (C := RX3) (T := TX3) (N := 6) (n := 6) hts iX3 (hts (.instantiable RX3 6) (by decide +kernel))
  obtain ⟨c4, i4, n4⟩ := u_known (C := RX4) (T := TX4) (N := 1) (n := 1) hts iX4 (hts (.instantiable RX4 1) (by decide +kernel))
  obtain ⟨c5, i5, n5⟩ := u_known (C := RX5) (T := TX5) (N := 3) (n := 3) hts iX5 (hts (.instantiable RX5 3) (by decide +kernel))
  obtain ⟨c6, i6, n6⟩ := u_known (C := RX6) (T := TX6) (N := 11) (n := 11) hts iX6 (hts (.instantiable RX6 11) (by decide +kernel))
  obtain ⟨c7, i7, n7⟩ := u_known (C := RX7) (T := TX7) (N := 17) (n := 17) hts iX7 (hts (.instantiable RX7 17) (by decide +kernel))
  refine ⟨(fun k => if k = 0 then c0 else if k = 1 then c1 else if k = 2 then c2 else if k = 3 then c3 else if k = 4 then c4 else if k = 5 then c5 else if k = 6 then c6 else c7, fun k => if k = 0 then i0 else if k = 1 then i1 else if k = 2 then i2 else if k = 3 then i3 else if k = 4 then i4 else if k = 5 then i5 else if k = 6 then i6 else i7), ?_⟩
  intro k q hq
  match k, hq with
  | 0, hq => cases hq; exact n0
  | 1, hq => cases hq; exact n1
  | 2, hq => cases hq; exact n2
  | 3, hq => cases hq; exact n3
  | 4, hq => cases hq; exact n4
  | 5, hq => cases hq; exact n5
  | 6, hq => cases hq; exact n6
  | 7, hq => cases hq; exact n7
  | k + 8, hq => simp at hq
theorem zs_start {args : Array Value} {s : State} (hts : ∀ w ∈ lw_tbl, w.before args s = true) (hgv : (Jvm.Cond.and given_1 narrow_1).before args s = true) {A : Nat → Prop} (hA : ∀ a : Nat, a < s.heap.size → ¬ A a) : ∃ tX tY : Nat, ZS tX tY A s s.heap := by
  have hs := flat_of_before _ hgv
  obtain ⟨tX, vX, zX⟩ := va_Tof (tm := .static "SnakeMesh" "X_BY_DIRECTION" "[I") (ty := .int) (N := 4) (f := fun j => .int (xBy j)) (A := A) (by decide) (hs (.arrayOf (Term.static "SnakeMesh" "X_BY_DIRECTION" "[I") .int) (by decide +kernel)) (va_eqt (hs (.eq (.length (Term.static "SnakeMesh" "X_BY_DIRECTION" "[I")) (.int 4)) (by decide +kernel))) (fun j hj => by
    rcases (show j = 0 ∨ j = 1 ∨ j = 2 ∨ j = 3 by omega) with rfl | rfl | rfl | rfl
    · exact va_eqt (hs (.eq (.elem (Term.static "SnakeMesh" "X_BY_DIRECTION" "[I") (.int 0)) (.int 1)) (by decide +kernel))
    · exact va_eqt (hs (.eq (.elem (Term.static "SnakeMesh" "X_BY_DIRECTION" "[I") (.int 1)) (.int 0)) (by decide +kernel))
    · exact va_eqt (hs (.eq (.elem (Term.static "SnakeMesh" "X_BY_DIRECTION" "[I") (.int 2)) (.int (-1))) (by decide +kernel))
    · exact va_eqt (hs (.eq (.elem (Term.static "SnakeMesh" "X_BY_DIRECTION" "[I") (.int 3)) (.int 0)) (by decide +kernel))) hA
  obtain ⟨tY, vY, zY⟩ := va_Tof (tm := .static "SnakeMesh" "Y_BY_DIRECTION" "[I") (ty := .int) (N := 4) (f := fun j => .int (yBy j)) (A := A) (by decide) (hs (.arrayOf (Term.static "SnakeMesh" "Y_BY_DIRECTION" "[I") .int) (by decide +kernel)) (va_eqt (hs (.eq (.length (Term.static "SnakeMesh" "Y_BY_DIRECTION" "[I")) (.int 4)) (by decide +kernel))) (fun j hj => by
    rcases (show j = 0 ∨ j = 1 ∨ j = 2 ∨ j = 3 by omega) with rfl | rfl | rfl | rfl
    · exact va_eqt (hs (.eq (.elem (Term.static "SnakeMesh" "Y_BY_DIRECTION" "[I") (.int 0)) (.int 0)) (by decide +kernel))
    · exact va_eqt (hs (.eq (.elem (Term.static "SnakeMesh" "Y_BY_DIRECTION" "[I") (.int 1)) (.int 1)) (by decide +kernel))
    · exact va_eqt (hs (.eq (.elem (Term.static "SnakeMesh" "Y_BY_DIRECTION" "[I") (.int 2)) (.int 0)) (by decide +kernel))
    · exact va_eqt (hs (.eq (.elem (Term.static "SnakeMesh" "Y_BY_DIRECTION" "[I") (.int 3)) (.int (-1))) (by decide +kernel))) hA
  have hi : (Cond.initialized "SnakeMesh").before args s = true := hts _ (by decide +kernel)
  refine ⟨tX, tY, va_Zof (hts (.laysStatic "SnakeMesh" "X_BY_DIRECTION" "[I") (by decide +kernel)) hi vX hA, zX, va_Zof (hts (.laysStatic "SnakeMesh" "Y_BY_DIRECTION" "[I") (by decide +kernel)) hi vY hA, zY, ?_⟩
  exact ⟨va_Nw.of rfl (hts (.fieldLinkNest RX0 36 "SnakeMesh" "X_BY_DIRECTION" "[I" "SnakeMesh") (by decide +kernel)), va_Nw.of rfl (hts (.fieldLinkNest RX0 39 "SnakeMesh" "Y_BY_DIRECTION" "[I" "SnakeMesh") (by decide +kernel)), va_Nw.of rfl (hts (.methodLinkNest RX6 11 yX2_init "SnakeMesh") (by decide +kernel)), va_Nw.of rfl (hts (.methodLinkNest RX1 17 yX2_init "SnakeMesh") (by decide +kernel)), va_Nw.of rfl (hts (.methodLinkNest RX6 31 yX0_init "SnakeMesh") (by decide +kernel)), va_Nw.of rfl (hts (.methodLinkNest RX6 38 yX5_init "SnakeMesh") (by decide +kernel)), va_Nw.of rfl (hts (.methodLinkNest RX6 45 yX4_init "SnakeMesh") (by decide +kernel)), va_Nw.of rfl (hts (.methodLinkNest RX6 52 yX3_init "SnakeMesh") (by decide +kernel))⟩
theorem P_left {D : va_G} {cl : List vw_C} {w1 w2 : va_W} {H : Heap} (h : va_P D cl (w1 ++ w2) H) : va_P D cl w1 H := fun k q hq => h k q (by rw [List.getElem?_append_left (List.getElem?_eq_some_iff.mp hq).1]; exact hq)
theorem P_right {D : va_G} {cl : List vw_C} {w1 w2 : va_W} {H : Heap} (h : va_P D cl (w1 ++ w2) H) : va_P D cl w2 H := fun k q hq => h (w1.length + k) q (by rw [List.getElem?_append_right (by omega), Nat.add_sub_cancel_left]; exact hq)
theorem D_cross {A : Nat → Prop} {w1 w2 : va_W} (h : va_D A (w1 ++ w2)) {i j : Nat} {x y : Nat × va_E} (hx : w1[i]? = some x) (hy : w2[j]? = some y) : x.1 ≠ y.1 := fun e => by
  have hi := (List.getElem?_eq_some_iff.mp hx).1
  have := h.1 i (w1.length + j) x y (by rw [List.getElem?_append_left hi]; exact hx) (by rw [List.getElem?_append_right (by omega), Nat.add_sub_cancel_left]; exact hy) e
  omega
theorem D_right {A : Nat → Prop} {w1 w2 : va_W} (h : va_D A (w1 ++ w2)) : va_D A w2 := ⟨fun i j x y hx hy e => by
  have := h.1 (w1.length + i) (w1.length + j) x y (by rw [List.getElem?_append_right (by omega), Nat.add_sub_cancel_left]; exact hx) (by rw [List.getElem?_append_right (by omega), Nat.add_sub_cancel_left]; exact hy) e
  omega, fun k x hx => h.2 (w1.length + k) x (by rw [List.getElem?_append_right (by omega), Nat.add_sub_cancel_left]; exact hx)⟩
set_option maxHeartbeats 8000000 in
set_option maxRecDepth 100000 in
theorem whole_start {p : Program} {e : Env} {s : State} {m : MethodId} {below : List Frame} {meth : Method} {c : Code} (l : Launch) (hflags : l.flags = flags0) {b L : Nat} {xs : Nat → Int32} (hL : L ≤ 2560) (C0 : lw_At p s m meth c b L xs) : W p l e room_1 s m #[Value.ref b] below meth c s.heap [] 0 0 (lw_Z below #[Value.ref b] s) (entryFrame m ([Value.ref b] : List Value).toArray 4) := by
  obtain ⟨hx, hb, hr, hml, hown, hts0, hX, hbl, hlocks, hgv⟩ := id C0
  have hb : c.code = cL_law := hb
  have hown : s.vm.findClass RL = some m.cls := hown
  have hts : ∀ w ∈ wAll, w.before #[Value.ref b] s = true := fun w hw => hts0 w (List.mem_filter.mp hw).1
  generalize hAe : (fun q : Nat => s.heap.size ≤ q) = A
  have hA : ∀ q : Nat, s.heap.size ≤ q → A q := fun q h => by rw [← hAe]; exact h
  have hA0 : ∀ a : Nat, a < s.heap.size → ¬ A a := fun a h => by rw [← hAe]; exact Nat.not_le.mpr h
  have hAO : va_AO "SnakeMesh$State" s := va_AO.of (hts0 (.arrayOver (.object "SnakeMesh$State")) (by decide +kernel))
  have hAI : (Cond.arrayOver (.array .int)).before #[] s = true := hts0 (.arrayOver (.array .int)) (by decide +kernel)
  have hCW : CW s := ⟨hAO, hAI⟩
  obtain ⟨cy, hTy⟩ := ty_start (hts _ qwAI) (hts _ qwAL) (hts _ qwAZ) hAO hAI
  obtain ⟨D, hKn⟩ := kn_start hts
  have hK : va_K D vwCl (tyL cy) s := ⟨hKn, hTy⟩
  obtain ⟨tX, tY, hZ⟩ := zs_start hts0 hgv hA0
  have hS : va_S A s.heap s.heap [] := va_S.rf
  have hP : va_P D vwCl [] s.heap := fun k q h => by simp at h
  have hD : va_D A [] := ⟨fun i j p q h => by simp at h, fun k q h => by simp at h⟩
  have hl := lv_entry ([.ref b]) (n := 4) (Nat.le_of_ble_eq_true rfl)
  rw [lg_entry_eq]
  generalize (lg_sl ([.ref b]) ++ List.replicate (4 - (lg_sl ([.ref b])).length) Slot.unset).toArray = ls at hl ⊢
  have hl : lv_has ls 4 [(0, .ref b)] := hl
  refine va_new (ci := 6) (C := RX6) (T := TX6) (N := 11) hx hb hts iX6 tyX6 tyX6_ok hown (hts _ qs61) (hts _ qs62) (hts _ qs63) hK hP hD hS hA rfl fsX (Nat.le_of_ble_eq_true rfl) (Nat.le_of_ble_eq_true rfl) dL_law_0 (fun q H hP hD hS => ?_)
  refine lv_dup hx hb dL_law_3 rfl ?_
  have hF := va_A_sub hD hS hA
  refine va_callv (va_runI (As := []) (rest := [.ref q]) ⟨hx, hb, hml, hown, hts⟩ (kiX l D cy tX tY q H.size) (cwI 0 hts (gdC qs64) rfl rfl rfl (hts _ qs63) (hts _ qs66) (hts _ qs65) rfl (by decide +kernel) ⟨Nat.le_of_ble_eq_true rfl, Nat.le_of_ble_eq_true rfl⟩) ⟨jPc_blind, fun U hU hW => ⟨rfl, by rw [hU], by rw [hU]; exact hP, va_K.moved hW.alike hK, (ZS.warm hW (hZ.kept (by rw [hU]; exact fun q h1 h2 => hS.2.1 q h1 h2))).narrow hF, CW.moved hW.alike hCW⟩⟩ rfl rfl hl.1 rfl (lv_room (Nat.le_of_ble_eq_true rfl)) dL_law_4 ⟨Nat.le_of_ble_eq_true rfl, Nat.le_of_ble_eq_true rfl⟩) hS (fun a _ h => hF a h) hF (fun u t H1 locs ht hvm hw hB hz1 hk1 hS => ?_)
  obtain ⟨ad, x⟩ := u
  obtain ⟨had, hX0⟩ : ad 0 = q ∧ X0 x := hw
  obtain ⟨hPX, hapX⟩ : va_P D vwCl (wG (eX cy ad) 93 ad x) t.heap ∧ apart ad _ 93 := hB
  rw [ht] at hPX
  have hapA : apart ad A 93 := ⟨hapX.1, fun k hk => hF _ (hapX.2 k hk)⟩
  rw [← had]
  refine lv_astore_n (lv' := [(1, .ref (ad 0)), (0, .ref b)]) hx hb dL_law_7 rfl hl (by decide) rfl (fun ls hl => ?_)
  have hDX : va_D A (wG (eX cy ad) 93 ad x) := wG_D hapA
  refine va_new (ci := 7) (C := RX7) (T := TX7) (N := 17) hx hb hts iX7 tyX7 tyX7_ok hown (hts _ qs71) (hts _ qs72) (hts _ qs73) hK hPX hDX hS hA rfl fsM (Nat.le_of_ble_eq_true rfl) (Nat.le_of_ble_eq_true rfl) dL_law_8 (fun q2 H2 hP2 hD2 hS2 => ?_)
  refine lv_dup hx hb dL_law_11 rfl ?_
  have hF2 := va_A_sub hD2 hS2 hA
  have hPq := P_right hP2
  refine va_callv (va_runI (As := []) (rest := [.ref q2]) ⟨hx, hb, hml, hown, hts⟩ (kiM l D cy q2 H2.size) (cwI 0 hts (gdC qs74) rfl rfl rfl (hts _ qs73) (hts _ qs76) (hts _ qs75) rfl (by decide +kernel) ⟨Nat.le_of_ble_eq_true rfl, Nat.le_of_ble_eq_true rfl⟩) ⟨iPc_blind, fun U hU hW => ⟨rfl, by rw [hU], by rw [hU]; exact hPq, va_K.moved hW.alike hK, NW.warm hW hZ.2.2.2.2, CW.moved hW.alike hCW⟩⟩ rfl rfl hl.1 rfl (lv_room (Nat.le_of_ble_eq_true rfl)) dL_law_12 ⟨Nat.le_of_ble_eq_true rfl, Nat.le_of_ble_eq_true rfl⟩) hS2 (fun a _ h => hF2 a h) hF2 (fun am t3 H3 locs3 ht3 hvm3 hw3 hB3 hz3 hk3 hS3 => ?_)
  obtain ⟨b1, b2⟩ := hB3
  rw [ht3] at b1
  obtain ⟨j1, j2⟩ := joinL hP2 hD2 hk3 hF2 b1 b2
  have hPX : va_P D vwCl (wG (eX cy ad) 93 ad x) H3 := P_left j1
  have hPM : va_P D vwCl (wG (eM cy am) 12 am m0) H3 := P_right j1
  have hw3 : am 0 = q2 := hw3
  have hM := wF_D.mp (D_right j2)
  have hcr : ∀ i j, i < 93 → j < 12 → ad i ≠ am j := fun i j hi hj => D_cross j2 (wG_at hi) (wF_at hj)
  rw [← hw3]
  refine lv_astore_n (lv' := [(2, .ref (am 0)), (1, .ref (ad 0)), (0, .ref b)]) hx hb dL_law_15 rfl hl (by decide) rfl (fun ls hl => ?_)
  refine lv_iconst (v := 0) hx hb dL_law_16 (by decide) ?_
  refine lv_istore_n (lv' := [(3, .int 0), (2, .ref (am 0)), (1, .ref (ad 0)), (0, .ref b)]) hx hb dL_law_17 rfl hl (by decide) rfl (fun ls hl => ?_)
  have hLw : Lw p s m meth c b L xs D cy tX tY ad am := ⟨⟨hx, hb, hml, hown, hts, hK, by rw [hAe]; exact hZ⟩, hX, hbl, Nat.not_le.mpr hbl, ⟨hapA.1, fun k hk => ⟨k, hk, rfl⟩⟩, ⟨fun i j hi hj h => hM.1 i j hi hj h, fun k hk => ⟨k, hk, rfl⟩⟩, hcr, fun a h => by
    obtain ⟨k, hk, rfl⟩ := h
    have := hapA.2 k hk
    rw [← hAe] at this
    exact this, fun a h => by
    obtain ⟨k, hk, rfl⟩ := h
    have := hM.2 k hk
    rw [← hAe] at this
    exact this⟩
  exact law_loop hL hr hlocks hLw 513 0 x m0 H3 locs3 ls rfl (rel0 hX0) hPX hPM (by rw [hAe]; exact hS3) (lv_sub hl [3, 2, 1, 0] rfl)
