-- ===== History() =====
theorem cS_cg {cy : Nat → ClassId} {q r : Nat → Nat} {k : Nat} (h : ∀ j, j < 7 → q j = r j) (hk : k < 7) : cS cy q k = cS cy r k := by
  unfold cS
  rw [h k hk, h 1 (by omega), h 2 (by omega), h 3 (by omega), h 4 (by omega), h 5 (by omega), h 6 (by omega)]
/-- states side by side, by one row of addresses -/
def cSs (cy : Nat → ClassId) (a : Nat → Nat) (k : Nat) : Nat × va_E := (a k, (cS cy (fun j => a (7 * (k / 7) + j)) (k % 7)).2)
def cH (cy : Nat → ClassId) (q : Nat → Nat) (k : Nat) : Nat × va_E := (q k, if k = 0 then .inr (1, [.ref (q 1), .int 0, .int 0]) else if k = 1 then .inl (cy 3, 5, .inr (.inr (.inr (.inr (fun i => if i < 5 then some (q (2 + 7 * i)) else none))))) else (cSs cy (fun j => q (2 + j)) (k - 2)).2)
def aS (a r : Nat → Nat) (i : Nat) : Nat → Nat := fun k => if k < 7 * i then a k else r (k - 7 * i)
theorem aS_lo {a r : Nat → Nat} {i k : Nat} (h : k < 7 * i) : aS a r i k = a k := if_pos h
theorem aS_hi {a r : Nat → Nat} {i k : Nat} : aS a r i (7 * i + k) = r k := by
  unfold aS
  rw [if_neg (by omega), show 7 * i + k - 7 * i = k by omega]
theorem cSs_app {cy : Nat → ClassId} {a r : Nat → Nat} {i : Nat} : wF (7 * i) (cSs cy a) ++ wF 7 (cS cy r) = wF (7 * (i + 1)) (cSs cy (aS a r i)) := by
  rw [show 7 * (i + 1) = 7 * i + 7 by omega, wF_add]
  congr 1
  · refine wF_cg (fun k hk => ?_)
    unfold cSs
    have e : cS cy (fun j => aS a r i (7 * (k / 7) + j)) (k % 7) = cS cy (fun j => a (7 * (k / 7) + j)) (k % 7) := cS_cg (fun j hj => aS_lo (by omega)) (Nat.mod_lt _ (by omega))
    rw [aS_lo hk, e]
  · refine wF_cg (fun k hk => ?_)
    unfold cSs
    have e : cS cy (fun j => aS a r i (7 * ((7 * i + k) / 7) + j)) k = cS cy r k := cS_cg (fun j hj => by rw [show (7 * i + k) / 7 = i by omega]; exact aS_hi) hk
    rw [aS_hi, show (7 * i + k) % 7 = k by omega, e]
    rfl
def fK (a : Nat → Nat) (i : Nat) : Nat → Option Nat := fun t => if t < i then some (a (7 * t)) else none
theorem fk_up {a r : Nat → Nat} {i : Nat} : va_up (fK a i) i (some (r 0)) = fK (aS a r i) (i + 1) := by
  funext t
  unfold va_up fK
  by_cases e : t = i
  · rw [if_pos e, if_pos (by omega), e, show 7 * i = 7 * i + 0 by omega, aS_hi]
  · rw [if_neg e]
    by_cases h : t < i
    · rw [if_pos h, if_pos (by omega), aS_lo (by omega)]
    · rw [if_neg h, if_neg (by omega)]
def aH (h0 qk : Nat) (a : Nat → Nat) : Nat → Nat := fun k => if k = 0 then h0 else if k = 1 then qk else a (k - 2)
theorem aH_2 {h0 qk : Nat} {a : Nat → Nat} {k : Nat} : aH h0 qk a (2 + k) = a k := by
  unfold aH
  rw [if_neg (by omega), if_neg (by omega), show 2 + k - 2 = k by omega]
theorem wH_eq {cy : Nat → ClassId} {h0 qk : Nat} {a : Nat → Nat} : ([(h0, .inr (1, [.ref qk, .int 0, .int 0])), (qk, .inl (cy 3, 5, .inr (.inr (.inr (.inr (fK a 5))))))] ++ wF (7 * 5) (cSs cy a) : va_W) = wF 37 (cH cy (aH h0 qk a)) := by
  rw [show (37 : Nat) = 2 + 35 from rfl, wF_add]
  congr 1
  · have ef : fK a 5 = (fun i => if i < 5 then some (aH h0 qk a (2 + 7 * i)) else none) := by
      funext t
      unfold fK
      rw [aH_2]
    rw [ef]
    rfl
theorem qwH1 : Cond.classLink RX1 9 RX2 ∈ wAll := by decide +kernel
theorem qwH2 : Cond.instantiable RX2 10 ∈ wAll := by decide +kernel
theorem qwH3 : Cond.initialized RX2 ∈ wAll := by decide +kernel
theorem qwH4 : Cond.code yX2_init cX2_init 1 none ∈ wAll := by decide +kernel
theorem qwH5 : Cond.instanceMethod yX2_init ∈ wAll := by decide +kernel
theorem qwH6 : Cond.fieldLink RX1 11 "SnakeMesh$History" "kept" "[LSnakeMesh$State;" ∈ wAll := by decide +kernel
theorem fsS : ∀ j, j < 10 → defaultValue (tyX2 j) = vp_V [.int 0, .int 0, .int 0, .int 0, .null, .null, .null, .null, .null, .null] j := fun j hj => by
  rcases (show j = 0 ∨ j = 1 ∨ j = 2 ∨ j = 3 ∨ j = 4 ∨ j = 5 ∨ j = 6 ∨ j = 7 ∨ j = 8 ∨ j = 9 by omega) with rfl | rfl | rfl | rfl | rfl | rfl | rfl | rfl | rfl | rfl <;> rfl
set_option maxHeartbeats 4000000 in
set_option maxRecDepth 100000 in
theorem kH_loop {p : Program} {l : Launch} {e : Env} {s : State} {m : MethodId} {args : Array Value} {below : List Frame} {meth : Method} {c : Code} {D : va_G} {cy : Nat → ClassId} {A : Nat → Prop} {h0 qk : Nat} (hC : Ci p s m args meth c cX1_init 2 RX1 D cy) (hA : ∀ q : Nat, s.heap.size ≤ q → A q) :
    ∀ (d i : Nat) (x1 : Int32) (a : Nat → Nat) (H : Heap) (locs : List Loc) (ls : Array Slot), i + d = 5 → x1 = nI i → va_P D vwCl ([(h0, .inr (1, [.ref qk, .int 0, .int 0])), (qk, .inl (cy 3, 5, .inr (.inr (.inr (.inr (fK a i))))))] ++ wF (7 * i) (cSs cy a)) H → va_D A ([(h0, .inr (1, [.ref qk, .int 0, .int 0])), (qk, .inl (cy 3, 5, .inr (.inr (.inr (.inr (fK a i))))))] ++ wF (7 * i) (cSs cy a)) → va_S A s.heap H locs → lv_has ls 2 [(0, .ref h0), (1, .int x1)] → W p l e { frames := 2, cells := 36, slots := 410, locals := 32 } s m args below meth c H locs (1 + 7 * i) (5 + 81 * i) (MQ below (iQ D 37 (cH cy) h0 A) args s 36 410 A) (F0 m 14 ls []) := by
  obtain ⟨hx, hb, hml9, hown9, hts9, hr9, hK9, hN9, -⟩ := id hC
  intro d
  induction d with
  | zero =>
    intro i x1 a H locs ls hid ex hP hD hS hl
    have ei : i = 5 := by omega
    subst ei
    subst ex
    refine lv_iload_n hx hb dX1_init_14 rfl (lv_at hl 1 rfl) ?_
    refine lv_iconst (v := 5) hx hb dX1_init_15 (by decide) ?_
    refine lv_icmp_ge (tgt := 38) hx hb dX1_init_16 (by decide) (fun _ => ?_) (fun c9 => absurd (by decide) c9)
    rw [wH_eq] at hP hD
    exact iRet hC rfl hP hD hS rfl rfl dX1_init_38
  | succ d ih =>
    intro i x1 a H locs ls hid ex hP hD hS hl
    subst ex
    refine lv_iload_n hx hb dX1_init_14 rfl (lv_at hl 1 rfl) ?_
    refine lv_iconst (v := 5) hx hb dX1_init_15 (by decide) ?_
    refine lv_icmp_ge (tgt := 38) hx hb dX1_init_16 (by decide) (fun c9 => absurd c9 (by rw [n5, le_nI (by omega) (by omega)]; omega)) (fun _ => ?_)
    refine lv_aload_n hx hb dX1_init_19 rfl (lv_at hl 0 rfl) ?_
    refine va_get (D := D) (ci := 1) (v := .ref qk) (C := RX1) (T := TX1) (N := 3) hx hb hts9 iX1 hown9 hK9 hP 0 rfl rfl 0 (by decide) (hts9 _ qwH6) (fun _ h9 => h9) rfl dX1_init_20 ?_
    refine lv_iload_n hx hb dX1_init_23 rfl (lv_at hl 1 rfl) ?_
    refine iNewC hC hP hD hS hA (ci := 2) (C := RX2) (T := TX2) (N := 10) rfl iX2 tyX2_ok qwH1 qwH2 qwH3 fsS (by show _ ≤ 36; omega) (by show _ ≤ 410; omega) dX1_init_24 (fun q H hP hD hS => ?_)
    refine lv_dup hx hb dX1_init_27 rfl ?_
    refine iCallN hC hP hD hS hA (As := []) (rest := [.ref q, .int (nI i), .ref qk]) (cE := cS cy) (n := 7) (nn := 0) (kiS l D cy q H.size) qwH4 ⟨rfl, rfl⟩ hN9.2.2.2.1 qwH3 qwH5 rfl (by decide +kernel) ⟨Nat.le_of_ble_eq_true rfl, Nat.le_of_ble_eq_true rfl⟩ rfl hl.1 rfl (Nat.le_of_ble_eq_true rfl) dX1_init_28 ⟨by show _ ≤ 36; omega, by show _ ≤ 410; omega⟩ (fun r H locs hr hP hD hS => ?_)
    rw [← hr]
    have hv : (([(h0, .inr (1, [.ref qk, .int 0, .int 0])), (qk, .inl (cy 3, 5, .inr (.inr (.inr (.inr (fK a i))))))] ++ wF (7 * i) (cSs cy a)) ++ wF 7 (cS cy r) : va_W)[2 + 7 * i]? = some (r 0, .inr (2, [.int 0, .int 0, .int 0, .int 0, .ref (r 1), .ref (r 2), .ref (r 3), .ref (r 4), .ref (r 5), .ref (r 6)])) := by
      have hlen : ([(h0, .inr (1, [.ref qk, .int 0, .int 0])), (qk, .inl (cy 3, 5, .inr (.inr (.inr (.inr (fK a i))))))] ++ wF (7 * i) (cSs cy a) : va_W).length = 2 + 7 * i := by rw [List.length_append, wF_len]; rfl
      rw [List.getElem?_append_right (by rw [hlen]; exact Nat.le_refl _), hlen, Nat.sub_self]
      rfl
    refine va_astq (r := (RX2, TX2, 10)) hx hb hK9 hP hD hS 1 3 (2 + 7 * i) 2 rfl rfl hv rfl (inb_in (inb_nI (show i < 5 by omega) (by omega))) dX1_init_31 (fun H locs hP hD hS => ?_)
    rw [clamp_nI (by omega)] at hP hD
    have hP : va_P D vwCl ([(h0, .inr (1, [.ref qk, .int 0, .int 0])), (qk, .inl (cy 3, 5, .inr (.inr (.inr (.inr (va_up (fK a i) i (some (r 0))))))))] ++ (wF (7 * i) (cSs cy a) ++ wF 7 (cS cy r))) H := hP
    have hD : va_D A ([(h0, .inr (1, [.ref qk, .int 0, .int 0])), (qk, .inl (cy 3, 5, .inr (.inr (.inr (.inr (va_up (fK a i) i (some (r 0))))))))] ++ (wF (7 * i) (cSs cy a) ++ wF 7 (cS cy r))) := hD
    rw [fk_up, cSs_app] at hP hD
    refine lv_iinc (v := nI (i + 1)) (lv' := [(1, .int (nI (i + 1))), (0, .ref h0)]) hx hb dX1_init_32 hl (k := 1) rfl (by rw [← nI_1]; rfl) (by decide) rfl (fun ls hl => ?_)
    refine lv_goto (tgt := 14) hx hb dX1_init_35 (by decide) ?_
    refine W.widen (k := 1 + 7 * (i + 1)) (n := 5 + 81 * (i + 1)) (by omega) (by omega) ?_
    exact ih (i + 1) (nI (i + 1)) _ H locs ls (by omega) rfl hP hD hS (lv_sub hl [1, 0] rfl)
set_option maxHeartbeats 4000000 in
set_option maxRecDepth 100000 in
theorem kiH (l : Launch) (D : va_G) (cy : Nat → ClassId) (h0 sz : Nat) : Met l yX1_init (Cond.code yX1_init cX1_init 2 none :: wAll) { frames := 2, cells := 36, slots := 410, locals := 32 } (iPc D cy [.ref h0] h0 sz (.inr (1, [.null, .int 0, .int 0]))) (iQ D 37 (cH cy) h0 (va_A [(h0, .inr (1, [.null, .int 0, .int 0]))] sz)) 36 410 (va_A [(h0, .inr (1, [.null, .int 0, .int 0]))] sz) := by
  refine iMet (by decide) rfl (Nat.le_of_ble_eq_true rfl) (fun p e s m below meth c hC hsz ls hP hl => ?_)
  have hC : Ci p s m _ meth c cX1_init 2 RX1 D cy := hC
  have hl : lv_has ls 2 [(0, .ref h0)] := hl
  obtain ⟨hx, hb, hml9, hown9, hts9, hr9, hK9, hN9, hCW9, -⟩ := id hC
  generalize hAe : va_A [(h0, .inr (1, [.null, .int 0, .int 0]))] sz = A
  have hA : ∀ q : Nat, s.heap.size ≤ q → A q := fun q h => by rw [← hAe, ← hsz]; exact Or.inr h
  have hS : va_S A s.heap s.heap [] := va_S.rf
  have hD : va_D A [(h0, (.inr (1, [.null, .int 0, .int 0]) : va_E))] := va_D1 (by rw [← hAe]; exact Or.inl ⟨0, _, rfl⟩)
  refine lv_aload_n hx hb dX1_init_0 rfl (lv_at hl 0 rfl) ?_
  refine iObj hC (idx := 3) (by decide +kernel) hl.1 ⟨Nat.le_of_ble_eq_true rfl, Nat.le_of_ble_eq_true rfl⟩ dX1_init_1 ?_
  refine lv_aload_n hx hb dX1_init_4 rfl (lv_at hl 0 rfl) ?_
  refine lv_iconst (v := 5) hx hb dX1_init_5 (by decide) ?_
  refine va_newq (C := "SnakeMesh$State") hx hb hown9 (hts9 _ qwH1) hCW9.1 hK9 hP hD hS hA (N' := 5) (by decide) (by decide) (Nat.le_of_ble_eq_true rfl) (Nat.le_of_ble_eq_true rfl) (Nat.le_of_ble_eq_true rfl) dX1_init_6 (fun qk cA H hK2 hP hD hS => ?_)
  have ec : cA = cy 3 := cy_eq (k := 3) hK9 hK2 rfl
  subst ec
  have hP : va_P D vwCl [(h0, .inr (1, [.null, .int 0, .int 0])), (qk, .inl (cy 3, 5, .inr (.inr (.inr (.inr (fun _ => none))))))] H := hP
  have hD : va_D A [(h0, .inr (1, [.null, .int 0, .int 0])), (qk, .inl (cy 3, 5, .inr (.inr (.inr (.inr (fun _ => none))))))] := hD
  refine iPutF hC hP hD hS (ci := 1) (N := 3) (T := TX1) rfl iX1 tyX1_ok nmX1 0 (by decide) (index := 11) qwH6 rfl rfl (ty := .array (.object "SnakeMesh$State")) (by decide +kernel) rfl rfl (Nat.le_of_ble_eq_true rfl) dX1_init_9 (fun H locs hP hD hS => ?_)
  refine lv_iconst (v := 0) hx hb dX1_init_12 (by decide) ?_
  refine lv_istore_n (lv' := [(1, .int 0), (0, .ref h0)]) hx hb dX1_init_13 rfl hl (by decide) rfl (fun ls hl => ?_)
  have ef : (fun _ => none : Nat → Option Nat) = fK (fun _ => 0) 0 := by
    funext t
    unfold fK
    rw [if_neg (Nat.not_lt_zero t)]
  rw [ef] at hP hD
  exact kH_loop hC hA 5 0 0 (fun _ => 0) H locs ls rfl rfl hP hD hS (lv_sub hl [1, 0] rfl)
