variable {p : Program} {l : Launch} {e : Env} {s : State} {m : MethodId} {args : Array Value} {below : List Frame} {meth : Method} {c : Code} {D : va_G} {cy : Nat → ClassId} {tX tY : Nat} {ad : Nat → Nat} {A : Nat → Prop}
theorem sA_step {x : HT} {k t : Nat} {v : Int32} : sI (sA x k (fun i => if i < t then v else x.1 k i)) k t v = sA x k (fun i => if i < t + 1 then v else x.1 k i) := by
  have e1 : (sA x k (fun i => if i < t then v else x.1 k i)).1 k = fun i => if i < t then v else x.1 k i := sA_at.1
  unfold sI
  rw [e1]
  unfold sA
  refine Prod.ext ?_ rfl
  funext q
  by_cases hq : q = k
  · subst hq
    simp only [va_up, if_true]
    funext i
    simp only [upd]
    by_cases h1 : i = t
    · subst h1; simp
    · by_cases h2 : i < t
      · simp [h1, h2, Nat.lt_succ_of_lt h2]
      · simp [h1, h2, show ¬ i < t + 1 by omega]
  · simp [va_up, hq]
set_option maxHeartbeats 4000000 in
theorem tJ7_fill (hC : Cf p s m args meth c cJ7_fill_53178 4 RJ7 none D cy tX tY ad A 93) (k N : Nat) (hk : k < 93) (hN : N < 1000) (he : ∀ g h, eX cy ad k g h = .inl (cy 0, N, .inl g)) (x : HT) (v : Int32) : ∀ (d t : Nat), t + d = N → Wd p l e { frames := 0, cells := 0, slots := 0, locals := 0 } s m args below meth c D (eX cy ad) 93 ad A (cQv (eX cy ad) 93 ad D A ((), sA x k (fun i => if i < N then v else x.1 k i))) 4 5 [(2, .int (nI t)), (3, .int (nI N)), (0, .ref (ad k)), (1, .int v)] [] (sA x k (fun i => if i < t then v else x.1 k i)) := by
  intro d
  induction d with
  | zero =>
    intro t ht H locs ls hP hS hl
    obtain ⟨hx, hb, -⟩ := id hC
    have e1 : t = N := by omega
    subst e1
    refine lv_iload_n hx hb dJ7_fill_53178_5 rfl (lv_at hl 0 rfl) ?_
    refine lv_iload_n hx hb dJ7_fill_53178_6 rfl (lv_at hl 1 rfl) ?_
    refine lv_icmp_ge (tgt := 20) hx hb dJ7_fill_53178_7 (by decide) (fun c1 => ?_) (fun c1 => ?_)
    · exact gVret hC hP hS rfl dJ7_fill_53178_20
    · exact absurd (nI_le (Nat.le_refl t) (by omega)) c1
  | succ d ih =>
    intro t ht H locs ls hP hS hl
    obtain ⟨hx, hb, -⟩ := id hC
    have h2 : t < N := by omega
    refine lv_iload_n hx hb dJ7_fill_53178_5 rfl (lv_at hl 0 rfl) ?_
    refine lv_iload_n hx hb dJ7_fill_53178_6 rfl (lv_at hl 1 rfl) ?_
    refine lv_icmp_ge (tgt := 20) hx hb dJ7_fill_53178_7 (by decide) (fun c1 => ?_) (fun c1 => ?_)
    · exact absurd c1 (nI_ge h2 (by omega))
    · refine lv_aload_n hx hb dJ7_fill_53178_10 rfl (lv_at hl 2 rfl) ?_
      refine lv_iload_n hx hb dJ7_fill_53178_11 rfl (lv_at hl 0 rfl) ?_
      refine lv_iload_n hx hb dJ7_fill_53178_12 rfl (lv_at hl 3 rfl) ?_
      have hc9 : (nI t).toNatClampNeg = t := nI_clamp (by omega)
      have hi : inb (nI t) N = true := by
        have := nI_pos (n := t) (by omega)
        simp [inb, this, hc9, h2]
      refine gIas hC hP hS k hk (fun g9 => he g9 _) hi dJ7_fill_53178_13 (fun H locs hP hS => ?_)
      rw [hc9, sA_step] at hP
      refine lv_iinc (v := nI (t + 1)) (lv' := [(2, .int (nI (t + 1))), (3, .int (nI N)), (0, .ref (ad k)), (1, .int v)]) hx hb dJ7_fill_53178_14 hl (k := 0) rfl (nI_1 t) (by decide) rfl (fun ls hl => ?_)
      refine lv_goto (tgt := 5) hx hb dJ7_fill_53178_17 (by decide) ?_
      exact ih (t + 1) (by omega) H locs ls hP hS hl
set_option maxHeartbeats 4000000 in
theorem kJ7_fill (l : Launch) (D : va_G) (cy : Nat → ClassId) (tX tY : Nat) (ad : Nat → Nat) (A : Nat → Prop) (hA : apart ad A 93) (F : Nat) (k N : Nat) (hk : k < 93) (hN : N < 1000) (he : ∀ g h, eX cy ad k g h = .inl (cy 0, N, .inl g)) (x : HT) (v : Int32) {z : Unit × HT} (hf : fJ7_fill F k N x v = some z) : Met l yJ7_fill_53178 (Cond.code yJ7_fill_53178 cJ7_fill_53178 4 none :: wAll) { frames := 0, cells := 0, slots := 0, locals := 0 } (cPc (eX cy ad) 93 ad D cy tX tY A [.ref (ad k), .int v] x) (cQv (eX cy ad) 93 ad D A z) 0 0 A := by
  refine gMet hA (by decide) (Nat.le_of_ble_eq_true rfl) (fun p e s m below meth c hC H locs ls hP hS hl => ?_)
  have hC : Cf p s m _ meth c cJ7_fill_53178 4 RJ7 none D cy tX tY ad A 93 := hC
  have hl : lv_has ls 4 [(0, .ref (ad k)), (1, .int v)] := hl
  obtain ⟨hx, hb, -⟩ := id hC
  cases hf
  refine lv_iconst (v := 0) hx hb dJ7_fill_53178_0 (by decide) ?_
  refine lv_istore_n (lv' := [(2, .int 0), (0, .ref (ad k)), (1, .int v)]) hx hb dJ7_fill_53178_1 rfl hl (by decide) rfl (fun ls hl => ?_)
  refine lv_aload_n hx hb dJ7_fill_53178_2 rfl (lv_at hl 1 rfl) ?_
  refine gLen hC hP k hk (he _ _) dJ7_fill_53178_3 ?_
  refine lv_istore_n (lv' := [(3, .int (Int32.ofNat N)), (2, .int 0), (0, .ref (ad k)), (1, .int v)]) hx hb dJ7_fill_53178_4 rfl hl (by decide) rfl (fun ls hl => ?_)
  have e0 : sA x k (fun i => if i < 0 then v else x.1 k i) = x := by
    unfold sA
    refine Prod.ext ?_ rfl
    funext q
    by_cases hq : q = k
    · subst hq; simp [va_up]
    · simp [va_up, hq]
  exact tJ7_fill hC k N hk hN he x v N 0 (by omega) H locs ls (by rw [e0]; exact hP) hS (lv_sub hl [1, 0, 2, 3] rfl)
