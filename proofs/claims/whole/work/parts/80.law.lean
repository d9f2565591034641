-- ===== the law's loop =====
theorem and31 (y : Int32) : ∃ k, k < 32 ∧ y &&& 31 = nI k := by
  refine ⟨y.toBitVec.toNat &&& 31, Nat.lt_of_le_of_lt Nat.and_le_right (by decide), ?_⟩
  apply Int32.toBitVec_inj.1
  show y.toBitVec &&& 31#32 = BitVec.ofNat 32 (y.toBitVec.toNat &&& 31)
  apply BitVec.eq_of_toNat_eq
  have h : y.toBitVec.toNat &&& 31 ≤ 31 := Nat.and_le_right
  have e : (BitVec.ofNat 32 (y.toBitVec.toNat &&& 31)).toNat = y.toBitVec.toNat &&& 31 := by
    rw [BitVec.toNat_ofNat]
    exact Nat.mod_eq_of_lt (by omega)
  rw [e, BitVec.toNat_and]
  rfl
theorem gt_end {L i : Nat} (hL : L ≤ 2560) (hi : i < 3000) (h : ¬ (nI L - 5 : Int32) < nI i) : i + 5 ≤ L := by
  by_cases e : 5 ≤ L
  · rw [show nI L - 5 = nI (L - 5) from sub_nI (a := L) (b := 5) e, lt_nI (by omega) (by omega)] at h
    omega
  · exfalso
    have hs := pk_sneg (a := L) (b := 5) (by omega) (by omega)
    exact h (Int32.lt_of_lt_of_le hs (nI_ge0 (by omega)))
set_option maxHeartbeats 8000000 in
set_option maxRecDepth 100000 in
theorem law_loop {p : Program} {l : Launch} {e : Env} {s : State} {m : MethodId} {below : List Frame} {meth : Method} {c : Code} {b L : Nat} {xs : Nat → Int32} {D : va_G} {cy : Nat → ClassId} {tX tY : Nat} {ad am : Nat → Nat} (hLb : L ≤ 2560) (hr : meth.sig.returnType = ret) (hlocks : meth.locks = false) (hL : Lw p s m meth c b L xs D cy tX tY ad am) :
    ∀ (d t : Nat) (x mm : HT) (H : Heap) (locs : List Loc) (ls : Array Slot), t + d = 513 → REL x mm (12000 * t) → va_P D vwCl (wG (eX cy ad) 93 ad x) H → va_P D vwCl (wG (eM cy am) 12 am mm) H → va_S (fun q => s.heap.size ≤ q) s.heap H locs → lv_has ls 4 [(0, .ref b), (1, .ref (ad 0)), (2, .ref (am 0)), (3, .int (nI (5 * t)))] → W p l e room_1 s m #[Value.ref b] below meth c H locs 105 3842 (lw_Z below #[Value.ref b] s) (F0 m 18 ls []) := by
  obtain ⟨hC, hX, hbl, hbA, haX, haM, hap, hgX, hgM⟩ := id hL
  obtain ⟨hx, hb, -⟩ := id hC
  intro d
  induction d with
  | zero =>
    intro t x mm H locs ls hid hrel hPX hPM hS hl
    refine lv_iload_n hx hb dL_law_18 rfl (lv_at hl 3 rfl) ?_
    refine lv_aload_n hx hb dL_law_19 rfl (lv_at hl 0 rfl) ?_
    refine va_slen hx hb hX hbl hbA hS dL_law_20 ?_
    refine lv_iconst (v := 5) hx hb dL_law_21 (by decide) ?_
    refine lv_isub hx hb dL_law_22 ?_
    refine lv_icmp_gt (tgt := 856) hx hb dL_law_23 (by decide) (fun _ => ?_) (fun c9 => ?_)
    · refine lv_iconst (v := 1) hx hb dL_law_856 (by decide) ?_
      refine va_forget (fun q hq => hS.2.2 q hq) ?_
      refine W.widen (k := 600000) (n := 7302250) (Nat.le_of_ble_eq_true rfl) (Nat.le_of_ble_eq_true rfl) ?_
      exact lw_ret hx hb hr hlocks dL_law_857
    · have := gt_end (i := 5 * t) hLb (by omega) c9
      omega
  | succ d ih =>
    intro t x mm H locs ls hid hrel hPX hPM hS hl
    refine lv_iload_n hx hb dL_law_18 rfl (lv_at hl 3 rfl) ?_
    refine lv_aload_n hx hb dL_law_19 rfl (lv_at hl 0 rfl) ?_
    refine va_slen hx hb hX hbl hbA hS dL_law_20 ?_
    refine lv_iconst (v := 5) hx hb dL_law_21 (by decide) ?_
    refine lv_isub hx hb dL_law_22 ?_
    refine lv_icmp_gt (tgt := 856) hx hb dL_law_23 (by decide) (fun _ => ?_) (fun c9 => ?_)
    · refine lv_iconst (v := 1) hx hb dL_law_856 (by decide) ?_
      refine va_forget (fun q hq => hS.2.2 q hq) ?_
      refine W.widen (k := 600000) (n := 7302250) (Nat.le_of_ble_eq_true rfl) (Nat.le_of_ble_eq_true rfl) ?_
      exact lw_ret hx hb hr hlocks dL_law_857
    · have hi := gt_end (i := 5 * t) hLb (by omega) c9
      have hB : 12000 * t + 12000 < 2147483648 := by omega
      have hn : Nxt p l e s m below meth c b D cy ad am (5 * t) (12000 * t + 12000) (lw_Z below #[Value.ref b] s) := by
        intro x' m' H locs ls hrel hPX hPM hS hl
        refine lv_iinc (v := nI (5 * (t + 1))) (lv' := [(3, .int (nI (5 * (t + 1)))), (0, .ref b), (1, .ref (ad 0)), (2, .ref (am 0))]) hx hb dL_law_850 hl (k := 3) rfl (by rw [show 5 * (t + 1) = 5 * t + 5 by omega, ← nI_add]; rfl) (by decide) rfl (fun ls hl => ?_)
        refine lv_goto (tgt := 18) hx hb dL_law_853 (by decide) ?_
        exact ih (t + 1) x' m' H locs ls (by omega) (by rw [show 12000 * (t + 1) = 12000 * t + 12000 by omega]; exact hrel) hPX hPM hS (lv_sub hl [1, 2, 3, 0] rfl)
      refine lv_aload_n hx hb dL_law_26 rfl (lv_at hl 0 rfl) ?_
      refine lv_iload_n hx hb dL_law_27 rfl (lv_at hl 3 rfl) ?_
      refine va_sld hx hb hX hbl hbA hS (vp_in_nI (show 5 * t < L by omega) (by omega)) dL_law_28 ?_
      refine lv_bipush (v := 31) hx hb dL_law_29 (by decide) ?_
      refine lv_iand hx hb dL_law_31 ?_
      obtain ⟨k, hk, ek⟩ := and31 (xs (nI (5 * t)).toNatClampNeg)
      rw [ek]
      by_cases h23 : k < 23
      · rcases (show k = 0 ∨ k = 1 ∨ k = 2 ∨ k = 3 ∨ k = 4 ∨ k = 5 ∨ k = 6 ∨ k = 7 ∨ k = 8 ∨ k = 9 ∨ k = 10 ∨ k = 11 ∨ k = 12 ∨ k = 13 ∨ k = 14 ∨ k = 15 ∨ k = 16 ∨ k = 17 ∨ k = 18 ∨ k = 19 ∨ k = 20 ∨ k = 21 ∨ k = 22 by omega) with rfl | rfl | rfl | rfl | rfl | rfl | rfl | rfl | rfl | rfl | rfl | rfl | rfl | rfl | rfl | rfl | rfl | rfl | rfl | rfl | rfl | rfl | rfl
        · exact lv_tableIn (off := 108) (tgt := 140) hx hb dL_law_32 (by decide) (by decide) (by decide) (by decide) (lc_mesh hL hi hLb hB hrel hPX hPM hS hl hn)
        · exact lv_tableIn (off := 141) (tgt := 173) hx hb dL_law_32 (by decide) (by decide) (by decide) (by decide) (lc_message hL hi hLb hB hrel hPX hPM hS hl hn)
        · exact lv_tableIn (off := 184) (tgt := 216) hx hb dL_law_32 (by decide) (by decide) (by decide) (by decide) (lc_goal hL hi hLb hB hrel hPX hPM hS hl hn)
        · exact lv_tableIn (off := 227) (tgt := 259) hx hb dL_law_32 (by decide) (by decide) (by decide) (by decide) (lc_turns hL hi hLb hB hrel hPX hPM hS hl hn)
        · exact lv_tableIn (off := 270) (tgt := 302) hx hb dL_law_32 (by decide) (by decide) (by decide) (by decide) (lc_steps hL hi hLb hB hrel hPX hPM hS hl hn)
        · exact lv_tableIn (off := 293) (tgt := 325) hx hb dL_law_32 (by decide) (by decide) (by decide) (by decide) (lc_again hL hi hLb hB hrel hPX hPM hS hl hn)
        · exact lv_tableIn (off := 306) (tgt := 338) hx hb dL_law_32 (by decide) (by decide) (by decide) (by decide) (lc_label hL hi hLb hB hrel hPX hPM hS hl hn)
        · exact lv_tableIn (off := 339) (tgt := 371) hx hb dL_law_32 (by decide) (by decide) (by decide) (by decide) (lc_place hL hi hLb hB hrel hPX hPM hS hl hn)
        · exact lv_tableIn (off := 362) (tgt := 394) hx hb dL_law_32 (by decide) (by decide) (by decide) (by decide) (lc_next hL hi hLb hB hrel hPX hPM hS hl hn)
        · exact lv_tableIn (off := 415) (tgt := 447) hx hb dL_law_32 (by decide) (by decide) (by decide) (by decide) (lc_far hL hi hLb hB hrel hPX hPM hS hl hn)
        · exact lv_tableIn (off := 468) (tgt := 500) hx hb dL_law_32 (by decide) (by decide) (by decide) (by decide) (lc_holds hL hi hLb hB hrel hPX hPM hS hl hn)
        · exact lv_tableIn (off := 511) (tgt := 543) hx hb dL_law_32 (by decide) (by decide) (by decide) (by decide) (lc_worm hL hi hLb hB hrel hPX hPM hS hl hn)
        · exact lv_tableIn (off := 554) (tgt := 586) hx hb dL_law_32 (by decide) (by decide) (by decide) (by decide) (lc_way hL hi hLb hB hrel hPX hPM hS hl hn)
        · exact lv_tableIn (off := 597) (tgt := 629) hx hb dL_law_32 (by decide) (by decide) (by decide) (by decide) (lc_goalAt hL hi hLb hB hrel hPX hPM hS hl hn)
        · exact lv_tableIn (off := 640) (tgt := 672) hx hb dL_law_32 (by decide) (by decide) (by decide) (by decide) (lc_of hL hi hLb hB hrel hPX hPM hS hl hn)
        · exact lv_tableIn (off := 673) (tgt := 705) hx hb dL_law_32 (by decide) (by decide) (by decide) (by decide) (lc_when hL hi hLb hB hrel hPX hPM hS hl hn)
        · exact lv_tableIn (off := 696) (tgt := 728) hx hb dL_law_32 (by decide) (by decide) (by decide) (by decide) (lc_count hL hi hLb hB hrel hPX hPM hS hl hn)
        · exact lv_tableIn (off := 719) (tgt := 751) hx hb dL_law_32 (by decide) (by decide) (by decide) (by decide) (lc_type hL hi hLb hB hrel hPX hPM hS hl hn)
        · exact lv_tableIn (off := 742) (tgt := 774) hx hb dL_law_32 (by decide) (by decide) (by decide) (by decide) (lc_clear hL hi hLb hB hrel hPX hPM hS hl hn)
        · exact lv_tableIn (off := 755) (tgt := 787) hx hb dL_law_32 (by decide) (by decide) (by decide) (by decide) (lc_does hL hi hLb hB hrel hPX hPM hS hl hn)
        · exact lv_tableIn (off := 768) (tgt := 800) hx hb dL_law_32 (by decide) (by decide) (by decide) (by decide) (lc_back hL hi hLb hB hrel hPX hPM hS hl hn)
        · exact lv_tableIn (off := 781) (tgt := 813) hx hb dL_law_32 (by decide) (by decide) (by decide) (by decide) (lc_told hL hi hLb hB hrel hPX hPM hS hl hn)
        · exact lv_tableIn (off := 804) (tgt := 836) hx hb dL_law_32 (by decide) (by decide) (by decide) (by decide) (lc_digest hL hi hLb hB hrel hPX hPM hS hl hn)
      · refine lv_tableOut (tgt := 850) hx hb dL_law_32 (Or.inr ?_) (by decide) ?_
        · rcases (show k = 23 ∨ k = 24 ∨ k = 25 ∨ k = 26 ∨ k = 27 ∨ k = 28 ∨ k = 29 ∨ k = 30 ∨ k = 31 by omega) with rfl | rfl | rfl | rfl | rfl | rfl | rfl | rfl | rfl <;> decide
        · exact hn x mm H locs ls (hrel.le (by omega)) hPX hPM hS hl
