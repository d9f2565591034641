-- ===== the class: goals, turns, again =====
theorem x_hasMessage_y {F : Nat} {x : HT} {a : Nat → Nat} (h : RX x 0 a) (h5 : a 3 ≤ 5) {i : Nat} (hi : i < a 3) : fX6_hasMessage F x (nI i) = some (1, x) := by
  have h3 : x.1 (7 * 0 + 1) 3 = nI (a 3) := h.2.2.2.1
  unfold fX6_hasMessage
  rw [if_neg (nI_pos (by omega)), h3, if_neg (by rw [le_nI (by omega) (by omega)]; omega)]
theorem x_hasMessage_n {F : Nat} {x : HT} {a : Nat → Nat} (h : RX x 0 a) (h5 : a 3 ≤ 5) {i : Int32} (hi : ¬ gMsg a i) : fX6_hasMessage F x i = some (0, x) := by
  have h3 : x.1 (7 * 0 + 1) 3 = nI (a 3) := h.2.2.2.1
  unfold fX6_hasMessage fX6_hasMessage_19
  by_cases c : i < 0
  · rw [if_pos c]
  · rw [if_neg c, h3]
    by_cases c2 : nI (a 3) ≤ i
    · rw [if_pos c2]
    · exfalso
      obtain ⟨I, hI, rfl⟩ := nI_of c
      rw [le_nI (by omega) (by omega)] at c2
      exact hi ⟨I, by omega, rfl⟩
theorem RX.goal {x : HT} {j : Nat} {a : Nat → Nat} (r : RX x j a) {i lb : Nat} (h5 : a 3 ≤ 5) (hi : i < a 3) (hlb : lb < 36) (hM : okM a i) : RX (sL x (7 * j + 5) i (lN (gMk a i ^^^ 2 ^ lb))) j (rGoal a i lb) := by
  obtain ⟨r1, r2, r3, r4, r5, r6, r7⟩ := r
  have rr := fun k h h' => rGoal_r (a := a) (i := i) (lb := lb) (k := k) hlb h h'
  refine ⟨?_, ?_, ?_, ?_, fun l hl => ?_, fun q hq => ⟨?_, ?_, ?_⟩, fun w hw => ⟨?_, ?_⟩⟩
  · rw [rr _ (by omega) (by omega)]; exact r1
  · rw [rr _ (by omega) (by omega)]; exact r2
  · rw [rr _ (by omega) (by omega)]; exact r3
  · rw [rr _ (by omega) (by omega)]; exact r4
  · rw [rr _ (by omega) (by omega)]; exact r5 l hl
  · rw [rr _ (by omega) (by omega)] at hq; rw [rr _ (by omega) (by omega)]; exact (r6 q hq).1
  · rw [rr _ (by omega) (by omega)] at hq; rw [rr _ (by omega) (by omega)]; exact (r6 q hq).2.1
  · rw [rr _ (by omega) (by omega)] at hq
    rw [sL_r]
    by_cases e : q = i
    · subst e
      rw [if_pos ⟨rfl, rfl⟩, rGoal_M hlb hM.2.2.2.1 hM.2.2.2.2.1]
    · rw [if_neg (fun z => e z.2), show gMk (rGoal a i lb) q = gMk a q by unfold gMk; rw [rr _ (by omega) (by omega), rr _ (by omega) (by omega)]]
      exact (r6 q hq).2.2
  · rw [rr _ (by omega) (by omega)] at hw
    rw [show mvw (rGoal a i lb) w = mvw a w by unfold mvw; exact rr _ (by omega) (by omega)]
    exact (r7 w hw).1
  · rw [rr _ (by omega) (by omega)] at hw
    rw [show wtw (rGoal a i lb) w = wtw a w by unfold wtw; exact rr _ (by omega) (by omega)]
    exact (r7 w hw).2
theorem frP_s5 {x : HT} {q : Nat} {v : Int64} : FrJ 0 x (sL x (7 * 0 + 5) q v) := fun c p hc => ⟨rfl, by rw [sL_r, if_neg (by omega)]⟩
theorem cnt_40 {a : Nat → Nat} {i : Nat} (k : WF0 a) (hi : i < a 3) : cntB (fun l => (gMk a i).testBit l) 40 = cntB (aG a i) 36 := by
  have h36 := okW_36 k.1
  have hM := k.2.2 i hi
  rw [show (40 : Nat) = 36 + 4 from rfl, cntB_split]
  have e0 : cntB (fun q => (gMk a i).testBit (36 + q)) 4 = 0 := cntB_0.mpr (fun q hq => by
    rw [Bool.eq_false_iff]
    intro h
    have := (hM.2.2.2.2.2 (36 + q) h).1
    omega)
  rw [e0]
  rfl
theorem x_turnGoal_n {F : Nat} {x : HT} {a : Nat → Nat} (k : WF0 a) (h : CX x a) {i p q : Int32} (hg : ¬ (gMsg a i ∧ plc (a 0) (a 1) p q)) : fX6_turnGoal F x i p q = some (-2, x) := by
  obtain ⟨hR, hG, hW⟩ := h
  unfold fX6_turnGoal fX6_turnGoal_20
  by_cases hm : gMsg a i
  · obtain ⟨I, hI, rfl⟩ := id hm
    rw [bds (x_hasMessage_y hR k.2.1 hI), if_neg (by decide), bds (x_has_n k.1 hG.1 hG.2.1 (fun z => hg ⟨hm, z⟩)), if_pos rfl]
  · rw [bds (x_hasMessage_n hR k.2.1 hm), if_pos rfl]
theorem x_turnGoal_s {F : Nat} {x : HT} {a : Nat → Nat} (k : WF0 a) (h : CX x a) {I X Y : Nat} (hI : I < a 3) (hX : X < a 0) (hY : Y < a 1) (e : lab (a 0) X Y = a (4 + 8 * I)) : fX6_turnGoal F x (nI I) (nI X) (nI Y) = some (-2, x) := by
  obtain ⟨hR, hG, hW⟩ := h
  have h5 := k.2.1
  have hs : x.1 (7 * 0 + 3) I = nI (a (4 + 8 * I)) := (hR.2.2.2.2.2.1 I hI).1
  unfold fX6_turnGoal
  rw [bds (x_hasMessage_y hR k.2.1 hI), if_neg (by decide), bds (x_has_y k.1 hG.1 hG.2.1 hX hY), if_neg (by decide), bds (x_labelAt k.1 hG.1 hX hY), ckb (inb_nI (by omega) (by omega)), clamp_nI (by omega), hs, if_pos (by rw [e])]
theorem x_turnGoal_no {F : Nat} {x : HT} {a : Nat → Nat} (k : WF1 a) (h : CX x a) {I X Y : Nat} (hI : I < a 3) (hX : X < a 0) (hY : Y < a 1) (e : lab (a 0) X Y ≠ a (4 + 8 * I)) (hmv : 0 < mvw a (2 * I) ∨ 0 < mvw a (2 * I + 1)) : fX6_turnGoal F x (nI I) (nI X) (nI Y) = some (-3, x) := by
  obtain ⟨hR, hG, hW⟩ := h
  have h5 := k.1.2.1
  have h36 := okW_36 k.1.1
  have hl := (fin_lab k.1.1 hX hY).1
  have hM := (k.1.2.2 I hI).1
  have b0 := (k.b (w := 2 * I) (by omega)).2.2.2.2.2
  have b1 := (k.b (w := 2 * I + 1) (by omega)).2.2.2.2.2
  have hs : x.1 (7 * 0 + 3) I = nI (a (4 + 8 * I)) := (hR.2.2.2.2.2.1 I hI).1
  have v0 : x.1 (7 * 0 + 6) (2 * I) = nI (mvw a (2 * I)) := (hR.2.2.2.2.2.2 (2 * I) (by omega)).1
  have v1 : x.1 (7 * 0 + 6) (2 * I + 1) = nI (mvw a (2 * I + 1)) := (hR.2.2.2.2.2.2 (2 * I + 1) (by omega)).1
  unfold fX6_turnGoal fX6_turnGoal_81
  rw [bds (x_hasMessage_y hR k.1.2.1 hI), if_neg (by decide), bds (x_has_y k.1.1 hG.1 hG.2.1 hX hY), if_neg (by decide), bds (x_labelAt k.1.1 hG.1 hX hY), ckb (inb_nI (by omega) (by omega)), clamp_nI (by omega), hs, if_neg (by rw [eq_nI (by omega) (by omega)]; exact e), n2, pk_mul, Nat.mul_comm I 2, ckb (inb_nI (by omega) (by omega)), clamp_nI (by omega), v0]
  by_cases c : 0 < mvw a (2 * I)
  · rw [if_pos (by rw [n0, lt_nI (by omega) (by omega)]; exact c)]
  · rw [if_neg (by rw [n0, lt_nI (by omega) (by omega)]; exact c), nI_1, ckb (inb_nI (by omega) (by omega)), clamp_nI (by omega), v1, if_neg (by rw [n0, le_nI (by omega) (by omega)]; omega)]
theorem x_turnGoal_y {F : Nat} (hF : 1000 ≤ F) {x : HT} {a : Nat → Nat} (k : WF2 a) (h : CX x a) {I X Y : Nat} (hI : I < a 3) (hX : X < a 0) (hY : Y < a 1) (e : lab (a 0) X Y ≠ a (4 + 8 * I)) (hmv : ¬ (0 < mvw a (2 * I) ∨ 0 < mvw a (2 * I + 1))) : ∃ x', fX6_turnGoal F x (nI I) (nI X) (nI Y) = some (nI (cntB (aG (rGoal a I (lab (a 0) X Y)) I) 36), x') ∧ CX x' (rGoal a I (lab (a 0) X Y)) ∧ FrP x x' := by
  obtain ⟨hR, hG, hW⟩ := h
  have h5 := k.1.1.2.1
  have h36 := okW_36 k.1.1.1
  have hl := (fin_lab k.1.1.1 hX hY).1
  have hM := k.1.1.2.2 I hI
  have hM1 := hM.1
  have kb := rGoal_ok k hI hl e hmv
  have b0 := (k.1.b (w := 2 * I) (by omega)).2.2.2.2.2
  have b1 := (k.1.b (w := 2 * I + 1) (by omega)).2.2.2.2.2
  have hs : x.1 (7 * 0 + 3) I = nI (a (4 + 8 * I)) := (hR.2.2.2.2.2.1 I hI).1
  have hg : x.2 (7 * 0 + 5) I = lN (gMk a I) := (hR.2.2.2.2.2.1 I hI).2.2
  have v0 : x.1 (7 * 0 + 6) (2 * I) = nI (mvw a (2 * I)) := (hR.2.2.2.2.2.2 (2 * I) (by omega)).1
  have v1 : x.1 (7 * 0 + 6) (2 * I + 1) = nI (mvw a (2 * I + 1)) := (hR.2.2.2.2.2.2 (2 * I + 1) (by omega)).1
  have r1 := hR.goal h5 hI (lb := lab (a 0) X Y) (by omega) hM
  have f1 := frP_s5 (x := x) (q := I) (v := lN (gMk a I ^^^ 2 ^ lab (a 0) X Y))
  have rr := fun k h h' => rGoal_r (a := a) (i := I) (lb := lab (a 0) X Y) (k := k) (by omega) h h'
  have e0 : rGoal a I (lab (a 0) X Y) 0 = a 0 := rr _ (by omega) (by omega)
  have e1 : rGoal a I (lab (a 0) X Y) 1 = a 1 := rr _ (by omega) (by omega)
  have e3 : rGoal a I (lab (a 0) X Y) 3 = a 3 := rr _ (by omega) (by omega)
  obtain ⟨x2, q1, f2, g2, w2, w3⟩ := x_layMessage hF kb.1.1 r1 (by rw [e0, e1]; exact f1.gx (by omega) hG) (i := I) (by rw [e3]; exact hI)
  have r2 := f2.rx (by omega) r1
  have hg2 : x2.2 (7 * 0 + 5) I = lN (gMk (rGoal a I (lab (a 0) X Y)) I) := (r2.2.2.2.2.2.1 I (by rw [e3]; exact hI)).2.2
  have hgl := gMk_lt (kb.1.1.2.2 I (by rw [e3]; exact hI))
  unfold fX6_turnGoal
  rw [bds (x_hasMessage_y hR h5 hI), if_neg (by decide), bds (x_has_y k.1.1.1 hG.1 hG.2.1 hX hY), if_neg (by decide), bds (x_labelAt k.1.1.1 hG.1 hX hY), ckb (inb_nI (by omega) (by omega)), clamp_nI (by omega), hs, if_neg (by rw [eq_nI (by omega) (by omega)]; exact e), n2, pk_mul, Nat.mul_comm I 2, ckb (inb_nI (by omega) (by omega)), clamp_nI (by omega), v0, if_neg (by rw [n0, lt_nI (by omega) (by omega)]; omega), nI_1, ckb (inb_nI (by omega) (by omega)), clamp_nI (by omega), v1, if_pos (by rw [n0, le_nI (by omega) (by omega)]; omega), ckb (inb_nI (by omega) (by omega)), ckb (inb_nI (by omega) (by omega)), hg, show (1 : Int64) <<< ((nI (lab (a 0) X Y)).toInt64 &&& 63) = lN (1 * 2 ^ lab (a 0) X Y) from shl_lN 1 (by omega), Nat.one_mul, xor_lN, lts, bds q1, ckb (inb_nI (by omega) (by omega)), hg2, bds (x_bitCountL (by omega)), cnt_40 kb.1.1 (by rw [e3]; exact hI)]
  refine ⟨x2, rfl, ⟨r2, g2, fun w hw => ?_⟩, f1.p.tr f2.p⟩
  rw [e3] at hw
  by_cases c : w / 2 = I
  · exact w2 w c
  · refine w3 _ w (by omega) c ?_
    have hy : wy (rGoal a I (lab (a 0) X Y)) w = wy a w := wy_cg e0 e1 (rr _ (by omega) (by omega)) (rr _ (by omega) (by omega)) (rr _ (by omega) (by omega))
    have hw1 := (f1.wx (by omega) hW) w (by omega)
    unfold wx1 wN
    unfold wN at hw1
    rw [hy, e0, e1]
    exact hw1
-- turns
theorem x_channelAt_y {F : Nat} {x : HT} {W H : Nat} (k : okW W H) (hG : GX x W H) {X Y D : Nat} (hX : X < W) (hY : Y < H) (hd : D < 4) (hb : bes W H (lab W X Y) D ≠ 99) : fX0_channelAt F x (nI X) (nI Y) (nI D) = some (nI (4 * lab W X Y + D), x) := by
  have h36 := okW_36 k
  have hl := (fin_lab k hX hY).1
  have hbl := bes_lt k hl hd
  unfold fX0_channelAt
  rw [bds (x_has_y k hG.1 hG.2.1 hX hY), if_neg (by decide), if_neg (nI_pos (by omega)), if_pos (by rw [n4, lt_nI (by omega) (by omega)]; exact hd), bds (x_labelAt k hG.1 hX hY), n4, pk_mul, nI_add, Nat.mul_comm _ 4, lts, ckb (inb_nI (by omega) (by omega)), clamp_nI (by omega), (hG.2.2 _ hl).2.2 D hd, ite_m1 (by omega), if_neg hb]
theorem x_channelAt_n {F : Nat} {x : HT} {a : Nat → Nat} (k : okW (a 0) (a 1)) (hG : GX x (a 0) (a 1)) {p q d : Int32} (hg : ¬ gChn a p q d) : fX0_channelAt F x p q d = some (-1, x) := by
  have h36 := okW_36 k
  unfold fX0_channelAt fX0_channelAt_18
  by_cases hp : plc (a 0) (a 1) p q
  · obtain ⟨X, Y, hX, hY, rfl, rfl⟩ := id hp
    have hl := (fin_lab k hX hY).1
    rw [bds (x_has_y k hG.1 hG.2.1 hX hY), if_neg (by decide)]
    by_cases c1 : d < 0
    · rw [if_pos c1]
    · rw [if_neg c1]
      obtain ⟨D, hD, rfl⟩ := nI_of c1
      by_cases c2 : nI D < 4
      · have c2' := c2
        rw [n4, lt_nI (by omega) (by omega)] at c2'
        have hbl := bes_lt k hl c2'
        rw [if_pos c2, bds (x_labelAt k hG.1 hX hY), n4, pk_mul, nI_add, Nat.mul_comm _ 4, lts, ckb (inb_nI (by omega) (by omega)), clamp_nI (by omega), (hG.2.2 _ hl).2.2 D c2', ite_m1 (by omega)]
        by_cases c3 : bes (a 0) (a 1) (lab (a 0) X Y) D = 99
        · rw [if_pos c3]
        · exact absurd ⟨X, Y, D, hX, hY, c2', rfl, rfl, rfl, c3⟩ hg
      · rw [if_neg c2]
  · rw [bds (x_has_n k hG.1 hG.2.1 hp), if_pos rfl]
theorem RX.turn {x : HT} {j : Nat} {a : Nat → Nat} (r : RX x j a) (h5 : a 3 ≤ 5) {lb d : Nat} (hlb : lb < 36) : RX (sI x (7 * j + 2) lb (nI (a (44 + lb) ^^^ 2 ^ d))) j (rTurn a lb d) := by
  obtain ⟨r1, r2, r3, r4, r5, r6, r7⟩ := r
  have rr := fun k h => rTurn_r (a := a) (lb := lb) (d := d) (k := k) h
  refine ⟨?_, ?_, ?_, ?_, fun l hl => ?_, fun q hq => ⟨?_, ?_, ?_⟩, fun w hw => ⟨?_, ?_⟩⟩
  · rw [sI_r, if_neg (by omega), rr _ (by omega)]; exact r1
  · rw [sI_r, if_neg (by omega), rr _ (by omega)]; exact r2
  · rw [sI_r, if_neg (by omega), rr _ (by omega)]; exact r3
  · rw [sI_r, if_neg (by omega), rr _ (by omega)]; exact r4
  · rw [sI_r]
    unfold rTurn upN
    by_cases e : l = lb
    · subst e; rw [if_pos ⟨rfl, rfl⟩, if_pos rfl]
    · rw [if_neg (fun z => e z.2), if_neg (by omega)]; exact r5 l hl
  · rw [rr _ (by omega)] at hq; rw [sI_r, if_neg (by omega), rr _ (by omega)]; exact (r6 q hq).1
  · rw [rr _ (by omega)] at hq; rw [sI_r, if_neg (by omega), rr _ (by omega)]; exact (r6 q hq).2.1
  · rw [rr _ (by omega)] at hq
    unfold gMk
    rw [rr _ (by omega), rr _ (by omega)]; exact (r6 q hq).2.2
  · rw [rr _ (by omega)] at hw
    rw [sI_r, if_neg (by omega), show mvw (rTurn a lb d) w = mvw a w by unfold mvw; exact rr _ (by omega)]; exact (r7 w hw).1
  · rw [rr _ (by omega)] at hw
    rw [sI_r, if_neg (by omega), show wtw (rTurn a lb d) w = wtw a w by unfold wtw; exact rr _ (by omega)]; exact (r7 w hw).2
theorem frP_s2 {x : HT} {q : Nat} {v : Int32} : FrJ 0 x (sI x (7 * 0 + 2) q v) := fun c p hc => ⟨by rw [sI_r, if_neg (by omega)], rfl⟩
theorem x_turnChannel_n {F : Nat} {x : HT} {a : Nat → Nat} (k : okW (a 0) (a 1)) (h : CX x a) {p q d : Int32} (hg : ¬ gChn a p q d) : fX6_turnChannel F x p q d = some (-2, x) := by
  unfold fX6_turnChannel
  rw [bds (x_channelAt_n k h.2.1 hg), if_pos rfl]
theorem x_turnChannel_y {F : Nat} {x : HT} {a : Nat → Nat} (k : WF2 a) (h : CX x a) {X Y D : Nat} (hX : X < a 0) (hY : Y < a 1) (hd : D < 4) (hb : bes (a 0) (a 1) (lab (a 0) X Y) D ≠ 99) : ∃ x', fX6_turnChannel F x (nI X) (nI Y) (nI D) = some (if dnB (rTurn a (lab (a 0) X Y) D) (lab (a 0) X Y) D = true then 0 else 1, x') ∧ CX x' (rTurn a (lab (a 0) X Y) D) ∧ FrP x x' := by
  obtain ⟨hR, hG, hW⟩ := h
  have ka := k.1.1.1
  have h5 := k.1.1.2.1
  have h36 := okW_36 ka
  have hl := (fin_lab ka hX hY).1
  have kb := rTurn_ok k hl hd hb
  have r1 := hR.turn h5 (lb := lab (a 0) X Y) (d := D) (by omega)
  have f1 := frP_s2 (x := x) (q := lab (a 0) X Y) (v := nI (a (44 + lab (a 0) X Y) ^^^ 2 ^ D))
  have rr := fun k h => rTurn_r (a := a) (lb := lab (a 0) X Y) (d := D) (k := k) h
  have hdn : x.1 (7 * 0 + 2) (lab (a 0) X Y) = nI (a (44 + lab (a 0) X Y)) := hR.2.2.2.2.1 _ (by omega)
  unfold fX6_turnChannel fX2_turn
  rw [bds (x_channelAt_y ka hG hX hY hd hb), if_neg (m1_ne (by omega)), if_neg (nI_pos (by omega)), if_neg (by rw [n144, le_nI (by omega) (by omega)]; omega), shr2_nI (by omega), show (4 * lab (a 0) X Y + D) / 4 = lab (a 0) X Y by omega, and3_nI (by omega), show (4 * lab (a 0) X Y + D) % 4 = D by omega, ckb (inb_nI (by omega) (by omega)), ckb (inb_nI (by omega) (by omega)), clamp_nI (by omega), hdn, shl_nI (by omega), xor_nI, lts, bdk, bds (x_isDown r1 kb.1.2.2 (by omega) hd)]
  have hc : CX (sI x (7 * 0 + 2) (lab (a 0) X Y) (nI (a (44 + lab (a 0) X Y) ^^^ 2 ^ D))) (rTurn a (lab (a 0) X Y) D) := by
    refine ⟨r1, by rw [rr 0 (by omega), rr 1 (by omega)]; exact f1.gx (by omega) hG, fun w hw => ?_⟩
    rw [rr 3 (by omega)] at hw
    have hy : wy (rTurn a (lab (a 0) X Y) D) w = wy a w := wy_cg (rr 0 (by omega)) (rr 1 (by omega)) (rr _ (by omega)) (rr _ (by omega)) (rr _ (by omega))
    have hw1 := (f1.wx (by omega) hW) w hw
    unfold wN
    unfold wN at hw1
    rw [hy, rr 0 (by omega), rr 1 (by omega)]
    exact hw1
  by_cases e : dnB (rTurn a (lab (a 0) X Y) D) (lab (a 0) X Y) D = true
  · rw [if_pos e, if_neg (by decide), if_pos e]
    exact ⟨_, rfl, hc, f1.p⟩
  · rw [if_neg e, if_pos rfl, if_neg e]
    exact ⟨_, rfl, hc, f1.p⟩
-- again
theorem x_startAgain {F : Nat} {x : HT} {a : Nat → Nat} (k : WF2 a) (h : CX x a) : ∃ x', fX6_startAgain F x = some (nI (a 2), x') ∧ CX x' (rAgn a (a 3)) ∧ FrP x x' := by
  obtain ⟨hR, hG, hW⟩ := h
  have h5 := k.1.1.2.1
  have s := rAgn_sm h5
  obtain ⟨x1, e1, s1, r1⟩ := x_standStill F 0 x
  have f1 : FrT 0 x x1 := ⟨s1, fun c q h1 h2 h3 h4 => by rw [r1, if_neg (by omega), if_neg (by omega), if_neg (by omega)]⟩
  have h2 : x.1 (7 * 0 + 1) 2 = nI (a 2) := hR.2.2.1
  obtain ⟨a1, a2, a3, a4, a5, a6, a7⟩ := hR
  unfold fX6_startAgain
  rw [h2, lts, bds e1]
  refine ⟨x1, rfl, ⟨⟨?_, ?_, ?_, ?_, fun l hl => ?_, fun i hi => ?_, fun w hw => ?_⟩, ?_, f1.wx (by omega) h5 s hW⟩, f1.p⟩
  · rw [f1.2 _ _ (by omega) (by omega) (by omega) (by omega), s.1]; exact a1
  · rw [f1.2 _ _ (by omega) (by omega) (by omega) (by omega), s.2.1]; exact a2
  · rw [r1, if_neg (by omega), if_neg (by omega), if_pos ⟨rfl, rfl⟩, show rAgn a (a 3) 2 = 0 by unfold rAgn; rw [if_pos (by omega)]]; rfl
  · rw [f1.2 _ _ (by omega) (by omega) (by omega) (by omega), s.2.2.1]; exact a4
  · rw [f1.2 _ _ (by omega) (by omega) (by omega) (by omega), s.2.2.2.2]; exact a5 l hl
  · rw [s.2.2.1] at hi
    have := a6 i hi
    obtain ⟨s1', s2', s3', s4'⟩ := s.2.2.2.1 i
    unfold gMk at this ⊢
    rw [f1.2 _ _ (by omega) (by omega) (by omega) (by omega), f1.2 _ _ (by omega) (by omega) (by omega) (by omega), f1.1, s1', s2', s3', s4']
    exact this
  · rw [s.2.2.1] at hw
    rw [(rAgn_0 hw).1, (rAgn_0 hw).2]
    refine ⟨?_, ?_⟩
    · rw [r1, if_neg (by omega), if_pos ⟨rfl, by omega⟩]; rfl
    · rw [r1, if_pos ⟨rfl, by omega⟩]; rfl
  · rw [s.1, s.2.1]; exact f1.gx (by omega) hG
