-- ===== the class: what is told out =====
theorem x_arr_l {F j : Nat} {x : HT} {a : Nat → Nat} (h : RX x j a) (k : WF1 a) (hW : WX x a) {w : Nat} (hw : w < 2 * a 3) : ∀ d t n, t + d = hHead a w → d < n → fX5_arrived_12 F j n x (nI w) (lN (gW a w)) (nI (pas a w t)) (nI (t + 1)) = some (nI (arv a w), x) := by
  obtain ⟨b1, b2, b3, b4, b5, b6⟩ := k.b hw
  have hh := hHead_le (a := a) (w := w)
  have hM := k.1.2.2 (w / 2) (by omega)
  intro d
  induction d with
  | zero =>
    intro t n hid hd
    obtain ⟨n, rfl⟩ : ∃ n', n = n' + 1 := ⟨n - 1, by omega⟩
    show fX5_arrived_12b F (fX5_arrived_12 F j n) j x _ _ _ _ = _
    unfold fX5_arrived_12b
    rw [bds (x_headOf h k hW hw), if_pos (by rw [lt_nI (by omega) (by omega)]; omega), arv_pas k.1 hw, show t = hHead a w by omega]
  | succ d ih =>
    intro t n hid hd
    obtain ⟨n, rfl⟩ : ∃ n', n = n' + 1 := ⟨n - 1, by omega⟩
    have p1 := (wP_lt k.1 hw (j := t + 1) (by omega)).2
    have ih1 := ih (t + 1) n (by omega) (by omega)
    rw [pas_s k.1 hw (by omega)] at ih1
    show fX5_arrived_12b F (fX5_arrived_12 F j n) j x _ _ _ _ = _
    unfold fX5_arrived_12b fX5_arrived_44
    rw [bds (x_headOf h k hW hw), if_neg (by rw [lt_nI (by omega) (by omega)]; omega), ckb (inb_nI (by omega) (by omega)), ckb (inb_nI (by omega) (by omega)), clamp_nI (by omega), clamp_nI (by omega), hW.p hw (by omega)]
    by_cases e : gAt a w (t + 1) = true
    · rw [if_neg (by rw [bitL (gW_lt hM) (by omega), gW_at k.1 hw (by omega) (by omega), e]; decide), lts, nI_1, lts, nI_1]
      rw [if_pos e] at ih1
      exact ih1
    · rw [if_pos (by rw [bitL (gW_lt hM) (by omega), gW_at k.1 hw (by omega) (by omega)]; exact Bool.eq_false_iff.mpr e), lts, nI_1]
      rw [if_neg e] at ih1
      exact ih1
theorem x_arrived {F j : Nat} (hF : 1000 ≤ F) {x : HT} {a : Nat → Nat} (h : RX x j a) (k : WF1 a) (hW : WX x a) {w : Nat} (hw : w < 2 * a 3) : fX5_arrived F j x (nI w) = some (nI (arv a w), x) := by
  obtain ⟨b1, b2, b3, b4, b5, b6⟩ := k.b hw
  have hh := hHead_le (a := a) (w := w)
  unfold fX5_arrived
  rw [bds (x_goalsOfWorm h k.1 hw)]
  have := x_arr_l (F := F) h k hW hw (hHead a w) 0 F (by omega) (by omega)
  rw [pas_0 k.1 hw] at this
  exact this
theorem x_dwn_l {F j : Nat} {x : HT} {a : Nat → Nat} (h : RX x j a) (k : WF1 a) (hW : WX x a) {w : Nat} (hw : w < 2 * a 3) : ∀ d c n, c + d = wN a w → d < n → fX5_channelsDown_5 F j n x (nI w) (nI (cntB (dwK a w) c)) (nI c) = some (nI (dwn a w), x) := by
  obtain ⟨b1, b2, b3, b4, b5, b6⟩ := k.b hw
  intro d
  induction d with
  | zero =>
    intro c n hid hd
    obtain ⟨n, rfl⟩ : ∃ n', n = n' + 1 := ⟨n - 1, by omega⟩
    show fX5_channelsDown_5b F (fX5_channelsDown_5 F j n) j x _ _ _ = _
    unfold fX5_channelsDown_5b
    rw [ckb (inb_nI (by omega) (by omega)), clamp_nI (by omega), hW.n hw, if_pos (by rw [le_nI (by omega) (by omega)]; omega), dwn, show c = wN a w by omega]
  | succ d ih =>
    intro c n hid hd
    obtain ⟨n, rfl⟩ : ∃ n', n = n' + 1 := ⟨n - 1, by omega⟩
    have p1 := (wP_lt k.1 hw (j := c) (by omega)).2
    have ih1 := ih (c + 1) n (by omega) (by omega)
    rw [cntB] at ih1
    show fX5_channelsDown_5b F (fX5_channelsDown_5 F j n) j x _ _ _ = _
    unfold fX5_channelsDown_5b fX5_channelsDown_35
    rw [ckb (inb_nI (by omega) (by omega)), clamp_nI (by omega), hW.n hw, if_neg (by rw [le_nI (by omega) (by omega)]; omega), ckb (inb_nI (by omega) (by omega)), ckb (inb_nI (by omega) (by omega)), clamp_nI (by omega), hW.c hw (by omega), chn, bds (x_isDown h k.2.2 p1 dirOf_lt)]
    by_cases e : dwK a w c = true
    · have e' : dnB a (wP a w c) (dirOf (a 0) (a 1) (wP a w c) (wP a w (c + 1))) = true := e
      rw [if_pos e', if_neg (by decide), lts, nI_1, lts, nI_1]
      rw [if_pos e] at ih1
      exact ih1
    · have e' : ¬ dnB a (wP a w c) (dirOf (a 0) (a 1) (wP a w c) (wP a w (c + 1))) = true := e
      rw [if_neg e', if_pos rfl, lts, nI_1]
      rw [if_neg e] at ih1
      exact ih1
theorem x_dwn {F j : Nat} (hF : 1000 ≤ F) {x : HT} {a : Nat → Nat} (h : RX x j a) (k : WF1 a) (hW : WX x a) {w : Nat} (hw : w < 2 * a 3) : fX5_channelsDown F j x (nI w) = some (nI (dwn a w), x) := by
  have b := k.b hw
  exact x_dwn_l h k hW hw (wN a w) 0 F (by omega) (by omega)
theorem x_wormFact {F : Nat} (hF : 1000 ≤ F) {x : HT} {a : Nat → Nat} (k : WF1 a) (h : CX x a) {w what : Nat} (hw : w < 2 * a 3) (hq : what < 9) : fX6_wormFact F x (nI w) (nI what) = some (nI (wFct a w what), x) := by
  obtain ⟨hR, hG, hW⟩ := h
  obtain ⟨b1, b2, b3, b4, b5, b6⟩ := k.b hw
  have hh := hHead_le (a := a) (w := w)
  have hM := k.1.2.2 (w / 2) (by omega)
  have p1 := wP_lt k.1 hw (j := hHead a w) hh
  have hgl := gW_lt hM
  have v6 : x.1 (7 * 0 + 6) w = nI (mvw a w) := (hR.2.2.2.2.2.2 w hw).1
  have v7 : x.1 (7 * 0 + 7) w = nI (wtw a w) := (hR.2.2.2.2.2.2 w hw).2
  unfold fX6_wormFact wFct
  rw [ite_n n0 (by omega) (by omega), ite_n n1 (by omega) (by omega), ite_n n2 (by omega) (by omega), ite_n n3 (by omega) (by omega), ite_n n4 (by omega) (by omega), ite_n n5 (by omega) (by omega), ite_n n6 (by omega) (by omega), ite_n n7 (by omega) (by omega)]
  by_cases e0 : what = 0
  · rw [if_pos e0, if_pos e0, bds (x_goalsOfWorm hR k.1 hw), bds (x_bitCountL (by omega)), cnt_gW k.1 hw]
  rw [if_neg e0, if_neg e0]
  by_cases e1 : what = 1
  · rw [if_pos e1, if_pos e1, bds (x_channelsOf k.1.2.1 hW hw)]
  rw [if_neg e1, if_neg e1]
  by_cases e2 : what = 2
  · rw [if_pos e2, if_pos e2, ckb (inb_nI (by omega) (by omega)), clamp_nI (by omega), v6]
  rw [if_neg e2, if_neg e2]
  by_cases e3 : what = 3
  · rw [if_pos e3, if_pos e3, bds (x_headOf hR k hW hw), bds (x_placeOf k hW hw hh), bds (x_tell k.1.1 hG p1.1)]
  rw [if_neg e3, if_neg e3]
  by_cases e4 : what = 4
  · rw [if_pos e4, if_pos e4, bds (x_arrived hF hR k hW hw)]
  rw [if_neg e4, if_neg e4]
  by_cases e5 : what = 5
  · rw [if_pos e5, if_pos e5, ckb (inb_nI (by omega) (by omega)), clamp_nI (by omega), v7]
  rw [if_neg e5, if_neg e5]
  by_cases e6 : what = 6
  · rw [if_pos e6, if_pos e6, bds (x_isDone hR k hW hw)]
    by_cases e : dnW a w = true
    · rw [if_pos e, if_neg (by decide), if_pos e]; rfl
    · rw [if_neg e, if_pos rfl, if_neg e]; rfl
  rw [if_neg e6, if_neg e6]
  by_cases e7 : what = 7
  · rw [if_pos e7, if_pos e7, bds (x_headOf hR k hW hw), bds (x_tailOf hR k hw), sub_nI (hTH k hw)]; rfl
  rw [if_neg e7, if_neg e7, bds (x_dwn hF hR k hW hw)]
-- messages
theorem x_strt_l {F : Nat} (hF : 1000 ≤ F) {x : HT} {a : Nat → Nat} (k : WF1 a) (h : CX x a) {i : Nat} (hi : i < a 3) : ∀ d l n, l + d = a 0 * a 1 → d < n → fX6_straightWays_4 F n x (nI i) (nI (sumB (strt a i) l)) (nI l) = some (nI (sumB (strt a i) (a 0 * a 1)), x) := by
  obtain ⟨hR, hG, hW⟩ := h
  have h36 := okW_36 k.1.1
  have h5 := k.1.2.1
  have hM := k.1.2.2 i hi
  have hgl := gMk_lt hM
  have v3 : x.1 (7 * 0 + 3) i = nI (a (4 + 8 * i)) := (hR.2.2.2.2.2.1 i hi).1
  have v5 : x.2 (7 * 0 + 5) i = lN (gMk a i) := (hR.2.2.2.2.2.1 i hi).2.2
  intro d
  induction d with
  | zero =>
    intro l n hid hd
    obtain ⟨n, rfl⟩ : ∃ n', n = n' + 1 := ⟨n - 1, by omega⟩
    show fX6_straightWays_4b F (fX6_straightWays_4 F n) x _ _ _ = _
    unfold fX6_straightWays_4b
    rw [bds (x_places hG.1 hG.2.1), if_pos (by rw [le_nI (by omega) (by omega)]; omega), show l = a 0 * a 1 by omega]
  | succ d ih =>
    intro l n hid hd
    obtain ⟨n, rfl⟩ : ∃ n', n = n' + 1 := ⟨n - 1, by omega⟩
    have ih1 := ih (l + 1) n (by omega) (by omega)
    rw [sumB] at ih1
    show fX6_straightWays_4b F (fX6_straightWays_4 F n) x _ _ _ = _
    unfold fX6_straightWays_4b fX6_straightWays_53
    rw [bds (x_places hG.1 hG.2.1), if_neg (by rw [le_nI (by omega) (by omega)]; omega), ckb (inb_nI (by omega) (by omega)), clamp_nI (by omega), v5]
    by_cases e : aG a i l = true
    · have es : strt a i l = far (a 0) (a 1) (a (4 + 8 * i)) l := by unfold strt; rw [if_pos e]
      rw [if_neg (by rw [bitL (by omega) (by omega)]; intro z; unfold aG at e; unfold gMk at z; rw [z] at e; cases e), ckb (inb_nI (by omega) (by omega)), v3, bds (x_distance hF k.1.1 hG hM.1 (by omega)), lts, nI_add, lts, nI_1]
      rw [es] at ih1
      exact ih1
    · have es : strt a i l = 0 := by unfold strt; rw [if_neg e]
      rw [if_pos (by rw [bitL (by omega) (by omega)]; exact Bool.eq_false_iff.mpr e), lts, nI_1]
      rw [es] at ih1
      exact ih1
theorem x_xOf {F : Nat} {x : HT} {W H : Nat} (k : okW W H) (g : GX x W H) {l : Nat} (hl : l < W * H) : fX0_xOf F x (nI l) = some (x.1 60 l, x) := by
  have h36 := okW_36 k
  unfold fX0_xOf
  rw [bds (x_hasLabel_y k g.1 g.2.1 hl), if_neg (by decide), ckb (inb_nI (by omega) (by omega)), clamp_nI (by omega)]
theorem x_yOf {F : Nat} {x : HT} {W H : Nat} (k : okW W H) (g : GX x W H) {l : Nat} (hl : l < W * H) : fX0_yOf F x (nI l) = some (x.1 61 l, x) := by
  have h36 := okW_36 k
  unfold fX0_yOf
  rw [bds (x_hasLabel_y k g.1 g.2.1 hl), if_neg (by decide), ckb (inb_nI (by omega) (by omega)), clamp_nI (by omega)]
theorem x_messageFact {F : Nat} (hF : 1000 ≤ F) {x : HT} {a : Nat → Nat} (k : WF1 a) (h : CX x a) {i what : Nat} (hi : i < a 3) (hq : what < 6) : fX6_messageFact F x (nI i) (nI what) = some (nI (mFct a i what), x) := by
  have h' := h
  obtain ⟨hR, hG, hW⟩ := h'
  have h36 := okW_36 k.1.1
  have h5 := k.1.2.1
  have hM := k.1.2.2 i hi
  have hs := hM.1
  have hgl := gMk_lt hM
  have v3 : x.1 (7 * 0 + 3) i = nI (a (4 + 8 * i)) := (hR.2.2.2.2.2.1 i hi).1
  have v4 : x.1 (7 * 0 + 4) i = nI (a (5 + 8 * i)) := (hR.2.2.2.2.2.1 i hi).2.1
  have v5 : x.2 (7 * 0 + 5) i = lN (gMk a i) := (hR.2.2.2.2.2.1 i hi).2.2
  obtain ⟨g1, g2, -⟩ := hG.2.2 _ hs
  unfold fX6_messageFact mFct
  rw [ite_n n0 (by omega) (by omega), ite_n n1 (by omega) (by omega), ite_n n2 (by omega) (by omega), ite_n n3 (by omega) (by omega), ite_n n4 (by omega) (by omega)]
  by_cases e0 : what = 0
  · rw [if_pos e0, if_pos e0, ckb (inb_nI (by omega) (by omega)), clamp_nI (by omega), v3, bds (x_xOf k.1.1 hG hs), g1]
  rw [if_neg e0, if_neg e0]
  by_cases e1 : what = 1
  · rw [if_pos e1, if_pos e1, ckb (inb_nI (by omega) (by omega)), clamp_nI (by omega), v3, bds (x_yOf k.1.1 hG hs), g2]
  rw [if_neg e1, if_neg e1]
  by_cases e2 : what = 2
  · rw [if_pos e2, if_pos e2, ckb (inb_nI (by omega) (by omega)), clamp_nI (by omega), v4]
  rw [if_neg e2, if_neg e2]
  by_cases e3 : what = 3
  · rw [if_pos e3, if_pos e3, ckb (inb_nI (by omega) (by omega)), clamp_nI (by omega), v5, bds (x_bitCountL (by omega)), cnt_40 k.1 hi]
  rw [if_neg e3, if_neg e3]
  by_cases e4 : what = 4
  · rw [if_pos e4, if_pos e4, n2, pk_mul, Nat.mul_comm i 2, bds (x_channelsOf h5 hW (by omega)), nI_1, bds (x_channelsOf h5 hW (by omega)), nI_add]
  rw [if_neg e4, if_neg e4]
  have := x_strt_l hF k h hi (a 0 * a 1) 0 F (by omega) (by omega)
  have t : fX6_straightWays F x (nI i) = some (nI (sumB (strt a i) (a 0 * a 1)), x) := this
  rw [bds t, strt_36 k.1 hi]
-- counts
theorem x_cdn_l {F : Nat} {x : HT} {a : Nat → Nat} (k : WF1 a) (h : RX x 0 a) : ∀ d l n, l + d = 36 → d < n → fX2_channelsDown_4 F 0 n x (nI (sumB (fun l => cntB (dnB a l) 4) l)) (nI l) = some (nI (dnC a), x) := by
  intro d
  induction d with
  | zero =>
    intro l n hid hd
    obtain ⟨n, rfl⟩ : ∃ n', n = n' + 1 := ⟨n - 1, by omega⟩
    show fX2_channelsDown_4b F (fX2_channelsDown_4 F 0 n) 0 x _ _ = _
    unfold fX2_channelsDown_4b
    rw [if_pos (by rw [n36, le_nI (by omega) (by omega)]; omega), show l = 36 by omega, dnC_36 k]
  | succ d ih =>
    intro l n hid hd
    obtain ⟨n, rfl⟩ : ∃ n', n = n' + 1 := ⟨n - 1, by omega⟩
    have v : x.1 (7 * 0 + 2) l = nI (a (44 + l)) := h.2.2.2.2.1 l (by omega)
    have h16 := (k.2.2 l (by omega)).1
    show fX2_channelsDown_4b F (fX2_channelsDown_4 F 0 n) 0 x _ _ = _
    unfold fX2_channelsDown_4b
    rw [if_neg (by rw [n36, le_nI (by omega) (by omega)]; omega), ckb (inb_nI (by omega) (by omega)), clamp_nI (by omega), v, bds (x_bitCountI h16), lts, nI_add, lts, nI_1]
    exact ih (l + 1) n (by omega) (by omega)
theorem x_held_l {F : Nat} {x : HT} {a : Nat → Nat} (k : WF1 a) (h : RX x 0 a) (hW : WX x a) : ∀ d w n, w + d = 2 * a 3 → d < n → fX5_channelsHeld_4 F 0 n x (nI (sumB (hms a) w)) (nI w) = some (nI (sumB (hms a) (2 * a 3)), x) := by
  have h5 := k.1.2.1
  intro d
  induction d with
  | zero =>
    intro w n hid hd
    obtain ⟨n, rfl⟩ : ∃ n', n = n' + 1 := ⟨n - 1, by omega⟩
    show fX5_channelsHeld_4b F (fX5_channelsHeld_4 F 0 n) 0 x _ _ = _
    unfold fX5_channelsHeld_4b
    rw [bds (x_worms h), if_pos (by rw [le_nI (by omega) (by omega)]; omega), show w = 2 * a 3 by omega]
  | succ d ih =>
    intro w n hid hd
    obtain ⟨n, rfl⟩ : ∃ n', n = n' + 1 := ⟨n - 1, by omega⟩
    have hw : w < 2 * a 3 := by omega
    show fX5_channelsHeld_4b F (fX5_channelsHeld_4 F 0 n) 0 x _ _ = _
    unfold fX5_channelsHeld_4b
    rw [bds (x_worms h), if_neg (by rw [le_nI (by omega) (by omega)]; omega), bds (x_headOf h k hW hw), bds (x_tailOf h k hw), sub_nI (hTH k hw), nI_add, lts, lts, nI_1]
    exact ih (w + 1) n (by omega) (by omega)
theorem x_wia_l {F : Nat} {x : HT} {a : Nat → Nat} (k : WF1 a) (h : RX x 0 a) : ∀ d w n, w + d = 2 * a 3 → d < n → fX2_waitedInAll_4 F 0 n x (nI (sumB (wtw a) w)) (nI w) = some (nI (sumB (wtw a) (2 * a 3)), x) := by
  have h5 := k.1.2.1
  intro d
  induction d with
  | zero =>
    intro w n hid hd
    obtain ⟨n, rfl⟩ : ∃ n', n = n' + 1 := ⟨n - 1, by omega⟩
    show fX2_waitedInAll_4b F (fX2_waitedInAll_4 F 0 n) 0 x _ _ = _
    unfold fX2_waitedInAll_4b
    rw [bds (x_worms h), if_pos (by rw [le_nI (by omega) (by omega)]; omega), show w = 2 * a 3 by omega]
  | succ d ih =>
    intro w n hid hd
    obtain ⟨n, rfl⟩ : ∃ n', n = n' + 1 := ⟨n - 1, by omega⟩
    have hw : w < 2 * a 3 := by omega
    have v : x.1 (7 * 0 + 7) w = nI (wtw a w) := (h.2.2.2.2.2.2 w hw).2
    show fX2_waitedInAll_4b F (fX2_waitedInAll_4 F 0 n) 0 x _ _ = _
    unfold fX2_waitedInAll_4b
    rw [bds (x_worms h), if_neg (by rw [le_nI (by omega) (by omega)]; omega), ckb (inb_nI (by omega) (by omega)), clamp_nI (by omega), v, nI_add, lts, lts, nI_1]
    exact ih (w + 1) n (by omega) (by omega)
theorem x_mdn_l {F : Nat} (hF : 1000 ≤ F) {x : HT} {a : Nat → Nat} (k : WF1 a) (h : RX x 0 a) (hW : WX x a) : ∀ d i n, i + d = a 3 → d < n → fX6_messagesDone_4 F n x (nI (cntB (fun i => alD a (pM i)) i)) (nI i) = some (nI (cntB (fun i => alD a (pM i)) (a 3)), x) := by
  have h5 := k.1.2.1
  have h3 : x.1 (7 * 0 + 1) 3 = nI (a 3) := h.2.2.2.1
  intro d
  induction d with
  | zero =>
    intro i n hid hd
    obtain ⟨n, rfl⟩ : ∃ n', n = n' + 1 := ⟨n - 1, by omega⟩
    show fX6_messagesDone_4b F (fX6_messagesDone_4 F n) x _ _ = _
    unfold fX6_messagesDone_4b
    rw [h3, if_pos (by rw [le_nI (by omega) (by omega)]; omega), show i = a 3 by omega]
  | succ d ih =>
    intro i n hid hd
    obtain ⟨n, rfl⟩ : ∃ n', n = n' + 1 := ⟨n - 1, by omega⟩
    have ih1 := ih (i + 1) n (by omega) (by omega)
    rw [cntB] at ih1
    obtain ⟨u, hu, e1, e2⟩ := x_undone hF h k hW (i := nI i) (p := pM i) (Or.inr ⟨i, by omega, rfl, fun w => rfl⟩) (Or.inr ⟨i, by omega, rfl⟩)
    show fX6_messagesDone_4b F (fX6_messagesDone_4 F n) x _ _ = _
    unfold fX6_messagesDone_4b fX6_messagesDone_33
    rw [h3, if_neg (by rw [le_nI (by omega) (by omega)]; omega), bds e1, ite_e0 (by omega)]
    by_cases c : u = 0
    · rw [if_pos c, lts, nI_1, lts, nI_1]
      rw [if_pos (e2.mp c)] at ih1
      exact ih1
    · rw [if_neg c, lts, nI_1]
      rw [if_neg (fun z => c (e2.mpr z))] at ih1
      exact ih1
theorem x_countFact {F : Nat} (hF : 1000 ≤ F) {x : HT} {a : Nat → Nat} (k : WF1 a) (h : CX x a) {what : Nat} (hq : what < 8) : fX6_countFact F x (nI what) = some (nI (cFct a what), x) := by
  obtain ⟨hR, hG, hW⟩ := h
  have h5 := k.1.2.1
  have v0 : x.1 (7 * 0 + 1) 0 = nI (a 0) := hR.1
  have v1 : x.1 (7 * 0 + 1) 1 = nI (a 1) := hR.2.1
  have v2 : x.1 (7 * 0 + 1) 2 = nI (a 2) := hR.2.2.1
  have v3 : x.1 (7 * 0 + 1) 3 = nI (a 3) := hR.2.2.2.1
  have t4 : fX2_channelsDown F 0 x = some (nI (dnC a), x) := x_cdn_l k hR 36 0 F (by omega) (by omega)
  have t5 : fX5_channelsHeld F 0 x = some (nI (sumB (hms a) (2 * a 3)), x) := x_held_l k hR hW (2 * a 3) 0 F (by omega) (by omega)
  have t6 : fX2_waitedInAll F 0 x = some (nI (sumB (wtw a) (2 * a 3)), x) := x_wia_l k hR (2 * a 3) 0 F (by omega) (by omega)
  have t7 : fX6_messagesDone F x = some (nI (cntB (fun i => alD a (pM i)) (a 3)), x) := x_mdn_l hF k hR hW (a 3) 0 F (by omega) (by omega)
  unfold fX6_countFact cFct
  rw [ite_n n0 (by omega) (by omega), ite_n n1 (by omega) (by omega), ite_n n2 (by omega) (by omega), ite_n n3 (by omega) (by omega), ite_n n4 (by omega) (by omega), ite_n n5 (by omega) (by omega), ite_n n6 (by omega) (by omega), v0, v1, v2, v3, bds t4, bds t5, bds t6, bds t7]
  by_cases e0 : what = 0
  · rw [if_pos e0, if_pos e0]
  rw [if_neg e0, if_neg e0]
  by_cases e1 : what = 1
  · rw [if_pos e1, if_pos e1]
  rw [if_neg e1, if_neg e1]
  by_cases e2 : what = 2
  · rw [if_pos e2, if_pos e2]
  rw [if_neg e2, if_neg e2]
  by_cases e3 : what = 3
  · rw [if_pos e3, if_pos e3]
  rw [if_neg e3, if_neg e3]
  by_cases e4 : what = 4
  · rw [if_pos e4, if_pos e4]
  rw [if_neg e4, if_neg e4]
  by_cases e5 : what = 5
  · rw [if_pos e5, if_pos e5]
  rw [if_neg e5, if_neg e5]
  by_cases e6 : what = 6
  · rw [if_pos e6, if_pos e6]
  rw [if_neg e6, if_neg e6]
-- the k-th goal
theorem x_goalOf_l {F j : Nat} {x : HT} {a : Nat → Nat} (h : RX x j a) (k : WF1 a) (hW : WX x a) {w : Nat} (hw : w < 2 * a 3) {K : Nat} (hK : K < 2147483648) : ∀ d t n, t + d = wN a w → d < n → pas a w t ≤ K → fX5_goalOf_13 F j n x (nI w) (nI K) (lN (gW a w)) (nI (pas a w t)) (nI (t + 1)) = some (if K < wC a w then nI (wP a w (wQ a w K)) else -1, x) := by
  obtain ⟨b1, b2, b3, b4, b5, b6⟩ := k.b hw
  have hM := k.1.2.2 (w / 2) (by omega)
  intro d
  induction d with
  | zero =>
    intro t n hid hd hp
    obtain ⟨n, rfl⟩ : ∃ n', n = n' + 1 := ⟨n - 1, by omega⟩
    rw [pas_e k.1 hw (by omega)] at hp ⊢
    show fX5_goalOf_13b F (fX5_goalOf_13 F j n) j x _ _ _ _ _ = _
    unfold fX5_goalOf_13b
    rw [ckb (inb_nI (by omega) (by omega)), clamp_nI (by omega), hW.n hw, if_pos (by rw [lt_nI (by omega) (by omega)]; omega), if_neg (by omega)]
  | succ d ih =>
    intro t n hid hd hp
    obtain ⟨n, rfl⟩ : ∃ n', n = n' + 1 := ⟨n - 1, by omega⟩
    have p1 := (wP_lt k.1 hw (j := t + 1) (by omega)).2
    have ih1 := ih (t + 1) n (by omega) (by omega)
    rw [pas_s k.1 hw (by omega)] at ih1
    have hpl : pas a w t ≤ 35 := Nat.le_trans cntB_le b3
    show fX5_goalOf_13b F (fX5_goalOf_13 F j n) j x _ _ _ _ _ = _
    unfold fX5_goalOf_13b fX5_goalOf_59
    rw [ckb (inb_nI (by omega) (by omega)), clamp_nI (by omega), hW.n hw, if_neg (by rw [lt_nI (by omega) (by omega)]; omega), ckb (inb_nI (by omega) (by omega)), ckb (inb_nI (by omega) (by omega)), clamp_nI (by omega), hW.p hw (by omega), lts]
    by_cases e : gAt a w (t + 1) = true
    · obtain ⟨z1, z2⟩ := pas_q k.1 hw (by omega) e
      rw [if_neg (by rw [bitL (gW_lt hM) (by omega), gW_at k.1 hw (by omega) (by omega), e]; decide), ite_eq (by omega) (by omega)]
      by_cases c : pas a w t = K
      · rw [if_pos c, if_pos (by omega), ← c, z2]
      · rw [if_neg c, lts, nI_1, lts, nI_1]
        rw [if_pos e] at ih1
        exact ih1 (by omega)
    · rw [if_pos (by rw [bitL (gW_lt hM) (by omega), gW_at k.1 hw (by omega) (by omega)]; exact Bool.eq_false_iff.mpr e), lts, nI_1]
      rw [if_neg e] at ih1
      exact ih1 hp
theorem x_goalOf {F j : Nat} (hF : 1000 ≤ F) {x : HT} {a : Nat → Nat} (h : RX x j a) (k : WF1 a) (hW : WX x a) {w : Nat} (hw : w < 2 * a 3) {K : Nat} (hK : K < 2147483648) : fX5_goalOf F j x (nI w) (nI K) = some (if K < wC a w then nI (wP a w (wQ a w K)) else -1, x) := by
  have b := k.b hw
  unfold fX5_goalOf
  rw [bds (x_goalsOfWorm h k.1 hw)]
  have := x_goalOf_l (F := F) h k hW hw hK (wN a w) 0 F (by omega) (by omega) (by rw [pas_0 k.1 hw]; omega)
  rw [pas_0 k.1 hw] at this
  exact this
-- who holds a channel
theorem x_hol18 {F : Nat} {x : HT} {a : Nat → Nat} (h : RX x 0 a) (k : WF1 a) (hW : WX x a) {w c : Nat} (hw : w < 2 * a 3) (hc : c < 144) (rec2 : HT → Int32 → Int32 → Option (Int32 × HT)) : ∀ d i n, (i + d = hHead a w ∨ (d = 0 ∧ hHead a w ≤ i)) → i < 100 → d < n → hTail a w ≤ i → anyK (fun k => decide (hTail a w ≤ k) && decide (chn a w k = c)) (if i ≤ hHead a w then i else hHead a w) = false →
    fX5_holderOf_18 F rec2 0 n x (nI c) (nI w) (nI i) = if hldK a w c = true then some (nI w, x) else rec2 x (nI c) (nI (w + 1)) := by
  obtain ⟨b1, b2, b3, b4, b5, b6⟩ := k.b hw
  have hh := hHead_le (a := a) (w := w)
  intro d
  induction d with
  | zero =>
    intro i n hid hi hd ht hz
    obtain ⟨n, rfl⟩ : ∃ n', n = n' + 1 := ⟨n - 1, by omega⟩
    rw [show (if i ≤ hHead a w then i else hHead a w) = hHead a w by split <;> omega] at hz
    have hz' : hldK a w c = false := hz
    show fX5_holderOf_18b F rec2 (fX5_holderOf_18 F rec2 0 n) 0 x _ _ _ = _
    unfold fX5_holderOf_18b
    rw [bds (x_headOf h k hW hw), if_pos (by rw [le_nI (by omega) (by omega)]; omega), lts, nI_1, hz', if_neg (by decide)]
  | succ d ih =>
    intro i n hid hi hd ht hz
    obtain ⟨n, rfl⟩ : ∃ n', n = n' + 1 := ⟨n - 1, by omega⟩
    have hcl := chn_lt k.1 hw (j := i) (by omega)
    rw [if_pos (by omega)] at hz
    show fX5_holderOf_18b F rec2 (fX5_holderOf_18 F rec2 0 n) 0 x _ _ _ = _
    unfold fX5_holderOf_18b
    rw [bds (x_headOf h k hW hw), if_neg (by rw [le_nI (by omega) (by omega)]; omega), ckb (inb_nI (by omega) (by omega)), ckb (inb_nI (by omega) (by omega)), clamp_nI (by omega), clamp_nI (by omega), hW.c hw (by omega), ite_eq (by omega) (by omega)]
    by_cases e : chn a w i = c
    · rw [if_pos e, if_pos (hldK_iff.mpr ⟨i, ht, by omega, e⟩)]
    · rw [if_neg e, lts, nI_1]
      exact ih (i + 1) n (by omega) (by omega) (by omega) (by omega) (by rw [if_pos (by omega), anyK, hz]; simp [e])
theorem x_hol2 {F : Nat} (hF : 1000 ≤ F) {x : HT} {a : Nat → Nat} (h : RX x 0 a) (k : WF1 a) (hW : WX x a) {c : Nat} (hc : c < 144) : ∀ d w n, w + d = 2 * a 3 → d < n → fstK (fun w => hldK a w c) w = 99 → fX5_holderOf_2 F 0 n x (nI c) (nI w) = some (oI (fstK (fun w => hldK a w c) (2 * a 3)), x) := by
  have h5 := k.1.2.1
  intro d
  induction d with
  | zero =>
    intro w n hid hd hz
    obtain ⟨n, rfl⟩ : ∃ n', n = n' + 1 := ⟨n - 1, by omega⟩
    show fX5_holderOf_2b F (fX5_holderOf_2 F 0 n) 0 x _ _ = _
    unfold fX5_holderOf_2b
    rw [bds (x_worms h), if_pos (by rw [le_nI (by omega) (by omega)]; omega), ← show w = 2 * a 3 by omega, hz]
    rfl
  | succ d ih =>
    intro w n hid hd hz
    obtain ⟨n, rfl⟩ : ∃ n', n = n' + 1 := ⟨n - 1, by omega⟩
    have hw : w < 2 * a 3 := by omega
    obtain ⟨b1, b2, b3, b4, b5, b6⟩ := k.b hw
    have hh := hHead_le (a := a) (w := w)
    have ht9 : hTail a w ≤ 44 := by unfold hTail; omega
    have e0 : anyK (fun k => decide (hTail a w ≤ k) && decide (chn a w k = c)) (if hTail a w ≤ hHead a w then hTail a w else hHead a w) = false := anyK_no (fun k hk => by
        have : ¬ hTail a w ≤ k := by split at hk <;> omega
        simp [this])
    have e1 := x_hol18 (F := F) h k hW hw hc (fX5_holderOf_2 F 0 n) (hHead a w - hTail a w) (hTail a w) F (by omega) (by omega) (by omega) (Nat.le_refl _) e0
    show fX5_holderOf_2b F (fX5_holderOf_2 F 0 n) 0 x _ _ = _
    unfold fX5_holderOf_2b
    rw [bds (x_worms h), if_neg (by rw [le_nI (by omega) (by omega)]; omega), bds (x_tailOf h k hw), e1]
    by_cases e : hldK a w c = true
    · rw [if_pos e]
      have hf : fstK (fun w => hldK a w c) (2 * a 3) = w := by
        have s1 : fstK (fun w => hldK a w c) (w + 1) = w := by rw [fstK, if_pos hz, if_pos e]
        have key : ∀ q, w + 1 ≤ q → fstK (fun w => hldK a w c) q = w := by
          intro q hq
          induction q with
          | zero => omega
          | succ q ihq =>
            by_cases e9 : q = w
            · rw [e9]; exact s1
            · rw [fstK, if_neg (by rw [ihq (by omega)]; omega)]; exact ihq (by omega)
        exact key _ (by omega)
      rw [hf, oI_ne (by omega)]
    · rw [if_neg e]
      exact ih (w + 1) n (by omega) (by omega) (by rw [fstK, if_pos hz, if_neg e])
theorem x_holderOf {F : Nat} (hF : 1000 ≤ F) {x : HT} {a : Nat → Nat} (h : RX x 0 a) (k : WF1 a) (hW : WX x a) {f t : Nat} (hf : f < 36) (hadj : bes (a 0) (a 1) f (dirOf (a 0) (a 1) f t) = t) : fX5_holderOf F 0 x (nI (4 * f + dirOf (a 0) (a 1) f t)) = some (oI (hdr a f t), x) := by
  have h5 := k.1.2.1
  have hd : dirOf (a 0) (a 1) f t < 4 := dirOf_lt
  have e := x_hol2 hF h k hW (c := 4 * f + dirOf (a 0) (a 1) f t) (by omega) (2 * a 3) 0 F (by omega) (by omega) rfl
  have e2 : hdr a f t = fstK (fun w => hldK a w (4 * f + dirOf (a 0) (a 1) f t)) (2 * a 3) := fstK_cg (fun w hw => hldB_K k.1 hw hadj)
  rw [e2]
  exact e
