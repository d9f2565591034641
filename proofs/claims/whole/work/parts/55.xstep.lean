-- ===== the class: a step =====
def FrT (j : Nat) (x x' : HT) : Prop := x'.2 = x.2 ∧ ∀ c q, c ≠ 88 → (c ≠ 7 * j + 1 ∨ q ≠ 2) → c ≠ 7 * j + 6 → c ≠ 7 * j + 7 → x'.1 c q = x.1 c q
theorem FrT.rf {j : Nat} {x : HT} : FrT j x x := ⟨rfl, fun _ _ _ _ _ _ => rfl⟩
theorem FrT.tr {j : Nat} {x y z : HT} (h : FrT j x y) (g : FrT j y z) : FrT j x z := ⟨g.1.trans h.1, fun c q a b d e => (g.2 c q a b d e).trans (h.2 c q a b d e)⟩
theorem Fr8.t {j : Nat} {x x' : HT} (h : Fr8 x x') : FrT j x x' := ⟨h.1, fun c q a _ _ _ => h.2 c q a⟩
theorem frT_6 {j : Nat} {x : HT} {q : Nat} {v : Int32} : FrT j x (sI x (7 * j + 6) q v) := ⟨rfl, fun c p h1 h2 h3 h4 => by rw [sI_r, if_neg (by omega)]⟩
theorem frT_7 {j : Nat} {x : HT} {q : Nat} {v : Int32} : FrT j x (sI x (7 * j + 7) q v) := ⟨rfl, fun c p h1 h2 h3 h4 => by rw [sI_r, if_neg (by omega)]⟩
theorem frT_2 {j : Nat} {x : HT} {v : Int32} : FrT j x (sI x (7 * j + 1) 2 v) := ⟨rfl, fun c p h1 h2 h3 h4 => by rw [sI_r, if_neg (by omega)]⟩
theorem FrT.wx {j : Nat} (hj : j < 8) {x x' : HT} {a b : Nat → Nat} (h5 : a 3 ≤ 5) (h : FrT j x x') (hs : smR a b) (r : WX x a) : WX x' b := by
  intro w hw
  rw [hs.2.2.1] at hw
  obtain ⟨r1, r2, r3⟩ := r w hw
  rw [hs.e_y, hs.e_n, hs.1, hs.2.1]
  exact ⟨by rw [h.2 _ _ (by omega) (by omega) (by omega) (by omega)]; exact r1, fun i hi => by rw [h.2 _ _ (by omega) (by omega) (by omega) (by omega)]; exact r2 i hi, fun i hi => by rw [h.2 _ _ (by omega) (by omega) (by omega) (by omega)]; exact r3 i hi⟩
theorem FrT.gx {j : Nat} (hj : j < 8) {x x' : HT} {W H : Nat} (h : FrT j x x') (g : GX x W H) : GX x' W H := by
  obtain ⟨g0, g1, g2⟩ := g
  refine ⟨by rw [h.2 _ _ (by omega) (by omega) (by omega) (by omega)]; exact g0, by rw [h.2 _ _ (by omega) (by omega) (by omega) (by omega)]; exact g1, fun l hl => ?_⟩
  obtain ⟨a1, a2, a3⟩ := g2 l hl
  exact ⟨by rw [h.2 _ _ (by omega) (by omega) (by omega) (by omega)]; exact a1, by rw [h.2 _ _ (by omega) (by omega) (by omega) (by omega)]; exact a2, fun d hd => by rw [h.2 _ _ (by omega) (by omega) (by omega) (by omega)]; exact a3 d hd⟩
theorem FrT.rx {j i : Nat} (hi : i < 8) (hij : i ≠ j) {x x' : HT} {a : Nat → Nat} (h : FrT j x x') (r : RX x i a) : RX x' i a := by
  obtain ⟨r1, r2, r3, r4, r5, r6, r7⟩ := r
  refine ⟨?_, ?_, ?_, ?_, fun l hl => ?_, fun q hq => ?_, fun v hv => ?_⟩
  · rw [h.2 _ _ (by omega) (by omega) (by omega) (by omega)]; exact r1
  · rw [h.2 _ _ (by omega) (by omega) (by omega) (by omega)]; exact r2
  · rw [h.2 _ _ (by omega) (by omega) (by omega) (by omega)]; exact r3
  · rw [h.2 _ _ (by omega) (by omega) (by omega) (by omega)]; exact r4
  · rw [h.2 _ _ (by omega) (by omega) (by omega) (by omega)]; exact r5 l hl
  · rw [h.2 _ _ (by omega) (by omega) (by omega) (by omega), h.2 _ _ (by omega) (by omega) (by omega) (by omega), h.1]; exact r6 q hq
  · rw [h.2 _ _ (by omega) (by omega) (by omega) (by omega), h.2 _ _ (by omega) (by omega) (by omega) (by omega)]; exact r7 v hv
/-- rows that a state of the class can't tell apart -/
def eqR (a b : Nat → Nat) : Prop := smR a b ∧ b 2 = a 2 ∧ ∀ w, w < 2 * a 3 → mvw b w = mvw a w ∧ wtw b w = wtw a w
theorem RX.cg {x : HT} {j : Nat} {a b : Nat → Nat} (r : RX x j a) (e : eqR a b) : RX x j b := by
  obtain ⟨r1, r2, r3, r4, r5, r6, r7⟩ := r
  obtain ⟨s, e2, e3⟩ := e
  refine ⟨by rw [s.1]; exact r1, by rw [s.2.1]; exact r2, by rw [e2]; exact r3, by rw [s.2.2.1]; exact r4, fun l hl => by rw [s.2.2.2.2]; exact r5 l hl, fun i hi => ?_, fun w hw => ?_⟩
  · rw [s.2.2.1] at hi
    have := r6 i hi
    obtain ⟨s1, s2, s3, s4⟩ := s.2.2.2.1 i
    unfold gMk at this ⊢
    rw [s1, s2, s3, s4]
    exact this
  · rw [s.2.2.1] at hw
    rw [(e3 w hw).1, (e3 w hw).2]
    exact r7 w hw
theorem RX.mv {x : HT} {j : Nat} {a : Nat → Nat} (r : RX x j a) {w : Nat} (hw : w < 10) (v : Nat) : RX (sI x (7 * j + 6) w (nI v)) j (upN a (8 + 8 * (w / 2) + w % 2) v) := by
  obtain ⟨r1, r2, r3, r4, r5, r6, r7⟩ := r
  have s : smR a (upN a (8 + 8 * (w / 2) + w % 2) v) := smR.up (by omega) (by omega)
  refine ⟨?_, ?_, ?_, ?_, fun l hl => ?_, fun i hi => ?_, fun u hu => ?_⟩
  · rw [sI_r, if_neg (by omega), s.1]; exact r1
  · rw [sI_r, if_neg (by omega), s.2.1]; exact r2
  · rw [sI_r, if_neg (by omega), show upN a (8 + 8 * (w / 2) + w % 2) v 2 = a 2 by unfold upN; rw [if_neg (by omega)]]; exact r3
  · rw [sI_r, if_neg (by omega), s.2.2.1]; exact r4
  · rw [sI_r, if_neg (by omega), s.2.2.2.2]; exact r5 l hl
  · rw [s.2.2.1] at hi
    have := r6 i hi
    obtain ⟨s1, s2, s3, s4⟩ := s.2.2.2.1 i
    unfold gMk at this ⊢
    rw [sI_r, if_neg (by omega), sI_r, if_neg (by omega), s1, s2, s3, s4]
    exact this
  · rw [s.2.2.1] at hu
    rw [sI_r, sI_r, mvw_upM, wtw_upM]
    by_cases e : u = w
    · rw [if_pos ⟨rfl, e⟩, if_pos e, if_neg (by omega)]; exact ⟨rfl, (r7 u hu).2⟩
    · rw [if_neg (fun z => e z.2), if_neg e, if_neg (by omega)]; exact r7 u hu
theorem RX.wt {x : HT} {j : Nat} {a : Nat → Nat} (r : RX x j a) {w : Nat} (hw : w < 10) (v : Nat) : RX (sI x (7 * j + 7) w (nI v)) j (upN a (10 + 8 * (w / 2) + w % 2) v) := by
  obtain ⟨r1, r2, r3, r4, r5, r6, r7⟩ := r
  have s : smR a (upN a (10 + 8 * (w / 2) + w % 2) v) := by
    rw [show 10 + 8 * (w / 2) + w % 2 = 8 + 8 * (w / 2) + (2 + w % 2) by omega]; exact smR.up (by omega) (by omega)
  refine ⟨?_, ?_, ?_, ?_, fun l hl => ?_, fun i hi => ?_, fun u hu => ?_⟩
  · rw [sI_r, if_neg (by omega), s.1]; exact r1
  · rw [sI_r, if_neg (by omega), s.2.1]; exact r2
  · rw [sI_r, if_neg (by omega), show upN a (10 + 8 * (w / 2) + w % 2) v 2 = a 2 by unfold upN; rw [if_neg (by omega)]]; exact r3
  · rw [sI_r, if_neg (by omega), s.2.2.1]; exact r4
  · rw [sI_r, if_neg (by omega), s.2.2.2.2]; exact r5 l hl
  · rw [s.2.2.1] at hi
    have := r6 i hi
    obtain ⟨s1, s2, s3, s4⟩ := s.2.2.2.1 i
    unfold gMk at this ⊢
    rw [sI_r, if_neg (by omega), sI_r, if_neg (by omega), s1, s2, s3, s4]
    exact this
  · rw [s.2.2.1] at hu
    rw [sI_r, sI_r, mvw_upW, wtw_upW]
    by_cases e : u = w
    · rw [if_neg (by omega), if_pos ⟨rfl, e⟩, if_pos e]; exact ⟨(r7 u hu).1, rfl⟩
    · rw [if_neg (by omega), if_neg (fun z => e z.2), if_neg e]; exact r7 u hu
theorem RX.st {x : HT} {j : Nat} {a : Nat → Nat} (r : RX x j a) (v : Nat) : RX (sI x (7 * j + 1) 2 (nI v)) j (upN a 2 v) := by
  obtain ⟨r1, r2, r3, r4, r5, r6, r7⟩ := r
  have s : smR a (upN a 2 v) := smR.up2
  refine ⟨?_, ?_, ?_, ?_, fun l hl => ?_, fun i hi => ?_, fun u hu => ?_⟩
  · rw [sI_r, if_neg (by omega), s.1]; exact r1
  · rw [sI_r, if_neg (by omega), s.2.1]; exact r2
  · rw [sI_r, if_pos ⟨rfl, rfl⟩, upN, if_pos rfl]
  · rw [sI_r, if_neg (by omega), s.2.2.1]; exact r4
  · rw [sI_r, if_neg (by omega), s.2.2.2.2]; exact r5 l hl
  · rw [s.2.2.1] at hi
    have := r6 i hi
    obtain ⟨s1, s2, s3, s4⟩ := s.2.2.2.1 i
    unfold gMk at this ⊢
    rw [sI_r, if_neg (by omega), sI_r, if_neg (by omega), s1, s2, s3, s4]
    exact this
  · rw [s.2.2.1] at hu
    rw [sI_r, sI_r, if_neg (by omega), if_neg (by omega), mvw_up2, wtw_up2]; exact r7 u hu
theorem x_isStopped {F j : Nat} {x : HT} {a : Nat → Nat} (h : RX x j a) (k : WF1 a) (hW : WX x a) (hT : TK x a) {w : Nat} (hw : w < 2 * a 3) : fX4_isStopped F j x (nI w) = some (if blk a w = true then 1 else 0, x) := by
  obtain ⟨b1, b2, b3, b4, b5, b6⟩ := k.b hw
  unfold fX4_isStopped fX4_isStopped_47
  rw [blk_eq k.1 hw, ckb (inb_nI (by omega) (by omega)), clamp_nI (by omega), (h.2.2.2.2.2.2 w hw).1, lts, bds (x_channelsOf k.1.2.1 hW hw), ite_lt (by omega) (by omega)]
  by_cases e : mvw a w < wN a w
  · have hc := chn_lt k.1 hw e
    have p1 := (wP_lt k.1 hw (j := mvw a w) (by omega)).2
    rw [if_pos e, bds (x_channelOf k hW hw e), chn, bds (x_isDown h k.2.2 p1 dirOf_lt)]
    rw [chn] at hc
    by_cases e2 : dnB a (wP a w (mvw a w)) (dirOf (a 0) (a 1) (wP a w (mvw a w)) (wP a w (mvw a w + 1))) = true
    · rw [if_pos e2, if_neg (by decide), if_pos (by simp [e, dwK, e2])]
    · have e2' := Bool.eq_false_iff.mpr e2
      rw [if_neg e2, if_pos rfl, bds (x_isTaken hT hc)]
      by_cases e3 : hldC a (4 * wP a w (mvw a w) + dirOf (a 0) (a 1) (wP a w (mvw a w)) (wP a w (mvw a w + 1))) = true
      · rw [if_pos e3, if_neg (by decide), if_pos (by simp [e, e3])]
      · rw [if_neg e3, if_pos rfl, if_neg (by simp [dwK, e2', e3])]
  · rw [if_neg e, if_neg (by simp [e])]
theorem x_moveOn {F j : Nat} (hj : j < 8) {x : HT} {a : Nat → Nat} (h : RX x j a) (k : WF1 a) (hx : EX a) (hW : WX x a) (hT : TK x a) {w : Nat} (hw : w < 2 * a 3) (hnd : dnW a w = false) (hnb : blk a w = false) : ∃ x', fX4_moveOn F j x (nI w) = some ((), x') ∧ FrT j x x' ∧ RX x' j (gos a w) ∧ TK x' (gos a w) := by
  obtain ⟨b1, b2, b3, b4, b5, b6⟩ := k.b hw
  have hC := gos_C k hx hw hnd hnb
  have hgo : gos a w = upN a (8 + 8 * (w / 2) + w % 2) (mvw a w + 1) := by rw [gos, if_neg (by rw [hnd]; decide), if_neg (by rw [hnb]; decide)]
  -- the last part
  have last : ∀ y, Fr8 x y → (∀ c, c < 144 → y.1 88 c = if hldC (gos a w) c = true then 1 else 0) → ∃ x', fX4_moveOn_67 F j y (nI w) (nI (mvw a w)) = some ((), x') ∧ FrT j x x' ∧ RX x' j (gos a w) ∧ TK x' (gos a w) := by
    intro y hy ht
    unfold fX4_moveOn_67
    rw [ckb (inb_nI (by omega) (by omega)), clamp_nI (by omega), lts, nI_1]
    refine ⟨_, rfl, hy.t.tr frT_6, ?_, fun c hc => ?_⟩
    · rw [hgo]; exact (hy.rx hj h).mv b1 _
    · rw [sI_r, if_neg (by omega)]; exact ht c hc
  -- the tail
  have tail : ∀ y, Fr8 x y → (∀ c, c < 144 → y.1 88 c = if (if mvw a w < wN a w ∧ c = chn a w (mvw a w) then true else hldC a c) = true then 1 else 0) → ∃ x', fX4_moveOn_40 F j y (nI w) (nI (mvw a w)) (nI (mvw a w) - nI (lnw a w)) = some ((), x') ∧ FrT j x x' ∧ RX x' j (gos a w) ∧ TK x' (gos a w) := by
    intro y hy ht
    unfold fX4_moveOn_40
    have hWy := hy.wx k.1.2.1 hW
    by_cases e : lnw a w ≤ mvw a w
    · rw [sub_nI e, if_neg (nI_pos (by omega)), bds (x_channelsOf k.1.2.1 hWy hw), ite_le (by omega) (by omega)]
      by_cases e2 : wN a w ≤ mvw a w - lnw a w
      · rw [if_pos e2]
        exact last y hy (fun c hc => by rw [ht c hc, show hldC (gos a w) c = _ from (hC c).trans (if_neg (fun z => by omega))])
      · have hc9 := chn_lt k.1 hw (j := mvw a w - lnw a w) (by omega)
        rw [if_neg e2, bds (x_channelOf k hWy hw (by omega)), bds (x_mark hc9 0), nar0]
        refine last _ (hy.tr fr8_s) (fun c hc => ?_)
        rw [sI_r]
        by_cases e3 : c = chn a w (mvw a w - lnw a w)
        · rw [if_pos ⟨rfl, e3⟩, show hldC (gos a w) c = _ from (hC c).trans (if_pos ⟨e, by omega, e3⟩)]; rfl
        · rw [if_neg (fun z => e3 z.2), show hldC (gos a w) c = _ from (hC c).trans (if_neg (fun z => e3 z.2.2)), ht c hc]
    · rw [if_pos (pk_sneg (by omega) (by omega))]
      exact last y hy (fun c hc => by rw [ht c hc, show hldC (gos a w) c = _ from (hC c).trans (if_neg (fun z => e z.1))])
  unfold fX4_moveOn
  rw [ckb (inb_nI (by omega) (by omega)), clamp_nI (by omega), (h.2.2.2.2.2.2 w hw).1, lts, bds (x_lengthOf h k.1.2.1 hw), lts, bds (x_channelsOf k.1.2.1 hW hw), ite_le (by omega) (by omega)]
  by_cases e : wN a w ≤ mvw a w
  · rw [if_pos e]
    exact tail x Fr8.rf (fun c hc => by rw [show (if mvw a w < wN a w ∧ c = chn a w (mvw a w) then true else hldC a c) = hldC a c from if_neg (fun z => by omega)]; exact hT c hc)
  · have hc9 := chn_lt k.1 hw (j := mvw a w) (by omega)
    rw [if_neg e, bds (x_channelOf k hW hw (by omega)), bds (x_mark hc9 1), nar1]
    refine tail _ fr8_s (fun c hc => ?_)
    rw [sI_r]
    by_cases e3 : c = chn a w (mvw a w)
    · rw [if_pos ⟨rfl, e3⟩, show (if mvw a w < wN a w ∧ c = chn a w (mvw a w) then true else hldC a c) = true from if_pos ⟨by omega, e3⟩]; rfl
    · rw [if_neg (fun z => e3 z.2), show (if mvw a w < wN a w ∧ c = chn a w (mvw a w) then true else hldC a c) = hldC a c from if_neg (fun z => e3 z.2)]; exact hT c hc
theorem TK.cg {x x' : HT} {a b : Nat → Nat} (h : TK x a) (he : ∀ c, x'.1 88 c = x.1 88 c) (hC : ∀ c, hldC b c = hldC a c) : TK x' b := fun c hc => by rw [he, hC]; exact h c hc
theorem x_step_l {F j : Nat} (hF : 1000 ≤ F) (hj : j < 8) {x0 : HT} {a : Nat → Nat} (k : WF1 a) (hx : EX a) : ∀ d w n x, w + d = 2 * a 3 → d < n → RX x j (gosN a w) → WX x (gosN a w) → TK x (gosN a w) → FrT j x0 x → ∃ x', fX4_stepOnce_5 F j n x (if mvB a w = true then 1 else 0) (nI w) = some (if mvB a (2 * a 3) = true then 1 else 0, x') ∧ FrT j x0 x' ∧ RX x' j (stp a) ∧ WX x' (stp a) ∧ TK x' (stp a) := by
  have h5 := k.1.2.1
  intro d
  induction d with
  | zero =>
    intro w n x hid hd hR hW hT hFr
    obtain ⟨n, rfl⟩ : ∃ n', n = n' + 1 := ⟨n - 1, by omega⟩
    obtain ⟨i1, i2, i3⟩ := gosN_ok k w (by omega)
    have ew : w = 2 * a 3 := by omega
    show ∃ x', fX4_stepOnce_5b F (fX4_stepOnce_5 F j n) j x _ _ = _ ∧ _
    unfold fX4_stepOnce_5b
    rw [bds (x_worms hR), i2.2.2.1, if_pos (by rw [le_nI (by omega) (by omega)]; omega), hR.2.2.1, i3, nI_1, lts, ckb (by split <;> rfl), ← ew]
    have es : stp a = upN (gosN a w) 2 (a 2 + 1) := by rw [stp, ew]
    rw [es]
    refine ⟨_, rfl, hFr.tr frT_2, hR.st _, frT_2.wx hj (by rw [i2.2.2.1]; exact h5) smR.up2 hW, hT.cg (fun c => by rw [sI_r, if_neg (by omega)]) (fun c => hld_C smR.up2 (fun _ _ => mvw_up2) c)⟩
  | succ d ih =>
    intro w n x hid hd hR hW hT hFr
    obtain ⟨n, rfl⟩ : ∃ n', n = n' + 1 := ⟨n - 1, by omega⟩
    obtain ⟨i1, i2, i3⟩ := gosN_ok k w (by omega)
    have hxw := gosN_EX k hx w (by omega)
    have hw : w < 2 * gosN a w 3 := by rw [i2.2.2.1]; omega
    have h53 : gosN a w 3 ≤ 5 := by rw [i2.2.2.1]; exact h5
    have eg : gosN a (w + 1) = gos (gosN a w) w := rfl
    have em : mvB a (w + 1) = (mvB a w || (!dnW (gosN a w) w && !blk (gosN a w) w)) := rfl
    have ih1 := ih (w + 1) n
    rw [eg, em] at ih1
    show ∃ x', fX4_stepOnce_5b F (fX4_stepOnce_5 F j n) j x _ _ = _ ∧ _
    unfold fX4_stepOnce_5b fX4_stepOnce_62
    rw [bds (x_worms hR), i2.2.2.1, if_neg (by rw [le_nI (by omega) (by omega)]; omega), bds (x_isDone hR i1 hW hw)]
    by_cases e : dnW (gosN a w) w = true
    · rw [if_pos e, if_neg (by decide), lts, nI_1]
      have e2 : gos (gosN a w) w = gosN a w := by rw [gos, if_pos e]
      rw [e2, e] at ih1
      simp only [Bool.not_true, Bool.false_and, Bool.or_false] at ih1
      exact ih1 x (by omega) (by omega) hR hW hT hFr
    · have e' := Bool.eq_false_iff.mpr e
      rw [if_neg e, if_pos rfl, bds (x_isStopped hR i1 hW hT hw)]
      by_cases eb : blk (gosN a w) w = true
      · rw [if_pos eb, if_neg (by decide), ckb (inb_nI (by omega) (by omega)), ckb (inb_nI (by omega) (by omega)), clamp_nI (by omega), (hR.2.2.2.2.2.2 w hw).2, nI_1, lts, lts, nI_1]
        have e2 : gos (gosN a w) w = upN (gosN a w) (10 + 8 * (w / 2) + w % 2) (wtw (gosN a w) w + 1) := by rw [gos, if_neg e, if_pos eb]
        have s2 := gos_sm (a := gosN a w) (w := w) (by omega)
        rw [eb, e'] at ih1
        simp only [Bool.not_true, Bool.and_false, Bool.or_false] at ih1
        refine ih1 _ (by omega) (by omega) (by rw [e2]; exact hR.wt (by omega) _) (frT_7.wx hj h53 s2 hW) (hT.cg (fun c => by rw [sI_r, if_neg (by omega)]) (fun c => hld_C s2 (fun v _ => by rw [e2, mvw_upW]) c)) (hFr.tr frT_7)
      · have eb' := Bool.eq_false_iff.mpr eb
        obtain ⟨x1, q1, q2, q3, q4⟩ := x_moveOn (F := F) hj hR i1 hxw hW hT hw e' eb'
        rw [if_neg eb, if_pos rfl, bds q1, lts, nI_1]
        rw [eb', e'] at ih1
        simp only [Bool.not_false, Bool.and_true, Bool.or_true, if_true] at ih1
        exact ih1 x1 (by omega) (by omega) q3 (q2.wx hj h53 (gos_sm (by omega)) hW) q4 (hFr.tr q2)
theorem x_stepOnce {F j : Nat} (hF : 1000 ≤ F) (hj : j < 8) {x : HT} {a : Nat → Nat} (k : WF1 a) (hx : EX a) (hR : RX x j a) (hW : WX x a) (hT : TK x a) : ∃ x', fX4_stepOnce F j x = some (if mvB a (2 * a 3) = true then 1 else 0, x') ∧ FrT j x x' ∧ RX x' j (stp a) ∧ WX x' (stp a) ∧ TK x' (stp a) := by
  have h5 := k.1.2.1
  exact x_step_l hF hj k hx (2 * a 3) 0 F x (by omega) (by omega) hR hW hT FrT.rf
def wtK (b : Nat → Nat) (n : Nat) : Nat → (Nat → Nat)
  | 0 => upN b 2 (b 2 + n)
  | w + 1 => if dnW b w = true then wtK b n w else upN (wtK b n w) (10 + 8 * (w / 2) + w % 2) (wtw b w + n)
theorem wtK_ok {b : Nat → Nat} {n : Nat} : ∀ W, W ≤ 10 → smR b (wtK b n W) ∧ wtK b n W 2 = b 2 + n ∧ (∀ v, mvw (wtK b n W) v = mvw b v) ∧ ∀ v, wtw (wtK b n W) v = if v < W ∧ dnW b v = false then wtw b v + n else wtw b v
  | 0, _ => ⟨smR.up2, by rw [wtK, upN, if_pos rfl], fun v => mvw_up2, fun v => by rw [if_neg (by omega)]; exact wtw_up2⟩
  | W + 1, hW => by
    obtain ⟨h1, h2, h3, h4⟩ := wtK_ok (b := b) (n := n) W (by omega)
    by_cases e : dnW b W = true
    · rw [wtK, if_pos e]
      refine ⟨h1, h2, h3, fun v => ?_⟩
      rw [h4]
      by_cases c : v < W ∧ dnW b v = false
      · rw [if_pos c, if_pos ⟨by omega, c.2⟩]
      · rw [if_neg c, if_neg (fun z => by
          by_cases q : v = W
          · subst q; rw [e] at z; cases z.2
          · exact c ⟨by omega, z.2⟩)]
    · rw [wtK, if_neg e]
      refine ⟨h1.tr (by rw [show 10 + 8 * (W / 2) + W % 2 = 8 + 8 * (W / 2) + (2 + W % 2) by omega]; exact smR.up (by omega) (by omega)), ?_, fun v => by rw [mvw_upW, h3], fun v => ?_⟩
      · unfold upN; rw [if_neg (by omega)]; exact h2
      · rw [wtw_upW, h4]
        by_cases q : v = W
        · subst q; rw [if_pos rfl, if_pos ⟨by omega, Bool.eq_false_iff.mpr e⟩]
        · rw [if_neg q]
          by_cases c : v < W ∧ dnW b v = false
          · rw [if_pos c, if_pos ⟨by omega, c.2⟩]
          · rw [if_neg c, if_neg (fun z => c ⟨by omega, z.2⟩)]
theorem wtK_eq {b : Nat → Nat} {n : Nat} (k : WF1 b) (hs : stk b) : eqR (wtK b n (2 * b 3)) (itS b n) := by
  have h5 := k.1.2.1
  obtain ⟨h1, h2, h3, h4⟩ := wtK_ok (b := b) (n := n) (2 * b 3) (by omega)
  obtain ⟨-, g2, g3, g4⟩ := stk_i k hs n
  have s := (itS_ok k n).2
  have s' : smR (wtK b n (2 * b 3)) (itS b n) := ⟨by rw [s.1, h1.1], by rw [s.2.1, h1.2.1], by rw [s.2.2.1, h1.2.2.1], fun i => by
    obtain ⟨a1, a2, a3, a4⟩ := s.2.2.2.1 i
    obtain ⟨c1, c2, c3, c4⟩ := h1.2.2.2.1 i
    exact ⟨by rw [a1, c1], by rw [a2, c2], by rw [a3, c3], by rw [a4, c4]⟩, fun l => by rw [s.2.2.2.2, h1.2.2.2.2]⟩
  refine ⟨s', by rw [g4, h2], fun w hw => ⟨by rw [g2, h3], ?_⟩⟩
  rw [h1.2.2.1] at hw
  rw [g3 w hw, h4]
  by_cases c : dnW b w = false
  · rw [if_pos c, if_pos ⟨hw, c⟩]
  · rw [if_neg c, if_neg (fun z => c z.2)]; rfl
theorem x_wait_l {F j : Nat} (hj : j < 8) {x0 : HT} {b : Nat → Nat} (k : WF1 b) {N : Nat} : ∀ d w n x, w + d = 2 * b 3 → d < n → RX x j (wtK b N w) → WX x (wtK b N w) → FrT j x0 x → ∃ x', fX4_waitFor_13 F j n x (nI N) (nI w) = some ((), x') ∧ FrT j x0 x' ∧ RX x' j (wtK b N (2 * b 3)) ∧ WX x' (wtK b N (2 * b 3)) := by
  have h5 := k.1.2.1
  intro d
  induction d with
  | zero =>
    intro w n x hid hd hR hW hFr
    obtain ⟨n, rfl⟩ : ∃ n', n = n' + 1 := ⟨n - 1, by omega⟩
    obtain ⟨h1, h2, h3, h4⟩ := wtK_ok (b := b) (n := N) w (by omega)
    have ew : w = 2 * b 3 := by omega
    show ∃ x', fX4_waitFor_13b F (fX4_waitFor_13 F j n) j x _ _ = _ ∧ _
    unfold fX4_waitFor_13b
    rw [bds (x_worms hR), h1.2.2.1, if_pos (by rw [le_nI (by omega) (by omega)]; omega), ← ew]
    exact ⟨x, rfl, hFr, hR, hW⟩
  | succ d ih =>
    intro w n x hid hd hR hW hFr
    obtain ⟨n, rfl⟩ : ∃ n', n = n' + 1 := ⟨n - 1, by omega⟩
    obtain ⟨h1, h2, h3, h4⟩ := wtK_ok (b := b) (n := N) w (by omega)
    have hw : w < 2 * wtK b N w 3 := by rw [h1.2.2.1]; omega
    have kw : WF1 (wtK b N w) := ⟨h1.wf0 k.1, fun v hv => by
      have := k.2.1 v (by rw [← h1.2.2.1]; exact hv)
      unfold okV at this ⊢
      rw [h1.e_n, h1.ln, h3]
      exact this, h1.e_d k.2.2⟩
    have hd1 : dnW (wtK b N w) w = dnW b w := dnW_cg h1 (h3 w)
    have ih1 := ih (w + 1) n
    rw [wtK] at ih1
    show ∃ x', fX4_waitFor_13b F (fX4_waitFor_13 F j n) j x _ _ = _ ∧ _
    unfold fX4_waitFor_13b fX4_waitFor_43
    rw [bds (x_worms hR), h1.2.2.1, if_neg (by rw [le_nI (by omega) (by omega)]; omega), bds (x_isDone hR kw hW hw), hd1]
    by_cases e : dnW b w = true
    · rw [if_pos e] at ih1
      rw [if_pos e, if_neg (by decide), lts, nI_1]
      exact ih1 x (by omega) (by omega) hR hW hFr
    · rw [if_neg e] at ih1
      rw [if_neg e, if_pos rfl, ckb (inb_nI (by omega) (by omega)), ckb (inb_nI (by omega) (by omega)), clamp_nI (by omega), (hR.2.2.2.2.2.2 w hw).2, h4, if_neg (by omega), nI_add, lts, lts, nI_1]
      refine ih1 _ (by omega) (by omega) (hR.wt (by omega) _) (frT_7.wx hj (by rw [h1.2.2.1]; exact h5) ?_ hW) (hFr.tr frT_7)
      rw [show 10 + 8 * (w / 2) + w % 2 = 8 + 8 * (w / 2) + (2 + w % 2) by omega]; exact smR.up (by omega) (by omega)
theorem x_waitFor {F j : Nat} (hF : 1000 ≤ F) (hj : j < 8) {x : HT} {b : Nat → Nat} (k : WF1 b) (hs : stk b) (hR : RX x j b) (hW : WX x b) (N : Nat) : ∃ x', fX4_waitFor F j x (nI N) = some ((), x') ∧ FrT j x x' ∧ RX x' j (itS b N) ∧ WX x' (itS b N) := by
  have h5 := k.1.2.1
  obtain ⟨h1, -, -, -⟩ := wtK_ok (b := b) (n := N) (2 * b 3) (by omega)
  have he := wtK_eq (n := N) k hs
  unfold fX4_waitFor
  rw [hR.2.2.1, nI_add, lts]
  obtain ⟨x', e1, f1, r1, w1⟩ := x_wait_l (F := F) hj (x0 := x) (N := N) k (2 * b 3) 0 F _ (by omega) (by omega) (hR.st (b 2 + N)) (frT_2.wx hj h5 smR.up2 hW) frT_2
  exact ⟨x', e1, f1, r1.cg he, (FrT.rf (j := j)).wx hj (by rw [h1.2.2.1]; exact h5) he.1 w1⟩
theorem stk_of {a : Nat → Nat} (k : WF1 a) (h : mvB a (2 * a 3) = false) : stk a := (mvB_f k _ (Nat.le_refl _) h).2
theorem stk_s {a : Nat → Nat} (k : WF1 a) (h : stk a) : stk (stp a) := (stk_i k h 1).1
theorem x_run_l {F j : Nat} (hF : 1000 ≤ F) (hj : j < 8) {x0 : HT} : ∀ r n x (a : Nat → Nat), r < 1000 → r < n → WF1 a → EX a → RX x j a → WX x a → TK x a → FrT j x0 x → ∃ x', fX4_run_5 F j n x (nI r - 1) = some ((), x') ∧ FrT j x0 x' ∧ RX x' j (itS a r) ∧ WX x' (itS a r) := by
  intro r
  induction r with
  | zero =>
    intro n x a hr hn k hx hR hW hT hFr
    obtain ⟨n, rfl⟩ : ∃ n', n = n' + 1 := ⟨n - 1, by omega⟩
    show ∃ x', fX4_run_5b F (fX4_run_5 F j n) j x _ = _ ∧ _
    unfold fX4_run_5b
    rw [if_pos (by decide)]
    exact ⟨x, rfl, hFr, hR, hW⟩
  | succ r ih =>
    intro n x a hr hn k hx hR hW hT hFr
    obtain ⟨n, rfl⟩ : ∃ n', n = n' + 1 := ⟨n - 1, by omega⟩
    obtain ⟨x1, e1, f1, r1, w1, t1⟩ := x_stepOnce hF hj k hx hR hW hT
    show ∃ x', fX4_run_5b F (fX4_run_5 F j n) j x _ = _ ∧ _
    unfold fX4_run_5b
    rw [show nI (r + 1) - 1 = nI r from sub_nI (a := r + 1) (b := 1) (by omega), if_neg (nI_pos (by omega)), bds e1]
    by_cases e : mvB a (2 * a 3) = true
    · rw [if_pos e, if_neg (by decide), lts, ← itS_s, show nI r + -1 = nI r - 1 from by rw [Int32.sub_eq_add_neg]]
      exact ih n x1 (stp a) (by omega) (by omega) (stp_ok k).1 (stp_EX k hx) r1 w1 t1 (hFr.tr f1)
    · have hs := stk_of k (Bool.eq_false_iff.mpr e)
      obtain ⟨x2, e2, f2, r2, w2⟩ := x_waitFor hF hj (stp_ok k).1 (stk_s k hs) r1 w1 r
      rw [if_neg e, if_pos rfl, bds e2, ← itS_s]
      exact ⟨x2, rfl, (hFr.tr f1).tr f2, r2, w2⟩
theorem x_run {F j : Nat} (hF : 1000 ≤ F) (hj : j < 8) {x : HT} {a : Nat → Nat} (k : WF1 a) (hx : EX a) (hR : RX x j a) (hW : WX x a) (hT : TK x a) {N : Nat} (hN : N ≤ 200) : ∃ x', fX4_run F j x (nI N) = some ((), x') ∧ FrT j x x' ∧ RX x' j (itS a N) ∧ WX x' (itS a N) := by
  unfold fX4_run
  rw [lts]
  exact x_run_l hF hj N F x a (by omega) (by omega) k hx hR hW hT FrT.rf
