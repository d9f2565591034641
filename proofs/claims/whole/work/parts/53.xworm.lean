-- ===== the class: worms =====
def WX (x : HT) (a : Nat → Nat) : Prop := ∀ w, w < 2 * a 3 → x.1 64 w = nI (wN a w) ∧ CtX x (a 0) (a 1) w (wy a w)
def chn (a : Nat → Nat) (w k : Nat) : Nat := 4 * wP a w k + dirOf (a 0) (a 1) (wP a w k) (wP a w (k + 1))
theorem WX.n {x : HT} {a : Nat → Nat} (h : WX x a) {w : Nat} (hw : w < 2 * a 3) : x.1 64 w = nI (wN a w) := (h w hw).1
theorem WX.p {x : HT} {a : Nat → Nat} (h : WX x a) {w j : Nat} (hw : w < 2 * a 3) (hj : j ≤ wN a w) : x.1 (67 + w) j = nI (wP a w j) := (h w hw).2.1 j hj
theorem WX.c {x : HT} {a : Nat → Nat} (h : WX x a) {w j : Nat} (hw : w < 2 * a 3) (hj : j < wN a w) : x.1 (77 + w) j = nI (chn a w j) := (h w hw).2.2 j hj
theorem chn_lt {a : Nat → Nat} (k : WF0 a) {w j : Nat} (hw : w < 2 * a 3) (hj : j < wN a w) : chn a w j < 144 := by
  have := (wP_lt k hw (j := j) (by omega)).2
  have hd : dirOf (a 0) (a 1) (wP a w j) (wP a w (j + 1)) < 4 := dirOf_lt
  unfold chn
  omega
theorem x_headOf {F j : Nat} {x : HT} {a : Nat → Nat} (h : RX x j a) (k : WF1 a) (hW : WX x a) {w : Nat} (hw : w < 2 * a 3) : fX5_headOf F j x (nI w) = some (nI (hHead a w), x) := by
  obtain ⟨b1, b2, b3, b4, b5, b6⟩ := k.b hw
  unfold fX5_headOf
  rw [ckb (inb_nI (by omega) (by omega)), ckb (inb_nI (by omega) (by omega)), clamp_nI (by omega), hW.n hw, (h.2.2.2.2.2.2 w hw).1, ite_lt (by omega) (by omega), hHead]
  by_cases e : wN a w < mvw a w
  · rw [if_pos e, if_neg (by omega)]
  · rw [if_neg e]
    by_cases e2 : mvw a w < wN a w
    · rw [if_pos e2]
    · rw [if_neg e2, show mvw a w = wN a w by omega]
theorem x_tailOf {F j : Nat} {x : HT} {a : Nat → Nat} (h : RX x j a) (k : WF1 a) {w : Nat} (hw : w < 2 * a 3) : fX5_tailOf F j x (nI w) = some (nI (hTail a w), x) := by
  obtain ⟨b1, b2, b3, b4, b5, b6⟩ := k.b hw
  unfold fX5_tailOf
  rw [ckb (inb_nI (by omega) (by omega)), bds (x_lengthOf h k.1.2.1 hw), clamp_nI (by omega), (h.2.2.2.2.2.2 w hw).1, hTail]
  by_cases e : lnw a w ≤ mvw a w
  · rw [sub_nI e]
    by_cases e2 : 0 < mvw a w - lnw a w
    · rw [if_pos (by rw [n0, lt_nI (by omega) (by omega)]; exact e2)]
    · rw [if_neg (by rw [n0, lt_nI (by omega) (by omega)]; exact e2), show mvw a w - lnw a w = 0 by omega]
      rfl
  · have hs := pk_sneg (a := mvw a w) (b := lnw a w) (by omega) (by omega)
    rw [if_neg (fun q => Int32.lt_irrefl (Int32.lt_trans q hs)), show mvw a w - lnw a w = 0 by omega]
    rfl
theorem x_isDone {F j : Nat} {x : HT} {a : Nat → Nat} (h : RX x j a) (k : WF1 a) (hW : WX x a) {w : Nat} (hw : w < 2 * a 3) : fX5_isDone F j x (nI w) = some (if dnW a w = true then 1 else 0, x) := by
  obtain ⟨b1, b2, b3, b4, b5, b6⟩ := k.b hw
  have hv := k.2.1 w hw
  unfold fX5_isDone fX5_isDone_30
  rw [ckb (inb_nI (by omega) (by omega)), clamp_nI (by omega), hW.n hw, ite_e0 (by omega)]
  by_cases e : wN a w = 0
  · rw [if_pos e, if_pos (by simp [dnW, e])]
  · rw [if_neg e, ckb (inb_nI (by omega) (by omega)), ckb (inb_nI (by omega) (by omega)), bds (x_lengthOf h k.1.2.1 hw), (h.2.2.2.2.2.2 w hw).1, nI_add, ite_lt (by omega) (by omega)]
    by_cases e2 : mvw a w < wN a w + lnw a w
    · rw [if_pos e2, if_neg (by simp [dnW, e]; omega)]
    · have e3 : mvw a w = wN a w + lnw a w := by have := hv.1; omega
      rw [if_neg e2, if_pos (by simp [dnW, e3])]
theorem x_channelsOf {F : Nat} {x : HT} {a : Nat → Nat} (h5 : a 3 ≤ 5) (hW : WX x a) {w : Nat} (hw : w < 2 * a 3) : fX5_channelsOf F x (nI w) = some (nI (wN a w), x) := by
  unfold fX5_channelsOf
  rw [ckb (inb_nI (by omega) (by omega)), clamp_nI (by omega), hW.n hw]
theorem x_channelOf {F : Nat} {x : HT} {a : Nat → Nat} (k : WF1 a) (hW : WX x a) {w i : Nat} (hw : w < 2 * a 3) (hi : i < wN a w) : fX5_channelOf F x (nI w) (nI i) = some (nI (chn a w i), x) := by
  obtain ⟨b1, b2, b3, b4, b5, b6⟩ := k.b hw
  unfold fX5_channelOf
  rw [ckb (inb_nI (by omega) (by omega)), ckb (inb_nI (by omega) (by omega)), clamp_nI (by omega), clamp_nI (by omega), hW.c hw hi]
theorem x_placeOf {F : Nat} {x : HT} {a : Nat → Nat} (k : WF1 a) (hW : WX x a) {w i : Nat} (hw : w < 2 * a 3) (hi : i ≤ wN a w) : fX5_placeOf F x (nI w) (nI i) = some (nI (wP a w i), x) := by
  obtain ⟨b1, b2, b3, b4, b5, b6⟩ := k.b hw
  unfold fX5_placeOf
  rw [ckb (inb_nI (by omega) (by omega)), ckb (inb_nI (by omega) (by omega)), clamp_nI (by omega), clamp_nI (by omega), hW.p hw hi]
theorem and3_nI {n : Nat} (hn : n < 4294967296) : nI n &&& 3 = nI (n % 4) := pk_andN (by omega) (m := 3) 2 (by decide)
theorem bit0_nI {n j : Nat} (hn : n < 2147483648) (hj : j < 32) : ((nI n >>> (nI j &&& 31)) &&& 1 = 0) = (n.testBit j = false) := by
  have h1 : n / 2 ^ j ≤ n := Nat.div_le_self _ _
  rw [shr_nI hn hj, and1_nI (by omega), n0, eq_nI (by omega) (by omega)]
  have := tb_dm n j
  simp only [eq_iff_iff] at this ⊢
  rw [Bool.eq_false_iff, Ne, this]
  omega
theorem x_isDown {F j : Nat} {x : HT} {a : Nat → Nat} (h : RX x j a) (hD : okD a) {l d : Nat} (hl : l < 36) (hd : d < 4) : fX2_isDown F j x (nI (4 * l + d)) = some (if dnB a l d = true then 1 else 0, x) := by
  have h16 := (hD l hl).1
  unfold fX2_isDown fX2_isDown_32
  rw [if_neg (nI_pos (by omega)), if_neg (by rw [n144, le_nI (by omega) (by omega)]; omega), shr2_nI (by omega), show (4 * l + d) / 4 = l by omega, ckb (inb_nI (by omega) (by omega)), clamp_nI (by omega), h.2.2.2.2.1 l hl, and3_nI (by omega), show (4 * l + d) % 4 = d by omega]
  by_cases e : dnB a l d = true
  · rw [if_pos e, if_neg (by rw [bit0_nI (by omega) (by omega)]; intro q; unfold dnB at e; rw [e] at q; cases q)]
  · rw [if_neg e, if_pos (by rw [bit0_nI (by omega) (by omega)]; exact Bool.eq_false_iff.mpr e)]
-- ===== what is held, by channels =====
def hldK (a : Nat → Nat) (w c : Nat) : Bool := anyK (fun k => decide (hTail a w ≤ k) && decide (chn a w k = c)) (hHead a w)
def hldC (a : Nat → Nat) (c : Nat) : Bool := anyK (fun w => hldK a w c) (2 * a 3)
def TK (x : HT) (a : Nat → Nat) : Prop := ∀ c, c < 144 → x.1 88 c = if hldC a c = true then 1 else 0
def Fr8 (x x' : HT) : Prop := x'.2 = x.2 ∧ ∀ c q, c ≠ 88 → x'.1 c q = x.1 c q
theorem Fr8.rf {x : HT} : Fr8 x x := ⟨rfl, fun _ _ _ => rfl⟩
theorem Fr8.tr {x y z : HT} (h : Fr8 x y) (g : Fr8 y z) : Fr8 x z := ⟨g.1.trans h.1, fun c q a => (g.2 c q a).trans (h.2 c q a)⟩
theorem fr8_s {x : HT} {q : Nat} {v : Int32} : Fr8 x (sI x 88 q v) := ⟨rfl, fun c p hc => by rw [sI_r, if_neg (fun z => hc z.1)]⟩
theorem Fr8.rx {x x' : HT} {j : Nat} {a : Nat → Nat} (hj : j < 8) (h : Fr8 x x') (r : RX x j a) : RX x' j a := by
  obtain ⟨r1, r2, r3, r4, r5, r6, r7⟩ := r
  refine ⟨?_, ?_, ?_, ?_, fun l hl => ?_, fun i hi => ?_, fun v hv => ?_⟩
  · rw [h.2 _ _ (by omega)]; exact r1
  · rw [h.2 _ _ (by omega)]; exact r2
  · rw [h.2 _ _ (by omega)]; exact r3
  · rw [h.2 _ _ (by omega)]; exact r4
  · rw [h.2 _ _ (by omega)]; exact r5 l hl
  · rw [h.2 _ _ (by omega), h.2 _ _ (by omega), h.1]; exact r6 i hi
  · rw [h.2 _ _ (by omega), h.2 _ _ (by omega)]; exact r7 v hv
theorem Fr8.wx {x x' : HT} {a : Nat → Nat} (h5 : a 3 ≤ 5) (h : Fr8 x x') (r : WX x a) : WX x' a := by
  intro w hw
  obtain ⟨r1, r2, r3⟩ := r w hw
  exact ⟨by rw [h.2 _ _ (by omega)]; exact r1, fun j hj => by rw [h.2 _ _ (by omega)]; exact r2 j hj, fun j hj => by rw [h.2 _ _ (by omega)]; exact r3 j hj⟩
theorem nar0 : vp_nar .boolean 0 = 0 := rfl
theorem nar1 : vp_nar .boolean 1 = 1 := rfl
theorem x_mark {F : Nat} {x : HT} {c : Nat} (hc : c < 144) (v : Int32) : fX4_mark F x (nI c) v = some ((), sI x 88 c (vp_nar .boolean v)) := by
  unfold fX4_mark
  rw [if_neg (nI_pos (by omega)), if_neg (by rw [n144, le_nI (by omega) (by omega)]; omega), ckb (inb_nI (by omega) (by omega)), clamp_nI (by omega), lts]
theorem x_isTaken {F : Nat} {x : HT} {a : Nat → Nat} (hT : TK x a) {c : Nat} (hc : c < 144) : fX4_isTaken F x (nI c) = some (if hldC a c = true then 1 else 0, x) := by
  unfold fX4_isTaken fX4_isTaken_24
  rw [if_neg (nI_pos (by omega)), if_neg (by rw [n144, le_nI (by omega) (by omega)]; omega), ckb (inb_nI (by omega) (by omega)), clamp_nI (by omega), hT c hc]
  by_cases e : hldC a c = true
  · rw [if_pos e, if_neg (by decide)]
  · rw [if_neg e, if_pos rfl]
theorem x_ent40 {F j : Nat} (hj : j < 8) {x0 : HT} {a : Nat → Nat} (k : WF1 a) {w : Nat} (hw : w < 2 * a 3) {B : Nat → Bool} (rec24 : HT → Int32 → Option (Unit × HT)) : ∀ d i n x, (i + d = hHead a w ∨ (d = 0 ∧ hHead a w ≤ i)) → hTail a w ≤ i → i < 100 → d < n → RX x j a → WX x a → Fr8 x0 x → (∀ c, c < 144 → x.1 88 c = if (B c || anyK (fun k => decide (hTail a w ≤ k) && decide (chn a w k = c)) (if i ≤ hHead a w then i else hHead a w)) = true then 1 else 0) →
    ∃ x', fX4_enter_40 F rec24 j n x (nI w) (nI i) = rec24 x' (nI (w + 1)) ∧ Fr8 x0 x' ∧ RX x' j a ∧ WX x' a ∧ ∀ c, c < 144 → x'.1 88 c = if (B c || hldK a w c) = true then 1 else 0 := by
  obtain ⟨b1, b2, b3, b4, b5, b6⟩ := k.b hw
  have hh := hHead_le (a := a) (w := w)
  intro d
  induction d with
  | zero =>
    intro i n x hid hti hi hd hR hW f0 hT
    obtain ⟨n, rfl⟩ : ∃ n', n = n' + 1 := ⟨n - 1, by omega⟩
    have e : (if i ≤ hHead a w then i else hHead a w) = hHead a w := by split <;> omega
    rw [e] at hT
    show ∃ x', fX4_enter_40b F rec24 (fX4_enter_40 F rec24 j n) j x _ _ = _ ∧ _
    unfold fX4_enter_40b
    rw [bds (x_headOf hR k hW hw), if_pos (by rw [le_nI (by omega) (by omega)]; omega), lts, nI_1]
    exact ⟨x, rfl, f0, hR, hW, hT⟩
  | succ d ih =>
    intro i n x hid hti hi hd hR hW f0 hT
    obtain ⟨n, rfl⟩ : ∃ n', n = n' + 1 := ⟨n - 1, by omega⟩
    have hlt : i < hHead a w := by omega
    have hc := chn_lt k.1 hw (j := i) (by omega)
    rw [if_pos (by omega)] at hT
    show ∃ x', fX4_enter_40b F rec24 (fX4_enter_40 F rec24 j n) j x _ _ = _ ∧ _
    unfold fX4_enter_40b
    rw [bds (x_headOf hR k hW hw), if_neg (by rw [le_nI (by omega) (by omega)]; omega), bds (x_channelOf k hW hw (by omega)), bds (x_mark hc 1), lts, nI_1, nar1]
    refine ih (i + 1) n _ (by omega) (by omega) (by omega) (by omega) (fr8_s.rx hj hR) (fr8_s.wx k.1.2.1 hW) (f0.tr fr8_s) (fun c hc9 => ?_)
    rw [sI_r, if_pos (show i + 1 ≤ hHead a w by omega), anyK]
    by_cases e : c = chn a w i
    · rw [if_pos ⟨rfl, e⟩, if_pos (by simp [e, hti])]
    · have e' : ¬ chn a w i = c := fun q => e q.symm
      rw [if_neg (fun z => e z.2), hT c hc9]
      simp [e']
theorem x_ent24 {F j : Nat} (hF : 1000 ≤ F) (hj : j < 8) {x0 : HT} {a : Nat → Nat} (k : WF1 a) : ∀ d w n x, w + d = 2 * a 3 → d < n → RX x j a → WX x a → Fr8 x0 x → (∀ c, c < 144 → x.1 88 c = if anyK (fun w => hldK a w c) w = true then 1 else 0) →
    ∃ x', fX4_enter_24 F j n x (nI w) = some ((), x') ∧ Fr8 x0 x' ∧ TK x' a := by
  have h5 := k.1.2.1
  intro d
  induction d with
  | zero =>
    intro w n x hid hd hR hW f0 hT
    obtain ⟨n, rfl⟩ : ∃ n', n = n' + 1 := ⟨n - 1, by omega⟩
    show ∃ x', fX4_enter_24b F (fX4_enter_24 F j n) j x _ = _ ∧ _
    unfold fX4_enter_24b
    rw [bds (x_worms hR), if_pos (by rw [le_nI (by omega) (by omega)]; omega)]
    refine ⟨x, rfl, f0, fun c hc => ?_⟩
    rw [hT c hc, hldC, show w = 2 * a 3 by omega]
  | succ d ih =>
    intro w n x hid hd hR hW f0 hT
    obtain ⟨n, rfl⟩ : ∃ n', n = n' + 1 := ⟨n - 1, by omega⟩
    have hw : w < 2 * a 3 := by omega
    obtain ⟨b1, b2, b3, b4, b5, b6⟩ := k.b hw
    have hh := hHead_le (a := a) (w := w)
    have ht9 : hTail a w ≤ 44 := by unfold hTail; omega
    obtain ⟨x1, e1, f1, r1, w1, t1⟩ := x_ent40 (F := F) hj (x0 := x0) k hw (B := fun c => anyK (fun w => hldK a w c) w) (fX4_enter_24 F j n) (hHead a w - hTail a w) (hTail a w) F x (by omega) (Nat.le_refl _) (by omega) (by omega) hR hW f0 (fun c hc => by
      have e0 : anyK (fun k => decide (hTail a w ≤ k) && decide (chn a w k = c)) (if hTail a w ≤ hHead a w then hTail a w else hHead a w) = false := anyK_no (fun k hk => by
        have : ¬ hTail a w ≤ k := by split at hk <;> omega
        simp [this])
      rw [e0, Bool.or_false]
      exact hT c hc)
    show ∃ x', fX4_enter_24b F (fX4_enter_24 F j n) j x _ = _ ∧ _
    unfold fX4_enter_24b
    rw [bds (x_worms hR), if_neg (by rw [le_nI (by omega) (by omega)]; omega), bds (x_tailOf hR k hw), e1]
    exact ih (w + 1) n x1 (by omega) (by omega) r1 w1 f1 t1
theorem x_ent2 {F j : Nat} (hF : 1000 ≤ F) (hj : j < 8) {x0 : HT} {a : Nat → Nat} (k : WF1 a) : ∀ d c n x, c + d = 144 → d < n → RX x j a → WX x a → Fr8 x0 x → (∀ q, q < c → x.1 88 q = 0) → ∃ x', fX4_enter_2 F j n x (nI c) = some ((), x') ∧ Fr8 x0 x' ∧ TK x' a := by
  have h5 := k.1.2.1
  intro d
  induction d with
  | zero =>
    intro c n x hid hd hR hW f0 hT
    obtain ⟨n, rfl⟩ : ∃ n', n = n' + 1 := ⟨n - 1, by omega⟩
    show ∃ x', fX4_enter_2b F (fX4_enter_2 F j n) j x _ = _ ∧ _
    unfold fX4_enter_2b
    rw [if_pos (by rw [n144, le_nI (by omega) (by omega)]; omega)]
    exact x_ent24 hF hj (x0 := x0) k (2 * a 3) 0 F x (by omega) (by omega) hR hW f0 (fun c' hc' => by rw [hT c' (by omega)]; rfl)
  | succ d ih =>
    intro c n x hid hd hR hW f0 hT
    obtain ⟨n, rfl⟩ : ∃ n', n = n' + 1 := ⟨n - 1, by omega⟩
    show ∃ x', fX4_enter_2b F (fX4_enter_2 F j n) j x _ = _ ∧ _
    unfold fX4_enter_2b
    rw [if_neg (by rw [n144, le_nI (by omega) (by omega)]; omega), ckb (inb_nI (by omega) (by omega)), clamp_nI (by omega), lts, lts, nI_1, nar0]
    refine ih (c + 1) n _ (by omega) (by omega) (fr8_s.rx hj hR) (fr8_s.wx h5 hW) (f0.tr fr8_s) (fun q hq => ?_)
    rw [sI_r]
    by_cases e : q = c
    · rw [if_pos ⟨rfl, e⟩]
    · rw [if_neg (fun z => e z.2)]; exact hT q (by omega)
theorem x_enter {F j : Nat} (hF : 1000 ≤ F) (hj : j < 8) {x : HT} {a : Nat → Nat} (k : WF1 a) (hR : RX x j a) (hW : WX x a) : ∃ x', fX4_enter F j x = some ((), x') ∧ Fr8 x x' ∧ TK x' a :=
  x_ent2 hF hj k 144 0 F x (by omega) (by omega) hR hW Fr8.rf (fun q hq => absurd hq (Nat.not_lt_zero q))
