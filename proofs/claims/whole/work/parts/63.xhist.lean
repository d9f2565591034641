-- ===== the class: digest =====
def xTld (x : HT) (q : Nat) : Int32 := if q = 0 then x.1 0 8 else if q = 1 then x.1 0 9 else if q = 2 then x.1 0 10 else if q = 3 then x.1 89 1 else x.1 57 2
theorem x_toldFact {F : Nat} {x : HT} {q : Nat} (hq : q < 5) : fX6_toldFact F x (nI q) = some (xTld x q, x) := by
  unfold fX6_toldFact xTld fX3_size fX1_size
  rw [ite_n n0 (by omega) (by omega), ite_n n1 (by omega) (by omega), ite_n n2 (by omega) (by omega), ite_n n3 (by omega) (by omega), bdk, bdk]
  by_cases e0 : q = 0
  · rw [if_pos e0, if_pos e0]
  rw [if_neg e0, if_neg e0]
  by_cases e1 : q = 1
  · rw [if_pos e1, if_pos e1]
  rw [if_neg e1, if_neg e1]
  by_cases e2 : q = 2
  · rw [if_pos e2, if_pos e2]
  rw [if_neg e2, if_neg e2]
  by_cases e3 : q = 3
  · rw [if_pos e3, if_pos e3]
  rw [if_neg e3, if_neg e3]
theorem x_dig88 {F : Nat} {x : HT} {a : Nat → Nat} (k : WF1 a) (h : CX x a) {w : Nat} (hw : w < 2 * a 3) {I : Int32} {g : Int64} (rec41 : HT → Int32 → Int64 → Int32 → Option (Int64 × HT)) : ∀ d j n, j + d = wN a w + 1 → d < n → fX6_digestMessage_88 F rec41 n x I (hsh g (fun j => nI (tel (a 0) (wP a w j))) j) (nI w) (nI j) = rec41 x I (hsh g (fun j => nI (tel (a 0) (wP a w j))) (wN a w + 1)) (nI (w + 1)) := by
  obtain ⟨hR, hG, hW⟩ := h
  obtain ⟨b1, b2, b3, b4, b5, b6⟩ := k.b hw
  intro d
  induction d with
  | zero =>
    intro j n hid hd
    obtain ⟨n, rfl⟩ : ∃ n', n = n' + 1 := ⟨n - 1, by omega⟩
    show fX6_digestMessage_88b F rec41 (fX6_digestMessage_88 F rec41 n) x _ _ _ _ = _
    unfold fX6_digestMessage_88b
    rw [bds (x_channelsOf k.1.2.1 hW hw), if_pos (by rw [lt_nI (by omega) (by omega)]; omega), lts, nI_1, show j = wN a w + 1 by omega]
  | succ d ih =>
    intro j n hid hd
    obtain ⟨n, rfl⟩ : ∃ n', n = n' + 1 := ⟨n - 1, by omega⟩
    have p1 := (wP_lt k.1 hw (j := j) (by omega)).1
    show fX6_digestMessage_88b F rec41 (fX6_digestMessage_88 F rec41 n) x _ _ _ _ = _
    unfold fX6_digestMessage_88b
    rw [bds (x_channelsOf k.1.2.1 hW hw), if_neg (by rw [lt_nI (by omega) (by omega)]; omega), bds (x_placeOf k hW hw (by omega)), bds (x_tell k.1.1 hG p1), lts, lts, nI_1]
    exact ih (j + 1) n (by omega) (by omega)
theorem x_dig54 {F : Nat} (hF : 1000 ≤ F) {x : HT} {a : Nat → Nat} (k : WF1 a) (h : CX x a) {w : Nat} (hw : w < 2 * a 3) {I : Int32} {g : Int64} (rec41 : HT → Int32 → Int64 → Int32 → Option (Int64 × HT)) : ∀ d j n, j + d = 9 → d < n → fX6_digestMessage_54 F rec41 n x I (hsh g (fun q => nI (wFct a w q)) j) (nI w) (nI j) = rec41 x I (dgW a g w) (nI (w + 1)) := by
  obtain ⟨b1, b2, b3, b4, b5, b6⟩ := k.b hw
  intro d
  induction d with
  | zero =>
    intro j n hid hd
    obtain ⟨n, rfl⟩ : ∃ n', n = n' + 1 := ⟨n - 1, by omega⟩
    show fX6_digestMessage_54b F rec41 (fX6_digestMessage_54 F rec41 n) x _ _ _ _ = _
    unfold fX6_digestMessage_54b
    have ej : j = 9 := by omega
    subst ej
    rw [if_pos (by decide)]
    exact x_dig88 k h hw (g := hsh g (fun q => nI (wFct a w q)) 9) rec41 (wN a w + 1) 0 F (by omega) (by omega)
  | succ d ih =>
    intro j n hid hd
    obtain ⟨n, rfl⟩ : ∃ n', n = n' + 1 := ⟨n - 1, by omega⟩
    show fX6_digestMessage_54b F rec41 (fX6_digestMessage_54 F rec41 n) x _ _ _ _ = _
    unfold fX6_digestMessage_54b
    rw [if_neg (by rw [n9, le_nI (by omega) (by omega)]; omega), bds (x_wormFact hF k h hw (by omega)), lts, lts, nI_1]
    exact ih (j + 1) n (by omega) (by omega)
theorem x_dig41 {F n : Nat} (hF : 1000 ≤ F) {x : HT} {a : Nat → Nat} (k : WF1 a) (h : CX x a) {i : Nat} (hi : i < a 3) {w : Nat} (hw : w < 2 * i + 2) (hw2 : w < 2 * a 3) (g : Int64) : fX6_digestMessage_41 F (n + 1) x (nI i) g (nI w) = fX6_digestMessage_41 F n x (nI i) (dgW a g w) (nI (w + 1)) := by
  have h5 := k.1.2.1
  show fX6_digestMessage_41b F (fX6_digestMessage_41 F n) x _ _ _ = _
  unfold fX6_digestMessage_41b
  rw [n2, pk_mul, nI_add, if_neg (by rw [le_nI (by omega) (by omega)]; omega)]
  exact x_dig54 hF k h hw2 (g := g) (fX6_digestMessage_41 F n) 9 0 F (by omega) (by omega)
theorem x_dig41e {F n : Nat} {x : HT} {i : Nat} (hi : i < 5) (g : Int64) : fX6_digestMessage_41 F (n + 1) x (nI i) g (nI (2 * i + 1 + 1)) = some (g, x) := by
  show fX6_digestMessage_41b F (fX6_digestMessage_41 F n) x _ _ _ = _
  unfold fX6_digestMessage_41b
  rw [n2, pk_mul, nI_add, if_pos (by rw [le_nI (by omega) (by omega)]; omega)]
theorem x_dig6 {F : Nat} (hF : 1000 ≤ F) {x : HT} {a : Nat → Nat} (k : WF1 a) (h : CX x a) {i : Nat} (hi : i < a 3) {g : Int64} : ∀ d j n, j + d = 6 → d < n → fX6_digestMessage_6 F n x (nI i) (hsh g (fun q => nI (mFct a i q)) j) (nI j) = some (dgM a g i, x) := by
  have h5 := k.1.2.1
  intro d
  induction d with
  | zero =>
    intro j n hid hd
    obtain ⟨n, rfl⟩ : ∃ n', n = n' + 1 := ⟨n - 1, by omega⟩
    obtain ⟨F', rfl⟩ : ∃ F', F = F' + 3 := ⟨F - 3, by omega⟩
    have ej : j = 6 := by omega
    subst ej
    show fX6_digestMessage_6b (F' + 3) (fX6_digestMessage_6 (F' + 3) n) x _ _ _ = _
    unfold fX6_digestMessage_6b
    rw [if_pos (by decide), n2, pk_mul, Nat.mul_comm i 2, lts, x_dig41 (n := F' + 2) hF k h hi (by omega) (by omega), x_dig41 (n := F' + 1) hF k h hi (by omega) (by omega), x_dig41e (n := F') (by omega)]
    rfl
  | succ d ih =>
    intro j n hid hd
    obtain ⟨n, rfl⟩ : ∃ n', n = n' + 1 := ⟨n - 1, by omega⟩
    show fX6_digestMessage_6b F (fX6_digestMessage_6 F n) x _ _ _ = _
    unfold fX6_digestMessage_6b
    rw [if_neg (by rw [n6, le_nI (by omega) (by omega)]; omega), bds (x_messageFact hF k h hi (by omega)), lts, lts, nI_1]
    exact ih (j + 1) n (by omega) (by omega)
theorem x_dig104 {F : Nat} (hF : 1000 ≤ F) {x : HT} {a : Nat → Nat} (k : WF2 a) (h : CX x a) {g : Int64} : ∀ d i n, i + d = a 3 → d < n → ∃ x', fX6_digest_104 F n x (dgN a g i) (nI i) = some (31 * dgN a g (a 3) + (whn a (fun _ => true)).toInt64, x') ∧ Fr2 x x' := by
  have h5 := k.1.1.2.1
  have h3 : x.1 (7 * 0 + 1) 3 = nI (a 3) := h.1.2.2.2.1
  intro d
  induction d with
  | zero =>
    intro i n hid hd
    obtain ⟨n, rfl⟩ : ∃ n', n = n' + 1 := ⟨n - 1, by omega⟩
    obtain ⟨x1, e1, f1⟩ := x_stepsUntilDone hF k.1 k.2 h.1 h.2.2 (i := -1) (p := fun _ => true) (Or.inl ⟨rfl, fun _ => rfl⟩) (Or.inl rfl)
    show ∃ x', fX6_digest_104b F (fX6_digest_104 F n) x _ _ = _ ∧ _
    unfold fX6_digest_104b
    rw [h3, if_pos (by rw [le_nI (by omega) (by omega)]; omega), bds e1, show i = a 3 by omega]
    exact ⟨x1, rfl, f1⟩
  | succ d ih =>
    intro i n hid hd
    obtain ⟨n, rfl⟩ : ∃ n', n = n' + 1 := ⟨n - 1, by omega⟩
    have e1 := x_dig6 hF k.1 h (i := i) (by omega) (g := dgN a g i) 6 0 F (by omega) (by omega)
    have e1' : fX6_digestMessage F x (dgN a g i) (nI i) = some (dgM a (dgN a g i) i, x) := e1
    show ∃ x', fX6_digest_104b F (fX6_digest_104 F n) x _ _ = _ ∧ _
    unfold fX6_digest_104b
    rw [h3, if_neg (by rw [le_nI (by omega) (by omega)]; omega), bds e1', lts, nI_1]
    exact ih (i + 1) n (by omega) (by omega)
theorem x_dig59 {F : Nat} (hF : 1000 ≤ F) {x : HT} {a : Nat → Nat} (k : WF2 a) (h : CX x a) {g : Int64} : ∀ d c n, c + d = 4 * (a 0 * a 1) → d < n → ∃ x', fX6_digest_59 F n x (hsh g (fun c => if dnB a (c / 4) (c % 4) = true then 1 else 0) c) (nI c) = some (31 * dgN a (dgD a g (a 0 * a 1)) (a 3) + (whn a (fun _ => true)).toInt64, x') ∧ Fr2 x x' := by
  have h36 := okW_36 k.1.1.1
  have h5 := k.1.1.2.1
  intro d
  induction d with
  | zero =>
    intro c n hid hd
    obtain ⟨n, rfl⟩ : ∃ n', n = n' + 1 := ⟨n - 1, by omega⟩
    show ∃ x', fX6_digest_59b F (fX6_digest_59 F n) x _ _ = _ ∧ _
    unfold fX6_digest_59b
    rw [bds (x_places h.2.1.1 h.2.1.2.1), n4, pk_mul, if_pos (by rw [le_nI (by omega) (by omega)]; omega), show c = 4 * (a 0 * a 1) by omega, ← dgD_c]
    exact x_dig104 hF k h (a 3) 0 F (by omega) (by omega)
  | succ d ih =>
    intro c n hid hd
    obtain ⟨n, rfl⟩ : ∃ n', n = n' + 1 := ⟨n - 1, by omega⟩
    have e1 := x_isDown (F := F) h.1 k.1.2.2 (l := c / 4) (d := c % 4) (by omega) (by omega)
    rw [show 4 * (c / 4) + c % 4 = c by omega] at e1
    show ∃ x', fX6_digest_59b F (fX6_digest_59 F n) x _ _ = _ ∧ _
    unfold fX6_digest_59b fX6_digest_93
    rw [bds (x_places h.2.1.1 h.2.1.2.1), n4, pk_mul, if_neg (by rw [le_nI (by omega) (by omega)]; omega), bds e1]
    have ih1 := ih (c + 1) n (by omega) (by omega)
    rw [hsh] at ih1
    by_cases e : dnB a (c / 4) (c % 4) = true
    · rw [if_pos e, if_neg (by decide), lts, lts, nI_1]
      rw [if_pos e] at ih1
      exact ih1
    · rw [if_neg e, if_pos rfl, lts, lts, nI_1]
      rw [if_neg e] at ih1
      exact ih1
theorem x_dig32 {F : Nat} (hF : 1000 ≤ F) {x : HT} {a : Nat → Nat} (k : WF2 a) (h : CX x a) {g : Int64} : ∀ d j n, j + d = 8 → d < n → ∃ x', fX6_digest_32 F n x (hsh g (fun q => nI (cFct a q)) j) (nI j) = some (31 * dgN a (dgD a (hsh g (fun q => nI (cFct a q)) 8) (a 0 * a 1)) (a 3) + (whn a (fun _ => true)).toInt64, x') ∧ Fr2 x x' := by
  have h36 := okW_36 k.1.1.1
  intro d
  induction d with
  | zero =>
    intro j n hid hd
    obtain ⟨n, rfl⟩ : ∃ n', n = n' + 1 := ⟨n - 1, by omega⟩
    have ej : j = 8 := by omega
    subst ej
    show ∃ x', fX6_digest_32b F (fX6_digest_32 F n) x _ _ = _ ∧ _
    unfold fX6_digest_32b
    rw [if_pos (by decide)]
    exact x_dig59 hF k h (g := hsh g (fun q => nI (cFct a q)) 8) (4 * (a 0 * a 1)) 0 F (by omega) (by omega)
  | succ d ih =>
    intro j n hid hd
    obtain ⟨n, rfl⟩ : ∃ n', n = n' + 1 := ⟨n - 1, by omega⟩
    show ∃ x', fX6_digest_32b F (fX6_digest_32 F n) x _ _ = _ ∧ _
    unfold fX6_digest_32b
    rw [if_neg (by rw [n8, le_nI (by omega) (by omega)]; omega), bds (x_countFact hF k.1 h (by omega)), lts, lts, nI_1]
    exact ih (j + 1) n (by omega) (by omega)
theorem x_digest_l {F : Nat} (hF : 1000 ≤ F) {x : HT} {a : Nat → Nat} (k : WF2 a) (h : CX x a) : ∀ d j n, j + d = 5 → d < n → ∃ x', fX6_digest_6 F n x (hsh 2806 (xTld x) j) (nI j) = some (dgA a (xTld x), x') ∧ Fr2 x x' := by
  intro d
  induction d with
  | zero =>
    intro j n hid hd
    obtain ⟨n, rfl⟩ : ∃ n', n = n' + 1 := ⟨n - 1, by omega⟩
    have ej : j = 5 := by omega
    subst ej
    show ∃ x', fX6_digest_6b F (fX6_digest_6 F n) x _ _ = _ ∧ _
    unfold fX6_digest_6b
    rw [if_pos (by decide)]
    exact x_dig32 hF k h (g := hsh 2806 (xTld x) 5) 8 0 F (by omega) (by omega)
  | succ d ih =>
    intro j n hid hd
    obtain ⟨n, rfl⟩ : ∃ n', n = n' + 1 := ⟨n - 1, by omega⟩
    show ∃ x', fX6_digest_6b F (fX6_digest_6 F n) x _ _ = _ ∧ _
    unfold fX6_digest_6b
    rw [if_neg (by rw [n5, le_nI (by omega) (by omega)]; omega), bds (x_toldFact (by omega)), lts, lts, nI_1]
    exact ih (j + 1) n (by omega) (by omega)
theorem x_digest {F : Nat} (hF : 1000 ≤ F) {x : HT} {a : Nat → Nat} (k : WF2 a) (h : CX x a) : ∃ x', fX6_digest F x = some (dgA a (xTld x), x') ∧ Fr2 x x' := x_digest_l hF k h 5 0 F (by omega) (by omega)
-- ===== the class: states kept =====
def HX (x : HT) (S : Nat) (hs : Nat → Nat → Nat) (tp : Nat) : Prop := tp < 5 ∧ S ≤ 5 ∧ x.1 57 1 = nI tp ∧ x.1 57 2 = nI S ∧ ∀ t, t < S → RX x (3 + (tp + 5 - S + t) % 5) (hs t)
/-- what a push changes -/
def FrK (x x' : HT) : Prop := ∀ c q, (c < 22 ∨ 57 < c) → x'.1 c q = x.1 c q ∧ x'.2 c q = x.2 c q
theorem s57_rx {x : HT} {j q : Nat} {v : Int32} {a : Nat → Nat} (hj : j < 8) (r : RX x j a) : RX (sI x 57 q v) j a := by
  obtain ⟨r1, r2, r3, r4, r5, r6, r7⟩ := r
  refine ⟨?_, ?_, ?_, ?_, fun l hl => ?_, fun i hi => ?_, fun v hv => ?_⟩
  · rw [sI_r, if_neg (by omega)]; exact r1
  · rw [sI_r, if_neg (by omega)]; exact r2
  · rw [sI_r, if_neg (by omega)]; exact r3
  · rw [sI_r, if_neg (by omega)]; exact r4
  · rw [sI_r, if_neg (by omega)]; exact r5 l hl
  · rw [sI_r, if_neg (by omega), sI_r, if_neg (by omega)]; exact r6 i hi
  · rw [sI_r, if_neg (by omega), sI_r, if_neg (by omega)]; exact r7 v hv
theorem x_push {F : Nat} {x : HT} {S tp : Nat} {hs : Nat → Nat → Nat} {b : Nat → Nat} (h : HX x S hs tp) (hb : RX x 1 b) (h5 : b 3 ≤ 5) : ∃ x' tp', fX1_push F 1 x = some ((), x') ∧ HX x' (psS S) (psH S hs b) tp' ∧ FrK x x' := by
  obtain ⟨t1, t2, t3, t4, t5⟩ := h
  obtain ⟨x1, e1, f1, r1⟩ := x_copyFrom (F := F) (j := 3 + tp) (j2 := 1) (by omega) x
  have hR := r1 b h5 hb
  have k1 : x1.1 57 1 = nI tp := by rw [(f1 57 1 (by omega)).1]; exact t3
  have k2 : x1.1 57 2 = nI S := by rw [(f1 57 2 (by omega)).1]; exact t4
  have main : ∀ T, T < 5 → (T = tp + 1 ∨ (tp = 4 ∧ T = 0)) → ∃ x' tp', fX1_push_34 F 1 x1 (nI T) = some ((), x') ∧ HX x' (psS S) (psH S hs b) tp' ∧ FrK x x' := by
    intro T hT hT2
    unfold fX1_push_34
    rw [lts, lts, show (sI x1 57 1 (nI T)).1 57 2 = nI S from by rw [sI_r, if_neg (by omega)]; exact k2, nI_1]
    have ev : (if (5 : Int32) < nI (S + 1) then (5 : Int32) else nI (S + 1)) = nI (psS S) := by
      unfold psS
      rw [n5, ite_lt (by omega) (by omega)]
      by_cases e : S = 5
      · rw [if_pos (by omega), if_pos e]
      · rw [if_neg (by omega), if_neg e]
    rw [ev]
    refine ⟨_, T, rfl, ⟨hT, by unfold psS; split <;> omega, ?_, ?_, fun t ht => ?_⟩, fun c q hc => ⟨?_, ?_⟩⟩
    · rw [sI_r, if_neg (by omega), sI_r, if_pos ⟨rfl, rfl⟩]
    · rw [sI_r, if_pos ⟨rfl, rfl⟩]
    · refine s57_rx (by omega) (s57_rx (by omega) ?_)
      unfold psS at ht ⊢
      unfold psH
      by_cases e : S = 5
      · rw [if_pos e] at ht ⊢
        rw [if_pos e]
        by_cases e4 : t < 4
        · rw [if_pos e4]
          have := f1.rx (i := 3 + (tp + 5 - S + (t + 1)) % 5) (by omega) (t5 (t + 1) (by omega))
          rw [show 3 + (T + 5 - 5 + t) % 5 = 3 + (tp + 5 - S + (t + 1)) % 5 by omega]
          exact this
        · rw [if_neg e4, show 3 + (T + 5 - 5 + t) % 5 = 3 + tp by omega]
          exact hR
      · rw [if_neg e] at ht ⊢
        rw [if_neg e]
        by_cases e4 : t = S
        · rw [if_pos e4, show 3 + (T + 5 - (S + 1) + t) % 5 = 3 + tp by omega]
          exact hR
        · rw [if_neg e4]
          have := f1.rx (i := 3 + (tp + 5 - S + t) % 5) (by omega) (t5 t (by omega))
          rw [show 3 + (T + 5 - (S + 1) + t) % 5 = 3 + (tp + 5 - S + t) % 5 by omega]
          exact this
    · rw [sI_r, if_neg (by omega), sI_r, if_neg (by omega)]; exact (f1 c q (by omega)).1
    · exact (f1 c q (by omega)).2
  unfold fX1_push
  rw [t3, ckb (inb_nI (by omega) (by omega)), clamp_nI (by omega), bds e1, k1, nI_1, n5, ite_le (by omega) (by omega)]
  by_cases e : 5 ≤ tp + 1
  · rw [if_pos e]; exact main 0 (by omega) (by omega)
  · rw [if_neg e]; exact main (tp + 1) (by omega) (by omega)
/-- what a pop changes -/
def FrO (x x' : HT) : Prop := ∀ c q, (c = 0 ∨ (7 < c ∧ c < 57) ∨ 57 < c) → x'.1 c q = x.1 c q ∧ x'.2 c q = x.2 c q
theorem x_pop_n {F : Nat} {x : HT} {hs : Nat → Nat → Nat} {tp : Nat} (h : HX x 0 hs tp) : fX1_popInto F 0 x = some (0, x) := by
  unfold fX1_popInto
  rw [h.2.2.2.1, if_pos (show nI 0 = 0 from rfl)]
theorem x_pop_y {F : Nat} {x : HT} {S tp : Nat} {hs : Nat → Nat → Nat} (h : HX x (S + 1) hs tp) (h5 : hs S 3 ≤ 5) : ∃ x' tp', fX1_popInto F 0 x = some (1, x') ∧ HX x' S hs tp' ∧ RX x' 0 (hs S) ∧ FrO x x' := by
  obtain ⟨t1, t2, t3, t4, t5⟩ := h
  have main : ∀ T, T < 5 → (tp = T + 1 ∨ (tp = 0 ∧ T = 4)) → ∃ x' tp', fX1_popInto_27 F 0 x (nI T) = some (1, x') ∧ HX x' S hs tp' ∧ RX x' 0 (hs S) ∧ FrO x x' := by
    intro T hT hT2
    unfold fX1_popInto_27
    rw [lts, lts, show (sI x 57 1 (nI T)).1 57 2 = nI (S + 1) from by rw [sI_r, if_neg (by omega)]; exact t4, show nI (S + 1) - 1 = nI S from sub_nI (a := S + 1) (b := 1) (by omega)]
    generalize hx1 : sI (sI x 57 1 (nI T)) 57 2 (nI S) = x1
    have r1 : ∀ c q, x1.1 c q = if c = 57 ∧ q = 2 then nI S else if c = 57 ∧ q = 1 then nI T else x.1 c q := fun c q => by rw [← hx1, sI_r, sI_r]
    have s1 : x1.2 = x.2 := by rw [← hx1]; rfl
    have q1 : ∀ j (a : Nat → Nat), j < 8 → RX x j a → RX x1 j a := fun j a hj r => by rw [← hx1]; exact s57_rx hj (s57_rx hj r)
    obtain ⟨x2, e2, f2, g2⟩ := x_copyFrom (F := F) (j := 0) (j2 := 3 + T) (by omega) x1
    rw [show x1.1 57 1 = nI T by rw [r1, if_neg (by omega), if_pos ⟨rfl, rfl⟩], ckb (inb_nI (by omega) (by omega)), clamp_nI (by omega), bds e2]
    refine ⟨x2, T, rfl, ⟨hT, by omega, ?_, ?_, fun t ht => ?_⟩, ?_, fun c q hc => ⟨?_, ?_⟩⟩
    · rw [(f2 57 1 (by omega)).1, r1, if_neg (by omega), if_pos ⟨rfl, rfl⟩]
    · rw [(f2 57 2 (by omega)).1, r1, if_pos ⟨rfl, rfl⟩]
    · have := t5 t (by omega)
      rw [show 3 + (tp + 5 - (S + 1) + t) % 5 = 3 + (T + 5 - S + t) % 5 by omega] at this
      exact f2.rx (by omega) (q1 _ _ (by omega) this)
    · have := t5 S (by omega)
      rw [show 3 + (tp + 5 - (S + 1) + S) % 5 = 3 + T by omega] at this
      exact g2 _ h5 (q1 _ _ (by omega) this)
    · rw [(f2 c q (by omega)).1, r1, if_neg (by omega), if_neg (by omega)]
    · rw [(f2 c q (by omega)).2, s1]
  unfold fX1_popInto
  rw [t4, t3, if_neg (by rw [n0, eq_nI (by omega) (by omega)]; omega), n0, ite_le (by omega) (by omega)]
  by_cases e : tp ≤ 0
  · rw [if_pos e]; exact main 4 (by omega) (by omega)
  · rw [if_neg e, show nI tp - 1 = nI (tp - 1) from sub_nI (a := tp) (b := 1) (by omega)]
    exact main (tp - 1) (by omega) (by omega)
theorem x_rBad {F : Nat} (x : HT) : fX6_refuse F x (-2) = some (-2, sI x 0 8 (x.1 0 8 + 1)) := by
  unfold fX6_refuse fX6_refuse_64
  rw [if_neg (by decide), if_pos rfl, lts]
theorem x_rNo {F : Nat} (x : HT) : fX6_refuse F x (-3) = some (-3, sI x 0 9 (x.1 0 9 + 1)) := by
  unfold fX6_refuse fX6_refuse_64
  rw [if_pos rfl, lts]
theorem x_rFull {F : Nat} (x : HT) : fX6_refuse F x (-4) = some (-4, sI x 0 10 (x.1 0 10 + 1)) := by
  unfold fX6_refuse fX6_refuse_64
  rw [if_neg (by decide), if_neg (by decide), lts]
