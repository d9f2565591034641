-- ===== the reference: what is told out =====
def alD (a : Nat → Nat) (p : Nat → Bool) : Bool := !anyK (fun w => p w && !dnW a w) (2 * a 3)
def pI (i : Int32) (p : Nat → Bool) : Prop := (i = -1 ∧ ∀ w, p w = true) ∨ ∃ I, I < 1000 ∧ i = nI I ∧ ∀ w, p w = decide (w / 2 = I)
theorem m_areDone_l {F : Nat} {m : HT} {a : Nat → Nat} (h : RM m a) (k : WF1 a) (hW : WM m a) {i : Int32} {p : Nat → Bool} (hp : pI i p) : ∀ d w n (b : Bool), w + d = 2 * a 3 → d < n → b = !anyK (fun w => p w && !dnW a w) w → fX7_areDone_4 F n m i (if b = true then 1 else 0) (nI w) = some (if alD a p = true then 1 else 0, m) := by
  have h5 := k.1.2.1
  intro d
  induction d with
  | zero =>
    intro w n b hid hd hb
    obtain ⟨n, rfl⟩ : ∃ n', n = n' + 1 := ⟨n - 1, by omega⟩
    show fX7_areDone_4b F (fX7_areDone_4 F n) m _ _ _ = _
    unfold fX7_areDone_4b
    rw [ckb (by decide), c3, h 3 (by omega), n2, pk_mul, if_pos (by rw [le_nI (by omega) (by omega)]; omega), ckb (by cases b <;> rfl), alD, hb, show w = 2 * a 3 by omega]
  | succ d ih =>
    intro w n b hid hd hb
    obtain ⟨n, rfl⟩ : ∃ n', n = n' + 1 := ⟨n - 1, by omega⟩
    have ih1 := fun b' (hb' : b' = !anyK (fun w => p w && !dnW a w) (w + 1)) => ih (w + 1) n b' (by omega) (by omega) hb'
    have hb1 : anyK (fun w => p w && !dnW a w) w = !b := by rw [hb, Bool.not_not]
    show fX7_areDone_4b F (fX7_areDone_4 F n) m _ _ _ = _
    unfold fX7_areDone_4b fX7_areDone_32 fX7_areDone_40 fX7_areDone_44 fX7_areDone_45
    rw [ckb (by decide), c3, h 3 (by omega), n2, pk_mul, if_neg (by rw [le_nI (by omega) (by omega)]; omega)]
    cases b with
    | false =>
      rw [if_pos (by decide), lts, nI_1]
      exact ih1 false (by rw [anyK, hb1]; rfl)
    | true =>
      rw [if_neg (by decide)]
      have key : ∀ q : Bool, p w = q → (q = true → fX7_areDone_4b F (fX7_areDone_4 F n) m i 1 (nI w) = fX7_areDone_4b F (fX7_areDone_4 F n) m i 1 (nI w)) := fun _ _ _ => rfl
      have hd1 : (bd (fX7_isDone F m (nI w)) fun r10 x9 => if r10 = 0 then lt_ (nI w + 1) fun b7 => fX7_areDone_4 F n x9 i 0 b7 else lt_ (nI w + 1) fun b7 => fX7_areDone_4 F n x9 i 1 b7) = fX7_areDone_4 F n m i (if dnW a w = true then 1 else 0) (nI (w + 1)) := by
        rw [bds (m_isDone h k hW (by omega))]
        by_cases e : dnW a w = true
        · rw [if_pos e, if_neg (by decide), lts, nI_1]
        · rw [if_neg e, if_pos rfl, lts, nI_1]
      rcases hp with ⟨rfl, hp1⟩ | ⟨I, hI, rfl, hp1⟩
      · rw [if_pos rfl, hd1]
        exact ih1 (dnW a w) (by rw [anyK, hb1, hp1]; simp)
      · rw [if_neg (m1_ne (by omega)), div_nI (by omega) (by omega) (by omega), ite_eq (by omega) (by omega)]
        by_cases e : w / 2 = I
        · rw [if_pos e, hd1]
          exact ih1 (dnW a w) (by rw [anyK, hb1, hp1]; simp [e])
        · rw [if_neg e, lts, nI_1]
          exact ih1 true (by rw [anyK, hb1, hp1]; simp [e])
theorem m_areDone {F : Nat} (hF : 1000 ≤ F) {m : HT} {a : Nat → Nat} (h : RM m a) (k : WF1 a) (hW : WM m a) {i : Int32} {p : Nat → Bool} (hp : pI i p) : fX7_areDone F m i = some (if alD a p = true then 1 else 0, m) := by
  have h5 := k.1.2.1
  exact m_areDone_l h k hW hp (2 * a 3) 0 F true (by omega) (by omega) rfl
/-- the first of the next steps, up to 400, ahead of which all are done; 401: none -/
def whl (a : Nat → Nat) (p : Nat → Bool) : Nat → Nat → Nat
  | 0, _ => 401
  | f + 1, t => if alD (itS a t) p = true then t else whl a p f (t + 1)
def whn (a : Nat → Nat) (p : Nat → Bool) : Int32 := if whl a p 401 0 ≤ 400 then nI (whl a p 401 0) else -1
theorem whl_le {a : Nat → Nat} {p : Nat → Bool} : ∀ f t, t + f = 401 → whl a p f t ≤ 401 := by
  intro f
  induction f with
  | zero => intro t _; rw [whl]; omega
  | succ f ih =>
    intro t ht
    rw [whl]
    split
    · omega
    · exact ih (t + 1) (by omega)
def FrB (m m' : HT) : Prop := m'.2 = m.2 ∧ ∀ c q, c ≠ 1 → c ≠ 2 → c ≠ 6 → c ≠ 7 → c ≠ 8 → c ≠ 9 → m'.1 c q = m.1 c q
theorem FrC.b {m m' : HT} (h : FrC m m') : FrB m m' := ⟨h.1, fun c q a _ b d e f => h.2 c q a b d e f⟩
theorem FrB.tr {m m' m'' : HT} (h : FrB m m') (g : FrB m' m'') : FrB m m'' := ⟨g.1.trans h.1, fun c q a b d e f z => (g.2 c q a b d e f z).trans (h.2 c q a b d e f z)⟩
theorem FrB.rf {m : HT} : FrB m m := ⟨rfl, fun _ _ _ _ _ _ _ _ => rfl⟩
theorem m_when35 {F : Nat} (hF : 1000 ≤ F) {m : HT} {a : Nat → Nat} (ha : ∀ k, k < 80 → m.1 2 k = nI (a k)) {t : Nat} (ht : t ≤ 401) : ∃ m', fX7_whenDone_35 F m (nI t) = some (if t ≤ 400 then nI t else -1, m') ∧ RM m' a ∧ Fr1 m m' := by
  obtain ⟨m', e1, e2, e3, e4⟩ := m_takesBack hF m
  unfold fX7_whenDone_35
  rw [bds e1, show (400 : Int32) = nI 400 from rfl, ite_le (by omega) (by omega)]
  refine ⟨m', ?_, fun k hk => by rw [e4 k hk, ha k hk], e2, e3⟩
  split <;> rfl
theorem m_when_l {F : Nat} (hF : 1000 ≤ F) {m0 : HT} {a : Nat → Nat} (k : WF1 a) {i : Int32} {p : Nat → Bool} (hp : pI i p) (ha : ∀ k, k < 80 → m0.1 2 k = nI (a k)) : ∀ f t n m, t + f = 401 → f < n → RM m (itS a t) → WM m (itS a t) → Fr1 m0 m → ∃ m', fX7_whenDone_10 F n m i (nI t) = some (if whl a p f t ≤ 400 then nI (whl a p f t) else -1, m') ∧ RM m' a ∧ Fr1 m0 m' := by
  intro f
  induction f with
  | zero =>
    intro t n m hid hd hR hW hFr
    obtain ⟨n, rfl⟩ : ∃ n', n = n' + 1 := ⟨n - 1, by omega⟩
    obtain ⟨m', e1, r1, f1⟩ := m_when35 hF (m := m) (a := a) (fun k hk => by rw [hFr.2 2 k (by decide), ha k hk]) (t := t) (by omega)
    show ∃ m', fX7_whenDone_10b F (fX7_whenDone_10 F n) m _ _ = _ ∧ _
    unfold fX7_whenDone_10b
    rw [if_pos (by rw [show (400 : Int32) = nI 400 from rfl, lt_nI (by omega) (by omega)]; omega), e1, whl, show t = 401 by omega]
    exact ⟨m', rfl, r1, hFr.tr f1⟩
  | succ f ih =>
    intro t n m hid hd hR hW hFr
    obtain ⟨n, rfl⟩ : ∃ n', n = n' + 1 := ⟨n - 1, by omega⟩
    have hk := (itS_ok k t).1
    show ∃ m', fX7_whenDone_10b F (fX7_whenDone_10 F n) m _ _ = _ ∧ _
    unfold fX7_whenDone_10b
    rw [if_neg (by rw [show (400 : Int32) = nI 400 from rfl, lt_nI (by omega) (by omega)]; omega), bds (m_areDone hF hR hk hW hp), whl]
    by_cases e : alD (itS a t) p = true
    · obtain ⟨m', e1, r1, f1⟩ := m_when35 hF (m := m) (a := a) (fun k hk => by rw [hFr.2 2 k (by decide), ha k hk]) (t := t) (by omega)
      rw [if_pos e, if_neg (by decide), if_pos e, e1]
      exact ⟨m', rfl, r1, hFr.tr f1⟩
    · obtain ⟨m1, e1, r1, w1, f1⟩ := m_step hF hk hR hW
      rw [if_neg e, if_pos rfl, if_neg e, bds e1, lts, nI_1]
      exact ih (t + 1) n m1 (by omega) (by omega) r1 w1 (hFr.tr f1)
theorem m_whenDone {F : Nat} (hF : 1000 ≤ F) {m : HT} {a : Nat → Nat} (h : RM m a) (k : WF1 a) {i : Int32} {p : Nat → Bool} (hp : pI i p) : ∃ m', fX7_whenDone F m i = some (whn a p, m') ∧ RM m' a ∧ WM m' a ∧ FrB m m' := by
  obtain ⟨m1, e1, f1, w1⟩ := m_laysWays hF k.1 h
  obtain ⟨m2, e2, f2, f3, f4⟩ := m_laysAside hF m1
  have hR1 := f1.rm h
  have hR2 : RM m2 a := fun q hq => by rw [f3 1 q (by decide), hR1 q hq]
  have hW2 : WM m2 a := fun w hw => by
    obtain ⟨⟨q1, q2, q3⟩, q4⟩ := w1 w hw
    exact ⟨⟨fun j hj => by rw [f3 6 _ (by decide)]; exact q1 j hj, by rw [f3 8 _ (by decide)]; exact q2, fun c hc => by rw [f3 9 _ (by decide)]; exact q3 c hc⟩, by rw [f3 7 _ (by decide)]; exact q4⟩
  obtain ⟨m', e3, r3, f5⟩ := m_when_l hF (m0 := m2) k hp (fun q hq => by rw [f4 q hq, hR1 q hq]) 401 0 F m2 (by omega) (by omega) hR2 hW2 ⟨rfl, fun _ _ _ => rfl⟩
  unfold fX7_whenDone
  rw [bds e1, bds e2]
  refine ⟨m', e3, r3, f5.wm smR.rf hW2, ?_, fun c q c1 c2 c6 c7 c8 c9 => ?_⟩
  · rw [f5.1, f2, f1.1]
  · rw [f5.2 c q c1, f3 c q c2, f1.2 c q c6 c7 c8 c9]
-- worms
def arv (a : Nat → Nat) (w : Nat) : Nat := cntB (fun c => decide (wQ a w c ≤ mvw a w)) (wC a w)
theorem m_arrived_l {F : Nat} {m : HT} {a : Nat → Nat} (h : RM m a) (k : WF1 a) (hW : WM m a) {w : Nat} (hw : w < 2 * a 3) : ∀ d c n, c + d = wC a w → d < n → fX7_arrived_4 F n m (nI w) (nI (cntB (fun c => decide (wQ a w c ≤ mvw a w)) c)) (nI c) = some (nI (arv a w), m) := by
  obtain ⟨b1, b2, b3, b4, b5, b6⟩ := k.b hw
  obtain ⟨⟨-, q2, q3⟩, -⟩ := hW w hw
  have q2 : m.1 8 w = nI (wC a w) := q2
  intro d
  induction d with
  | zero =>
    intro c n hid hd
    obtain ⟨n, rfl⟩ : ∃ n', n = n' + 1 := ⟨n - 1, by omega⟩
    show fX7_arrived_4b F (fX7_arrived_4 F n) m _ _ _ = _
    unfold fX7_arrived_4b
    rw [ckb (inb_nI (by omega) (by omega)), clamp_nI (by omega), q2, if_pos (by rw [le_nI (by omega) (by omega)]; omega), arv, show c = wC a w by omega]
  | succ d ih =>
    intro c n hid hd
    obtain ⟨n, rfl⟩ : ∃ n', n = n' + 1 := ⟨n - 1, by omega⟩
    have ih1 := ih (c + 1) n (by omega) (by omega)
    rw [cntB] at ih1
    have q3' : m.1 9 (36 * w + c) = nI (wQ a w c) := q3 c (show c < wC a w by omega)
    have hq : wQ a w c ≤ 35 := by
      obtain ⟨hok, -, -⟩ := wyB k.1 hw
      have := (hok.2.2.2.2.2.1 c (show c < wC a w by omega)).2.1
      have b2' : (wy a w).2.1 ≤ 35 := b2
      show (wy a w).2.2.2.2 c ≤ 35
      omega
    show fX7_arrived_4b F (fX7_arrived_4 F n) m _ _ _ = _
    unfold fX7_arrived_4b fX7_arrived_39
    rw [ckb (inb_nI (by omega) (by omega)), clamp_nI (i := w) (by omega), q2, if_neg (by rw [le_nI (by omega) (by omega)]; omega), n36, pk_mul, nI_add, ckb (inb_nI (by omega) (by omega)), bds (m_moves h b1), clamp_nI (by omega), q3', ite_lt (by omega) (by omega)]
    by_cases e : mvw a w < wQ a w c
    · rw [if_pos e, lts, lts, nI_1, n0, nI_add]
      rw [if_neg (by simp; omega)] at ih1
      exact ih1
    · rw [if_neg e, lts, lts, nI_1, nI_1]
      rw [if_pos (by simp; omega)] at ih1
      exact ih1
theorem m_arrived {F : Nat} (hF : 1000 ≤ F) {m : HT} {a : Nat → Nat} (h : RM m a) (k : WF1 a) (hW : WM m a) {w : Nat} (hw : w < 2 * a 3) : fX7_arrived F m (nI w) = some (nI (arv a w), m) := by
  have b := k.b hw
  exact m_arrived_l h k hW hw (wC a w) 0 F (by omega) (by omega)
def hms (a : Nat → Nat) (w : Nat) : Nat := hHead a w - hTail a w
theorem m_heldMany {F : Nat} {m : HT} {a : Nat → Nat} (h : RM m a) (k : WF1 a) (hW : WM m a) {w : Nat} (hw : w < 2 * a 3) : fX7_heldMany F m (nI w) = some (nI (hms a w), m) := by
  obtain ⟨b1, b2, b3, b4, b5, b6⟩ := k.b hw
  have hh := hHead_le (a := a) (w := w)
  have ht : hTail a w ≤ 44 := by unfold hTail; omega
  unfold fX7_heldMany
  rw [bds (m_heldTo h k hW hw), bds (m_heldFrom h k hw), lts, hms]
  by_cases e : hTail a w ≤ hHead a w
  · rw [sub_nI e, if_pos (nI_ge0 (by omega))]
  · rw [if_neg (Int32.not_le.mpr (pk_sneg (by omega) (by omega))), show hHead a w - hTail a w = 0 by omega]
    rfl
def dwK (a : Nat → Nat) (w k : Nat) : Bool := dnB a (wP a w k) (dirOf (a 0) (a 1) (wP a w k) (wP a w (k + 1)))
def dwn (a : Nat → Nat) (w : Nat) : Nat := cntB (dwK a w) (wN a w)
theorem m_downOf_l {F : Nat} (hF : 1000 ≤ F) {m : HT} {a : Nat → Nat} (h : RM m a) (k : WF1 a) (hW : WM m a) {w : Nat} (hw : w < 2 * a 3) : ∀ d c n, c + d = wN a w → d < n → fX7_downOf_4 F n m (nI w) (nI (cntB (dwK a w) c)) (nI c) = some (nI (dwn a w), m) := by
  obtain ⟨b1, b2, b3, b4, b5, b6⟩ := k.b hw
  obtain ⟨-, q4⟩ := hW w hw
  intro d
  induction d with
  | zero =>
    intro c n hid hd
    obtain ⟨n, rfl⟩ : ∃ n', n = n' + 1 := ⟨n - 1, by omega⟩
    show fX7_downOf_4b F (fX7_downOf_4 F n) m _ _ _ = _
    unfold fX7_downOf_4b
    rw [ckb (inb_nI (by omega) (by omega)), clamp_nI (by omega), q4, if_pos (by rw [le_nI (by omega) (by omega)]; omega), dwn, show c = wN a w by omega]
  | succ d ih =>
    intro c n hid hd
    obtain ⟨n, rfl⟩ : ∃ n', n = n' + 1 := ⟨n - 1, by omega⟩
    have ih1 := ih (c + 1) n (by omega) (by omega)
    rw [cntB] at ih1
    have p1 := wP_lt k.1 hw (j := c) (by omega)
    have p2 := wP_lt k.1 hw (j := c + 1) (by omega)
    have hadj := wP_adj k.1 hw (j := c) (by omega)
    show fX7_downOf_4b F (fX7_downOf_4 F n) m _ _ _ = _
    unfold fX7_downOf_4b fX7_downOf_61
    rw [ckb (inb_nI (by omega) (by omega)), clamp_nI (i := w) (by omega), q4, if_neg (by rw [le_nI (by omega) (by omega)]; omega), n37, pk_mul, nI_add, ckb (inb_nI (by omega) (by omega)), clamp_nI (by omega), m_way hW hw (by omega), lts, nI_1, ckb (inb_nI (by omega) (by omega)), clamp_nI (by omega), show 37 * w + c + 1 = 37 * w + (c + 1) by omega, m_way hW hw (by omega), bds (m_wayTo hF h k.1.1 p1.1 p2.2 hadj), bds (m_isDown h k.2.2 p1.2 dirOf_lt)]
    by_cases e : dwK a w c = true
    · have e' : dnB a (wP a w c) (dirOf (a 0) (a 1) (wP a w c) (wP a w (c + 1))) = true := e
      rw [if_pos e', if_neg (by decide), lts, lts, nI_1, nI_1]
      rw [if_pos e] at ih1
      exact ih1
    · have e' : ¬ dnB a (wP a w c) (dirOf (a 0) (a 1) (wP a w c) (wP a w (c + 1))) = true := e
      rw [if_neg e', if_pos rfl, lts, lts, nI_1, n0, nI_add]
      rw [if_neg e] at ih1
      exact ih1
theorem m_downOf {F : Nat} (hF : 1000 ≤ F) {m : HT} {a : Nat → Nat} (h : RM m a) (k : WF1 a) (hW : WM m a) {w : Nat} (hw : w < 2 * a 3) : fX7_downOf F m (nI w) = some (nI (dwn a w), m) := by
  have b := k.b hw
  exact m_downOf_l hF h k hW hw (wN a w) 0 F (by omega) (by omega)
/-- what a worm tells -/
def wFct (a : Nat → Nat) (w what : Nat) : Nat :=
  if what = 0 then wC a w else if what = 1 then wN a w else if what = 2 then mvw a w else if what = 3 then tel (a 0) (wP a w (hHead a w)) else if what = 4 then arv a w else if what = 5 then wtw a w else if what = 6 then (if dnW a w = true then 1 else 0) else if what = 7 then hms a w else dwn a w
theorem ite_n {α : Type} {a b : Nat} {c : Int32} {p q : α} (hc : c = nI b) (ha : a < 2147483648) (hb : b < 2147483648) : (if nI a = c then p else q) = (if a = b then p else q) := by subst hc; exact ite_eq ha hb
theorem m_wormTold {F : Nat} (hF : 1000 ≤ F) {m : HT} {a : Nat → Nat} (h : RM m a) (k : WF1 a) (hW : WM m a) {w what : Nat} (hw : w < 2 * a 3) (hq : what < 9) : fX7_wormTold F m (nI w) (nI what) = some (nI (wFct a w what), m) := by
  obtain ⟨b1, b2, b3, b4, b5, b6⟩ := k.b hw
  have hh := hHead_le (a := a) (w := w)
  obtain ⟨⟨-, q2, -⟩, q4⟩ := hW w hw
  have q2 : m.1 8 w = nI (wC a w) := q2
  have p1 := wP_lt k.1 hw (j := hHead a w) hh
  unfold fX7_wormTold wFct
  rw [ite_n n0 (by omega) (by omega), ite_n n1 (by omega) (by omega), ite_n n2 (by omega) (by omega), ite_n n3 (by omega) (by omega), ite_n n4 (by omega) (by omega), ite_n n5 (by omega) (by omega), ite_n n6 (by omega) (by omega), ite_n n7 (by omega) (by omega)]
  by_cases e0 : what = 0
  · rw [if_pos e0, if_pos e0, ckb (inb_nI (by omega) (by omega)), clamp_nI (by omega), q2]
  rw [if_neg e0, if_neg e0]
  by_cases e1 : what = 1
  · rw [if_pos e1, if_pos e1, ckb (inb_nI (by omega) (by omega)), clamp_nI (by omega), q4]
  rw [if_neg e1, if_neg e1]
  by_cases e2 : what = 2
  · rw [if_pos e2, if_pos e2, bds (m_moves h b1)]
  rw [if_neg e2, if_neg e2]
  by_cases e3 : what = 3
  · rw [if_pos e3, if_pos e3, bds (m_heldTo h k hW hw), n37, pk_mul, nI_add, ckb (inb_nI (by omega) (by omega)), clamp_nI (by omega), m_way hW hw hh, bds (m_toldOf h k.1.1 p1.2)]
  rw [if_neg e3, if_neg e3]
  by_cases e4 : what = 4
  · rw [if_pos e4, if_pos e4, bds (m_arrived hF h k hW hw)]
  rw [if_neg e4, if_neg e4]
  by_cases e5 : what = 5
  · rw [if_pos e5, if_pos e5, bds (m_wait h b1)]
  rw [if_neg e5, if_neg e5]
  by_cases e6 : what = 6
  · rw [if_pos e6, if_pos e6, bds (m_isDone h k hW hw)]
    by_cases e : dnW a w = true
    · rw [if_pos e, if_neg (by decide), if_pos e]; rfl
    · rw [if_neg e, if_pos rfl, if_neg e]; rfl
  rw [if_neg e6, if_neg e6]
  by_cases e7 : what = 7
  · rw [if_pos e7, if_pos e7, bds (m_heldMany h k hW hw)]
  rw [if_neg e7, if_neg e7, bds (m_downOf hF h k hW hw)]
