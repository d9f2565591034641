theorem m_farOf_l {F : Nat} (hF : 1000 ≤ F) {m : HT} {a : Nat → Nat} (h : RM m a) (k : okW (a 0) (a 1)) {v : Nat} (hv : v < a 0 * a 1) : ∀ f u c n, u < a 0 * a 1 → far (a 0) (a 1) u v = f → f < n → fX7_farOf_5 F n m (nI v) (nI c) (nI u) = some (nI (c + f), m) := by
  have h36 := okW_36 k
  intro f
  induction f with
  | zero =>
    intro u c n hu hf hn
    obtain ⟨n, rfl⟩ : ∃ n', n = n' + 1 := ⟨n - 1, by omega⟩
    have e : u = v := by
      by_cases q : u = v
      · exact q
      · have := far_pos k hu hv q; omega
    subst e
    show fX7_farOf_5b F (fX7_farOf_5 F n) m _ _ _ = _
    unfold fX7_farOf_5b
    rw [if_pos rfl]
    rfl
  | succ f ih =>
    intro u c n hu hf hn
    obtain ⟨n, rfl⟩ : ∃ n', n = n' + 1 := ⟨n - 1, by omega⟩
    have e : u ≠ v := fun q => by subst q; rw [far_self] at hf; omega
    have hs := far_step k hu hv e
    have hx := (fin_nxt k hu hv e).1
    show fX7_farOf_5b F (fX7_farOf_5 F n) m _ _ _ = _
    unfold fX7_farOf_5b
    rw [if_neg (by rw [eq_nI (by omega) (by omega)]; exact e), bds (m_nextOf hF h k hu hv e), lts, nI_1, ih (nxt (a 0) (a 1) u v) (c + 1) n hx (by omega) (by omega), show c + 1 + f = c + (f + 1) by omega]
theorem far_35 {W H u v : Nat} (k : okW W H) (hu : u < W * H) (hv : v < W * H) : far W H u v ≤ 35 := by
  have := far_le k hv 36 u hu
  have h36 := okW_36 k
  unfold far
  omega
theorem m_farOf {F : Nat} (hF : 1000 ≤ F) {m : HT} {a : Nat → Nat} (h : RM m a) (k : okW (a 0) (a 1)) {u v : Nat} (hu : u < a 0 * a 1) (hv : v < a 0 * a 1) : fX7_farOf F m (nI u) (nI v) = some (nI (far (a 0) (a 1) u v), m) := by
  have := far_35 k hu hv
  unfold fX7_farOf
  have e := m_farOf_l hF h k hv (far (a 0) (a 1) u v) u 0 F hu rfl (by omega)
  rw [Nat.zero_add] at e
  exact e
def strt (a : Nat → Nat) (i : Nat) : Nat → Nat := fun l => if aG a i l = true then far (a 0) (a 1) (a (4 + 8 * i)) l else 0
def mFct (a : Nat → Nat) (i what : Nat) : Nat :=
  if what = 0 then xO (a 0) (a (4 + 8 * i)) else if what = 1 then yO (a 0) (a (4 + 8 * i)) else if what = 2 then a (5 + 8 * i) else if what = 3 then cntB (aG a i) 36 else if what = 4 then wN a (2 * i) + wN a (2 * i + 1) else sumB (strt a i) 36
theorem m_strt_l {F : Nat} (hF : 1000 ≤ F) {m : HT} {a : Nat → Nat} (h : RM m a) (k : okW (a 0) (a 1)) {i : Nat} (hi : i < 5) (hM : okM a i) : ∀ d l n, l + d = 36 → d < n → fX7_messageTold_95 F n m (nI i) (nI (a (4 + 8 * i))) (nI (sumB (strt a i) l)) (nI l) = some (nI (sumB (strt a i) 36), m) := by
  obtain ⟨hs, -, -, hlo, hhi, hg⟩ := hM
  intro d
  induction d with
  | zero =>
    intro l n hid hd
    obtain ⟨n, rfl⟩ : ∃ n', n = n' + 1 := ⟨n - 1, by omega⟩
    show fX7_messageTold_95b F (fX7_messageTold_95 F n) m _ _ _ _ = _
    unfold fX7_messageTold_95b
    rw [if_pos (by rw [n36, le_nI (by omega) (by omega)]; omega), show l = 36 by omega]
  | succ d ih =>
    intro l n hid hd
    obtain ⟨n, rfl⟩ : ∃ n', n = n' + 1 := ⟨n - 1, by omega⟩
    have ih1 := ih (l + 1) n (by omega) (by omega)
    rw [sumB] at ih1
    show fX7_messageTold_95b F (fX7_messageTold_95 F n) m _ _ _ _ = _
    unfold fX7_messageTold_95b fX7_messageTold_125
    rw [if_neg (by rw [n36, le_nI (by omega) (by omega)]; omega), bds (m_isGoal h hi (by omega) hlo hhi)]
    by_cases e : aG a i l = true
    · have es : strt a i l = far (a 0) (a 1) (a (4 + 8 * i)) l := by unfold strt; rw [if_pos e]
      rw [if_pos e, if_neg (by decide), bds (m_farOf hF h k hs (hg l e).1), lts, lts, nI_1, nI_add]
      rw [es] at ih1
      exact ih1
    · have es : strt a i l = 0 := by unfold strt; rw [if_neg e]
      rw [if_neg e, if_pos rfl, lts, lts, nI_1, n0, nI_add]
      rw [es] at ih1
      exact ih1
theorem m_messageTold {F : Nat} (hF : 1000 ≤ F) {m : HT} {a : Nat → Nat} (h : RM m a) (k : WF1 a) (hW : WM m a) {i what : Nat} (hi : i < a 3) (hq : what < 6) : fX7_messageTold F m (nI i) (nI what) = some (nI (mFct a i what), m) := by
  have h5 := k.1.2.1
  have h36 := okW_36 k.1.1
  have hM := k.1.2.2 i hi
  obtain ⟨hs, -, -, hlo, hhi, hg⟩ := id hM
  have q0 := (hW (2 * i) (by omega)).2
  have q1 := (hW (2 * i + 1) (by omega)).2
  have o1 : fX7_of0 F m (nI i) 1 = some (nI (a (5 + 8 * i)), m) := by rw [n1, m_of0 h (by omega) (by omega), show 4 + 8 * i + 1 = 5 + 8 * i by omega]
  unfold fX7_messageTold mFct
  rw [bds (m_of00 h (by omega)), ite_n n0 (by omega) (by omega), ite_n n1 (by omega) (by omega), ite_n n2 (by omega) (by omega), ite_n n3 (by omega) (by omega), ite_n n4 (by omega) (by omega)]
  by_cases e0 : what = 0
  · rw [if_pos e0, if_pos e0, bds (m_xOf h k.1.1 (by omega))]
  rw [if_neg e0, if_neg e0]
  by_cases e1 : what = 1
  · rw [if_pos e1, if_pos e1, bds (m_yOf h k.1.1 (by omega))]
  rw [if_neg e1, if_neg e1]
  by_cases e2 : what = 2
  · rw [if_pos e2, if_pos e2, bds o1]
  rw [if_neg e2, if_neg e2]
  by_cases e3 : what = 3
  · rw [if_pos e3, if_pos e3, bds (m_goalsOf hF h (by omega) hlo hhi)]
  rw [if_neg e3, if_neg e3]
  by_cases e4 : what = 4
  · rw [if_pos e4, if_pos e4, n2, pk_mul, nI_1, ckb (inb_nI (by omega) (by omega)), ckb (inb_nI (by omega) (by omega)), clamp_nI (by omega), clamp_nI (by omega), q0, q1, nI_add]
  rw [if_neg e4, if_neg e4]
  exact m_strt_l hF h k.1.1 (by omega) hM 36 0 F (by omega) (by omega)
-- counts
def dnC (a : Nat → Nat) : Nat := sumB (fun l => cntB (dnB a l) 4) (a 0 * a 1)
def pM (i : Nat) : Nat → Bool := fun w => decide (w / 2 = i)
def cFct (a : Nat → Nat) (what : Nat) : Nat :=
  if what = 0 then a 0 else if what = 1 then a 1 else if what = 2 then a 3 else if what = 3 then a 2 else if what = 4 then dnC a else if what = 5 then sumB (hms a) (2 * a 3) else if what = 6 then sumB (wtw a) (2 * a 3) else cntB (fun i => alD a (pM i)) (a 3)
theorem m_cnt125 {F : Nat} (hF : 1000 ≤ F) {m : HT} {a : Nat → Nat} (h : RM m a) (k : WF1 a) (hW : WM m a) {what : Nat} (hq : what < 8) : ∀ d i n, i + d = a 3 → d < n → fX7_countTold_125 F n m (nI what) (nI (dnC a)) (nI (sumB (hms a) (2 * a 3))) (nI (sumB (wtw a) (2 * a 3))) (nI (cntB (fun i => alD a (pM i)) i)) (nI i) = some (nI (cFct a what), m) := by
  have h5 := k.1.2.1
  intro d
  induction d with
  | zero =>
    intro i n hid hd
    obtain ⟨n, rfl⟩ : ∃ n', n = n' + 1 := ⟨n - 1, by omega⟩
    show fX7_countTold_125b F (fX7_countTold_125 F n) m _ _ _ _ _ _ = _
    unfold fX7_countTold_125b cFct
    rw [ckb (by decide), c3, h 3 (by omega), if_pos (by rw [le_nI (by omega) (by omega)]; omega), ckb (by decide), ckb (by decide), ckb (by decide), ckb (by decide), c0, c1, c2, h 0 (by omega), h 1 (by omega), h 2 (by omega), ite_n n0 (by omega) (by omega), ite_n n1 (by omega) (by omega), ite_n n2 (by omega) (by omega), ite_n n3 (by omega) (by omega), ite_n n4 (by omega) (by omega), ite_n n5 (by omega) (by omega), ite_n n6 (by omega) (by omega), show i = a 3 by omega]
    by_cases e0 : what = 0
    · rw [if_pos e0, if_pos e0]
    rw [if_neg e0, if_neg e0]
    by_cases e1 : what = 1
    · rw [if_pos e1, if_pos e1]
    rw [if_neg e1, if_neg e1]
    by_cases e2 : what = 2
    · rw [if_pos e2, if_pos e2]
    rw [if_neg e2, if_neg e2]
    by_cases e3 : what = 3
    · rw [if_pos e3, if_pos e3]
    rw [if_neg e3, if_neg e3]
    by_cases e4 : what = 4
    · rw [if_pos e4, if_pos e4]
    rw [if_neg e4, if_neg e4]
    by_cases e5 : what = 5
    · rw [if_pos e5, if_pos e5]
    rw [if_neg e5, if_neg e5]
    by_cases e6 : what = 6
    · rw [if_pos e6, if_pos e6]
    rw [if_neg e6, if_neg e6]
  | succ d ih =>
    intro i n hid hd
    obtain ⟨n, rfl⟩ : ∃ n', n = n' + 1 := ⟨n - 1, by omega⟩
    have ih1 := ih (i + 1) n (by omega) (by omega)
    rw [cntB] at ih1
    show fX7_countTold_125b F (fX7_countTold_125 F n) m _ _ _ _ _ _ = _
    unfold fX7_countTold_125b fX7_countTold_152
    rw [ckb (by decide), c3, h 3 (by omega), if_neg (by rw [le_nI (by omega) (by omega)]; omega), bds (m_areDone hF h k hW (p := pM i) (Or.inr ⟨i, by omega, rfl, fun _ => rfl⟩))]
    by_cases e : alD a (pM i) = true
    · rw [if_pos e, if_neg (by decide), lts, lts, nI_1, nI_1]
      rw [if_pos e] at ih1
      exact ih1
    · rw [if_neg e, if_pos rfl, lts, lts, nI_1, n0, nI_add]
      rw [if_neg e] at ih1
      exact ih1
theorem m_cnt74 {F : Nat} (hF : 1000 ≤ F) {m : HT} {a : Nat → Nat} (h : RM m a) (k : WF1 a) (hW : WM m a) {what : Nat} (hq : what < 8) : ∀ d w n, w + d = 2 * a 3 → d < n → fX7_countTold_74 F n m (nI what) (nI (dnC a)) (nI (sumB (hms a) w)) (nI (sumB (wtw a) w)) 0 (nI w) = some (nI (cFct a what), m) := by
  have h5 := k.1.2.1
  intro d
  induction d with
  | zero =>
    intro w n hid hd
    obtain ⟨n, rfl⟩ : ∃ n', n = n' + 1 := ⟨n - 1, by omega⟩
    show fX7_countTold_74b F (fX7_countTold_74 F n) m _ _ _ _ _ _ = _
    unfold fX7_countTold_74b
    rw [ckb (by decide), c3, h 3 (by omega), n2, pk_mul, if_pos (by rw [le_nI (by omega) (by omega)]; omega), show w = 2 * a 3 by omega]
    exact m_cnt125 hF h k hW hq (a 3) 0 F (by omega) (by omega)
  | succ d ih =>
    intro w n hid hd
    obtain ⟨n, rfl⟩ : ∃ n', n = n' + 1 := ⟨n - 1, by omega⟩
    have ih1 := ih (w + 1) n (by omega) (by omega)
    rw [sumB, sumB] at ih1
    show fX7_countTold_74b F (fX7_countTold_74 F n) m _ _ _ _ _ _ = _
    unfold fX7_countTold_74b
    rw [ckb (by decide), c3, h 3 (by omega), if_neg (by rw [n2, pk_mul, le_nI (by omega) (by omega)]; omega), bds (m_heldMany h k hW (by omega)), lts, nI_add, bds (m_wait h (by omega)), lts, nI_add, lts, nI_1]
    exact ih1
theorem m_cnt34 {F : Nat} {m : HT} {a : Nat → Nat} (h : RM m a) (hD : okD a) {l c : Nat} (hl : l < 36) {W9 p q r : Int32} (rec13 : HT → Int32 → Int32 → Int32 → Int32 → Int32 → Int32 → Option (Int32 × HT)) : ∀ d e n, e + d = 4 → d < n → fX7_countTold_34 F rec13 n m W9 (nI (c + cntB (dnB a l) e)) p q r (nI l) (nI e) = rec13 m W9 (nI (c + cntB (dnB a l) 4)) p q r (nI (l + 1)) := by
  intro d
  induction d with
  | zero =>
    intro e n hid hd
    obtain ⟨n, rfl⟩ : ∃ n', n = n' + 1 := ⟨n - 1, by omega⟩
    show fX7_countTold_34b F rec13 (fX7_countTold_34 F rec13 n) m _ _ _ _ _ _ _ = _
    unfold fX7_countTold_34b
    rw [if_pos (by rw [n4, le_nI (by omega) (by omega)]; omega), lts, nI_1, show e = 4 by omega]
  | succ d ih =>
    intro e n hid hd
    obtain ⟨n, rfl⟩ : ∃ n', n = n' + 1 := ⟨n - 1, by omega⟩
    have ih1 := ih (e + 1) n (by omega) (by omega)
    rw [cntB] at ih1
    show fX7_countTold_34b F rec13 (fX7_countTold_34 F rec13 n) m _ _ _ _ _ _ _ = _
    unfold fX7_countTold_34b fX7_countTold_57
    rw [if_neg (by rw [n4, le_nI (by omega) (by omega)]; omega), bds (m_isDown h hD hl (by omega))]
    by_cases q : dnB a l e = true
    · rw [if_pos q, if_neg (by decide), lts, lts, nI_1, nI_1]
      rw [if_pos q] at ih1
      exact ih1
    · rw [if_neg q, if_pos rfl, lts, lts, nI_1, n0, nI_add]
      rw [if_neg q] at ih1
      exact ih1
theorem m_countTold_l {F : Nat} (hF : 1000 ≤ F) {m : HT} {a : Nat → Nat} (h : RM m a) (k : WF1 a) (hW : WM m a) {what : Nat} (hq : what < 8) : ∀ d l n, l + d = a 0 * a 1 → d < n → fX7_countTold_13 F n m (nI what) (nI (sumB (fun l => cntB (dnB a l) 4) l)) 0 0 0 (nI l) = some (nI (cFct a what), m) := by
  have h36 := okW_36 k.1.1
  have h5 := k.1.2.1
  intro d
  induction d with
  | zero =>
    intro l n hid hd
    obtain ⟨n, rfl⟩ : ∃ n', n = n' + 1 := ⟨n - 1, by omega⟩
    show fX7_countTold_13b F (fX7_countTold_13 F n) m _ _ _ _ _ _ = _
    unfold fX7_countTold_13b
    rw [ckb (by decide), ckb (by decide), c0, c1, h 0 (by omega), h 1 (by omega), pk_mul, if_pos (by rw [le_nI (by omega) (by omega)]; omega), show l = a 0 * a 1 by omega]
    exact m_cnt74 hF h k hW hq (2 * a 3) 0 F (by omega) (by omega)
  | succ d ih =>
    intro l n hid hd
    obtain ⟨n, rfl⟩ : ∃ n', n = n' + 1 := ⟨n - 1, by omega⟩
    have ih1 := ih (l + 1) n (by omega) (by omega)
    rw [sumB] at ih1
    show fX7_countTold_13b F (fX7_countTold_13 F n) m _ _ _ _ _ _ = _
    unfold fX7_countTold_13b
    rw [ckb (by decide), ckb (by decide), c0, c1, h 0 (by omega), h 1 (by omega), pk_mul, if_neg (by rw [le_nI (by omega) (by omega)]; omega)]
    exact (m_cnt34 h k.2.2 (l := l) (c := sumB (fun l => cntB (dnB a l) 4) l) (by omega) (fX7_countTold_13 F n) 4 0 F (by omega) (by omega)).trans ih1
theorem m_countTold {F : Nat} (hF : 1000 ≤ F) {m : HT} {a : Nat → Nat} (h : RM m a) (k : WF1 a) (hW : WM m a) {what : Nat} (hq : what < 8) : fX7_countTold F m (nI what) = some (nI (cFct a what), m) := by
  have h36 := okW_36 k.1.1
  exact m_countTold_l hF h k hW hq (a 0 * a 1) 0 F (by omega) (by omega)
-- digest
def hsh (h : Int64) (f : Nat → Int32) : Nat → Int64
  | 0 => h
  | n + 1 => 31 * hsh h f n + (f n).toInt64
def dgW (a : Nat → Nat) (h : Int64) (w : Nat) : Int64 := hsh (hsh h (fun q => nI (wFct a w q)) 9) (fun j => nI (tel (a 0) (wP a w j))) (wN a w + 1)
def dgM (a : Nat → Nat) (h : Int64) (i : Nat) : Int64 := dgW a (dgW a (hsh h (fun q => nI (mFct a i q)) 6) (2 * i)) (2 * i + 1)
def dgN (a : Nat → Nat) (h : Int64) : Nat → Int64
  | 0 => h
  | i + 1 => dgM a (dgN a h i) i
def dgD (a : Nat → Nat) (h : Int64) : Nat → Int64
  | 0 => h
  | l + 1 => hsh (dgD a h l) (fun d => if dnB a l d = true then 1 else 0) 4
def dgA (a : Nat → Nat) (T : Nat → Int32) : Int64 := 31 * dgN a (dgD a (hsh (hsh 2806 T 5) (fun q => nI (cFct a q)) 8) (a 0 * a 1)) (a 3) + (whn a (fun _ => true)).toInt64
theorem m_mix {F : Nat} (m : HT) (v : Int64) : fX7_mix F m v = some ((), sL m 0 16 (31 * m.2 0 16 + v)) := rfl
def sH (m : HT) (v : Int64) : HT := sL m 0 16 v
theorem sH_1 (m : HT) (v : Int64) : (sH m v).1 = m.1 := rfl
theorem sL_r (x : HT) (k i : Nat) (v : Int64) (c q : Nat) : (sL x k i v).2 c q = if c = k ∧ q = i then v else x.2 c q := by
  unfold sL va_up vp_updL
  by_cases h : c = k
  · subst h
    by_cases h2 : q = i <;> simp [h2]
  · simp [h]
theorem sH_v (m : HT) (v : Int64) : (sH m v).2 0 16 = v := by unfold sH; rw [sL_r, if_pos ⟨rfl, rfl⟩]
theorem sH_sH (m : HT) (v u : Int64) : sH (sH m v) u = sH m u := by
  refine Prod.ext rfl ?_
  funext c q
  unfold sH
  rw [sL_r, sL_r, sL_r]
  split <;> rfl
theorem sH_self {m : HT} {v : Int64} (h : m.2 0 16 = v) : sH m v = m := by
  refine Prod.ext rfl ?_
  funext c q
  unfold sH
  rw [sL_r]
  by_cases e : c = 0 ∧ q = 16
  · rw [if_pos e, e.1, e.2, h]
  · rw [if_neg e]
theorem m_mixH {F : Nat} (m : HT) (u v : Int64) : fX7_mix F (sH m u) v = some ((), sH m (31 * u + v)) := by
  rw [m_mix, sH_v]
  show some ((), sH (sH m u) (31 * u + v)) = _
  rw [sH_sH]
theorem RM.sH {m : HT} {a : Nat → Nat} (h : RM m a) (v : Int64) : RM (sH m v) a := h
theorem WM.sH {m : HT} {a : Nat → Nat} (h : WM m a) (v : Int64) : WM (sH m v) a := h
theorem m_dig65 {F : Nat} {m : HT} {a : Nat → Nat} (h : RM m a) (k : WF1 a) (hW : WM m a) {w : Nat} (hw : w < 2 * a 3) {I : Int32} {g : Int64} (rec29 : HT → Int32 → Int32 → Option (Unit × HT)) : ∀ d j n, j + d = wN a w + 1 → d < n → fX7_mixMessage_65 F rec29 n (sH m (hsh g (fun j => nI (tel (a 0) (wP a w j))) j)) I (nI w) (nI j) = rec29 (sH m (hsh g (fun j => nI (tel (a 0) (wP a w j))) (wN a w + 1))) I (nI (w + 1)) := by
  obtain ⟨b1, b2, b3, b4, b5, b6⟩ := k.b hw
  obtain ⟨-, q4⟩ := hW w hw
  intro d
  induction d with
  | zero =>
    intro j n hid hd
    obtain ⟨n, rfl⟩ : ∃ n', n = n' + 1 := ⟨n - 1, by omega⟩
    show fX7_mixMessage_65b F rec29 (fX7_mixMessage_65 F rec29 n) _ _ _ _ = _
    unfold fX7_mixMessage_65b
    rw [ckb (inb_nI (by omega) (by omega)), clamp_nI (by omega), sH_1, q4, if_pos (by rw [lt_nI (by omega) (by omega)]; omega), lts, nI_1, show j = wN a w + 1 by omega]
  | succ d ih =>
    intro j n hid hd
    obtain ⟨n, rfl⟩ : ∃ n', n = n' + 1 := ⟨n - 1, by omega⟩
    have ih1 := ih (j + 1) n (by omega) (by omega)
    rw [hsh] at ih1
    have p1 := wP_lt k.1 hw (j := j) (by omega)
    show fX7_mixMessage_65b F rec29 (fX7_mixMessage_65 F rec29 n) _ _ _ _ = _
    unfold fX7_mixMessage_65b
    rw [ckb (inb_nI (by omega) (by omega)), clamp_nI (i := w) (by omega), sH_1, q4, if_neg (by rw [lt_nI (by omega) (by omega)]; omega), n37, pk_mul, nI_add, ckb (inb_nI (by omega) (by omega)), clamp_nI (by omega), m_way hW hw (by omega), bds (m_toldOf (h.sH _) k.1.1 p1.2), bds (m_mixH m _ _), lts, nI_1]
    exact ih1
theorem m_dig40 {F : Nat} (hF : 1000 ≤ F) {m : HT} {a : Nat → Nat} (h : RM m a) (k : WF1 a) (hW : WM m a) {w : Nat} (hw : w < 2 * a 3) {I : Int32} {g : Int64} (rec29 : HT → Int32 → Int32 → Option (Unit × HT)) : ∀ d j n, j + d = 9 → d < n → fX7_mixMessage_40 F rec29 n (sH m (hsh g (fun q => nI (wFct a w q)) j)) I (nI w) (nI j) = rec29 (sH m (dgW a g w)) I (nI (w + 1)) := by
  have b := k.b hw
  intro d
  induction d with
  | zero =>
    intro j n hid hd
    obtain ⟨n, rfl⟩ : ∃ n', n = n' + 1 := ⟨n - 1, by omega⟩
    show fX7_mixMessage_40b F rec29 (fX7_mixMessage_40 F rec29 n) _ _ _ _ = _
    unfold fX7_mixMessage_40b
    rw [if_pos (by rw [n9, le_nI (by omega) (by omega)]; omega), show j = 9 by omega]
    exact m_dig65 h k hW hw (g := hsh g (fun q => nI (wFct a w q)) 9) rec29 (wN a w + 1) 0 F (by omega) (by omega)
  | succ d ih =>
    intro j n hid hd
    obtain ⟨n, rfl⟩ : ∃ n', n = n' + 1 := ⟨n - 1, by omega⟩
    have ih1 := ih (j + 1) n (by omega) (by omega)
    rw [hsh] at ih1
    show fX7_mixMessage_40b F rec29 (fX7_mixMessage_40 F rec29 n) _ _ _ _ = _
    unfold fX7_mixMessage_40b
    rw [if_neg (by rw [n9, le_nI (by omega) (by omega)]; omega), bds (m_wormTold hF (h.sH _) k (hW.sH _) hw (by omega)), bds (m_mixH m _ _), lts, nI_1]
    exact ih1
theorem m_dig40s {F : Nat} (hF : 1000 ≤ F) {m : HT} {a : Nat → Nat} (h : RM m a) (k : WF1 a) (hW : WM m a) {w : Nat} (hw : w < 2 * a 3) (I : Int32) (g : Int64) (rec29 : HT → Int32 → Int32 → Option (Unit × HT)) : fX7_mixMessage_40 F rec29 F (sH m g) I (nI w) 0 = rec29 (sH m (dgW a g w)) I (nI (w + 1)) := m_dig40 hF h k hW hw (I := I) (g := g) rec29 9 0 F (by omega) (by omega)
theorem m_dig29 {F n : Nat} (hF : 1000 ≤ F) {m : HT} {a : Nat → Nat} (h : RM m a) (k : WF1 a) (hW : WM m a) {i : Nat} (hi : i < a 3) {w : Nat} (hw : w < 2 * i + 2) (hw2 : w < 2 * a 3) (g : Int64) : fX7_mixMessage_29 F (n + 1) (sH m g) (nI i) (nI w) = fX7_mixMessage_29 F n (sH m (dgW a g w)) (nI i) (nI (w + 1)) := by
  have h5 := k.1.2.1
  show fX7_mixMessage_29b F (fX7_mixMessage_29 F n) _ _ _ = _
  unfold fX7_mixMessage_29b
  rw [if_neg (by rw [n2, pk_mul, nI_add, le_nI (by omega) (by omega)]; omega)]
  exact m_dig40s hF h k hW hw2 _ _ _
theorem m_dig29e {F n : Nat} {m : HT} {i : Nat} (hi : i < 5) : fX7_mixMessage_29 F (n + 1) m (nI i) (nI (2 * i + 1 + 1)) = some ((), m) := by
  show fX7_mixMessage_29b F (fX7_mixMessage_29 F n) _ _ _ = _
  unfold fX7_mixMessage_29b
  rw [if_pos (by rw [n2, pk_mul, nI_add, le_nI (by omega) (by omega)]; omega)]
theorem m_dig2 {F : Nat} (hF : 1000 ≤ F) {m : HT} {a : Nat → Nat} (h : RM m a) (k : WF1 a) (hW : WM m a) {i : Nat} (hi : i < a 3) {g : Int64} : ∀ d j n, j + d = 6 → d < n → fX7_mixMessage_2 F n (sH m (hsh g (fun q => nI (mFct a i q)) j)) (nI i) (nI j) = some ((), sH m (dgM a g i)) := by
  have h5 := k.1.2.1
  intro d
  induction d with
  | zero =>
    intro j n hid hd
    obtain ⟨n, rfl⟩ : ∃ n', n = n' + 1 := ⟨n - 1, by omega⟩
    obtain ⟨F', rfl⟩ : ∃ F', F = F' + 3 := ⟨F - 3, by omega⟩
    have e6 : j = 6 := by omega
    subst e6
    show fX7_mixMessage_2b (F' + 3) (fX7_mixMessage_2 (F' + 3) n) _ _ _ = _
    unfold fX7_mixMessage_2b
    rw [if_pos (by decide), n2, pk_mul, lts]
    rw [m_dig29 (n := F' + 2) hF h k hW hi (by omega) (by omega), m_dig29 (n := F' + 1) hF h k hW hi (by omega) (by omega), m_dig29e (n := F') (by omega), dgM]
  | succ d ih =>
    intro j n hid hd
    obtain ⟨n, rfl⟩ : ∃ n', n = n' + 1 := ⟨n - 1, by omega⟩
    have ih1 := ih (j + 1) n (by omega) (by omega)
    rw [hsh] at ih1
    show fX7_mixMessage_2b F (fX7_mixMessage_2 F n) _ _ _ = _
    unfold fX7_mixMessage_2b
    rw [if_neg (by rw [n6, le_nI (by omega) (by omega)]; omega), bds (m_messageTold hF (h.sH _) k (hW.sH _) hi (by omega)), bds (m_mixH m _ _), lts, nI_1]
    exact ih1
theorem m_dig116 {F : Nat} (hF : 1000 ≤ F) {m : HT} {a : Nat → Nat} (h : RM m a) (k : WF1 a) (hW : WM m a) {g : Int64} : ∀ d i n, i + d = a 3 → d < n → ∃ m', fX7_digest_116 F n (sH m (dgN a g i)) (nI i) = some (31 * dgN a g (a 3) + (whn a (fun _ => true)).toInt64, m') ∧ RM m' a ∧ ∀ c q, c ≠ 1 → c ≠ 2 → c ≠ 6 → c ≠ 7 → c ≠ 8 → c ≠ 9 → m'.1 c q = m.1 c q := by
  have h5 := k.1.2.1
  intro d
  induction d with
  | zero =>
    intro i n hid hd
    obtain ⟨n, rfl⟩ : ∃ n', n = n' + 1 := ⟨n - 1, by omega⟩
    obtain ⟨m', e1, r1, -, f1⟩ := m_whenDone hF (h.sH (dgN a g i)) k (i := -1) (p := fun _ => true) (Or.inl ⟨rfl, fun _ => rfl⟩)
    have e2 : sH m' (dgN a g i) = m' := sH_self (by rw [f1.1, sH_v])
    have ei : i = a 3 := by omega
    show ∃ m', fX7_digest_116b F (fX7_digest_116 F n) _ _ = _ ∧ _
    unfold fX7_digest_116b
    rw [ckb (by decide), c3, sH_1, h 3 (by omega), if_pos (by rw [le_nI (by omega) (by omega)]; omega), bds e1, ← e2, bds (m_mixH _ _ _), sH_v, ← ei]
    exact ⟨_, rfl, r1, fun c q q1 q2 q3 q4 q5 q6 => f1.2 c q q1 q2 q3 q4 q5 q6⟩
  | succ d ih =>
    intro i n hid hd
    obtain ⟨n, rfl⟩ : ∃ n', n = n' + 1 := ⟨n - 1, by omega⟩
    have ih1 := ih (i + 1) n (by omega) (by omega)
    rw [dgN] at ih1
    have s1 : fX7_mixMessage F (sH m (dgN a g i)) (nI i) = some ((), sH m (dgM a (dgN a g i) i)) := m_dig2 hF h k hW (i := i) (by omega) (g := dgN a g i) 6 0 F (by omega) (by omega)
    show ∃ m', fX7_digest_116b F (fX7_digest_116 F n) _ _ = _ ∧ _
    unfold fX7_digest_116b
    rw [ckb (by decide), c3, sH_1, h 3 (by omega), if_neg (by rw [le_nI (by omega) (by omega)]; omega), bds s1, lts, nI_1]
    exact ih1
theorem m_dig79 {F : Nat} {m : HT} {a : Nat → Nat} (h : RM m a) (hD : okD a) {l : Nat} (hl : l < 36) {g : Int64} (rec60 : HT → Int32 → Option (Int64 × HT)) : ∀ d e n, e + d = 4 → d < n → fX7_digest_79 F rec60 n (sH m (hsh g (fun d => if dnB a l d = true then 1 else 0) e)) (nI l) (nI e) = rec60 (sH m (hsh g (fun d => if dnB a l d = true then 1 else 0) 4)) (nI (l + 1)) := by
  intro d
  induction d with
  | zero =>
    intro e n hid hd
    obtain ⟨n, rfl⟩ : ∃ n', n = n' + 1 := ⟨n - 1, by omega⟩
    show fX7_digest_79b F rec60 (fX7_digest_79 F rec60 n) _ _ _ = _
    unfold fX7_digest_79b
    rw [if_pos (by rw [n4, le_nI (by omega) (by omega)]; omega), lts, nI_1, show e = 4 by omega]
  | succ d ih =>
    intro e n hid hd
    obtain ⟨n, rfl⟩ : ∃ n', n = n' + 1 := ⟨n - 1, by omega⟩
    have ih1 := ih (e + 1) n (by omega) (by omega)
    rw [hsh] at ih1
    show fX7_digest_79b F rec60 (fX7_digest_79 F rec60 n) _ _ _ = _
    unfold fX7_digest_79b fX7_digest_99
    rw [if_neg (by rw [n4, le_nI (by omega) (by omega)]; omega), bds (m_isDown (h.sH _) hD hl (by omega))]
    by_cases q : dnB a l e = true
    · rw [if_pos q, if_neg (by decide), bds (m_mixH m _ _), lts, nI_1]
      rw [if_pos q] at ih1
      exact ih1
    · rw [if_neg q, if_pos rfl, bds (m_mixH m _ _), lts, nI_1]
      rw [if_neg q] at ih1
      exact ih1
theorem m_dig60 {F : Nat} (hF : 1000 ≤ F) {m : HT} {a : Nat → Nat} (h : RM m a) (k : WF1 a) (hW : WM m a) {g : Int64} : ∀ d l n, l + d = a 0 * a 1 → d < n → ∃ m', fX7_digest_60 F n (sH m (dgD a g l)) (nI l) = some (31 * dgN a (dgD a g (a 0 * a 1)) (a 3) + (whn a (fun _ => true)).toInt64, m') ∧ RM m' a ∧ ∀ c q, c ≠ 1 → c ≠ 2 → c ≠ 6 → c ≠ 7 → c ≠ 8 → c ≠ 9 → m'.1 c q = m.1 c q := by
  have h36 := okW_36 k.1.1
  have h5 := k.1.2.1
  intro d
  induction d with
  | zero =>
    intro l n hid hd
    obtain ⟨n, rfl⟩ : ∃ n', n = n' + 1 := ⟨n - 1, by omega⟩
    show ∃ m', fX7_digest_60b F (fX7_digest_60 F n) _ _ = _ ∧ _
    unfold fX7_digest_60b
    rw [ckb (by decide), ckb (by decide), c0, c1, sH_1, h 0 (by omega), h 1 (by omega), pk_mul, if_pos (by rw [le_nI (by omega) (by omega)]; omega), show l = a 0 * a 1 by omega]
    exact m_dig116 hF h k hW (g := dgD a g (a 0 * a 1)) (a 3) 0 F (by omega) (by omega)
  | succ d ih =>
    intro l n hid hd
    obtain ⟨n, rfl⟩ : ∃ n', n = n' + 1 := ⟨n - 1, by omega⟩
    have ih1 := ih (l + 1) n (by omega) (by omega)
    rw [dgD] at ih1
    have s1 := m_dig79 (F := F) h k.2.2 (l := l) (by omega) (g := dgD a g l) (fX7_digest_60 F n) 4 0 F (by omega) (by omega)
    have s1' : fX7_digest_79 F (fX7_digest_60 F n) F (sH m (dgD a g l)) (nI l) 0 = _ := s1
    show ∃ m', fX7_digest_60b F (fX7_digest_60 F n) _ _ = _ ∧ _
    unfold fX7_digest_60b
    rw [ckb (by decide), ckb (by decide), c0, c1, sH_1, h 0 (by omega), h 1 (by omega), pk_mul, if_neg (by rw [le_nI (by omega) (by omega)]; omega), s1']
    exact ih1
theorem m_dig36 {F : Nat} (hF : 1000 ≤ F) {m : HT} {a : Nat → Nat} (h : RM m a) (k : WF1 a) (hW : WM m a) {g : Int64} : ∀ d j n, j + d = 8 → d < n → ∃ m', fX7_digest_36 F n (sH m (hsh g (fun q => nI (cFct a q)) j)) (nI j) = some (31 * dgN a (dgD a (hsh g (fun q => nI (cFct a q)) 8) (a 0 * a 1)) (a 3) + (whn a (fun _ => true)).toInt64, m') ∧ RM m' a ∧ ∀ c q, c ≠ 1 → c ≠ 2 → c ≠ 6 → c ≠ 7 → c ≠ 8 → c ≠ 9 → m'.1 c q = m.1 c q := by
  have h36 := okW_36 k.1.1
  intro d
  induction d with
  | zero =>
    intro j n hid hd
    obtain ⟨n, rfl⟩ : ∃ n', n = n' + 1 := ⟨n - 1, by omega⟩
    show ∃ m', fX7_digest_36b F (fX7_digest_36 F n) _ _ = _ ∧ _
    unfold fX7_digest_36b
    rw [if_pos (by rw [n8, le_nI (by omega) (by omega)]; omega), show j = 8 by omega]
    exact m_dig60 hF h k hW (g := hsh g (fun q => nI (cFct a q)) 8) (a 0 * a 1) 0 F (by omega) (by omega)
  | succ d ih =>
    intro j n hid hd
    obtain ⟨n, rfl⟩ : ∃ n', n = n' + 1 := ⟨n - 1, by omega⟩
    have ih1 := ih (j + 1) n (by omega) (by omega)
    rw [hsh] at ih1
    show ∃ m', fX7_digest_36b F (fX7_digest_36 F n) _ _ = _ ∧ _
    unfold fX7_digest_36b
    rw [if_neg (by rw [n8, le_nI (by omega) (by omega)]; omega), bds (m_countTold hF (h.sH _) k (hW.sH _) (by omega)), bds (m_mixH m _ _), lts, nI_1]
    exact ih1
def mTld (m : HT) (q : Nat) : Int32 := if q < 3 then m.1 4 q else if q = 3 then m.1 0 6 else m.1 0 3
theorem m_toldAt {F : Nat} {m : HT} {q : Nat} (hq : q < 5) : fX7_toldAt F m (nI q) = some (mTld m q, m) := by
  unfold fX7_toldAt mTld
  by_cases e : 3 ≤ q
  · rw [if_pos (by rw [n3, le_nI (by omega) (by omega)]; exact e), if_neg (show ¬ q < 3 by omega), ite_n n3 (by omega) (by omega)]
    split <;> rfl
  · rw [if_neg (by rw [n3, le_nI (by omega) (by omega)]; exact e), ckb (inb_nI (by omega) (by omega)), clamp_nI (by omega), if_pos (by omega)]
theorem m_dig13 {F : Nat} (hF : 1000 ≤ F) {m : HT} {a : Nat → Nat} (h : RM m a) (k : WF1 a) (hW : WM m a) : ∀ d j n, j + d = 5 → d < n → ∃ m', fX7_digest_13 F n (sH m (hsh 2806 (mTld m) j)) (nI j) = some (dgA a (mTld m), m') ∧ RM m' a ∧ ∀ c q, c ≠ 1 → c ≠ 2 → c ≠ 6 → c ≠ 7 → c ≠ 8 → c ≠ 9 → m'.1 c q = m.1 c q := by
  intro d
  induction d with
  | zero =>
    intro j n hid hd
    obtain ⟨n, rfl⟩ : ∃ n', n = n' + 1 := ⟨n - 1, by omega⟩
    show ∃ m', fX7_digest_13b F (fX7_digest_13 F n) _ _ = _ ∧ _
    unfold fX7_digest_13b
    rw [if_pos (by rw [n5, le_nI (by omega) (by omega)]; omega), show j = 5 by omega]
    exact m_dig36 hF h k hW (g := hsh 2806 (mTld m) 5) 8 0 F (by omega) (by omega)
  | succ d ih =>
    intro j n hid hd
    obtain ⟨n, rfl⟩ : ∃ n', n = n' + 1 := ⟨n - 1, by omega⟩
    have ih1 := ih (j + 1) n (by omega) (by omega)
    rw [hsh] at ih1
    have e1 : fX7_toldAt F (sH m (hsh 2806 (mTld m) j)) (nI j) = some (mTld m j, sH m (hsh 2806 (mTld m) j)) := m_toldAt (by omega)
    show ∃ m', fX7_digest_13b F (fX7_digest_13 F n) _ _ = _ ∧ _
    unfold fX7_digest_13b
    rw [if_neg (by rw [n5, le_nI (by omega) (by omega)]; omega), bds e1, bds (m_mixH m _ _), lts, nI_1]
    exact ih1
theorem m_digest {F : Nat} (hF : 1000 ≤ F) {m : HT} {a : Nat → Nat} (h : RM m a) (k : WF1 a) : ∃ m', fX7_digest F m = some (dgA a (mTld m), m') ∧ RM m' a ∧ ∀ c q, c ≠ 1 → c ≠ 2 → c ≠ 6 → c ≠ 7 → c ≠ 8 → c ≠ 9 → m'.1 c q = m.1 c q := by
  obtain ⟨m1, e1, f1, w1⟩ := m_laysWays hF k.1 (h.sH 2806)
  have e2 : sH m1 2806 = m1 := sH_self (by rw [f1.1, sH_v])
  have ht : mTld m1 = mTld m := by
    funext q
    unfold mTld
    rw [f1.2 4 q (by decide) (by decide) (by decide) (by decide), f1.2 0 6 (by decide) (by decide) (by decide) (by decide), f1.2 0 3 (by decide) (by decide) (by decide) (by decide)]
    rfl
  obtain ⟨m', e3, r3, f3⟩ := m_dig13 hF (f1.rm (h.sH 2806)) k w1 5 0 F (by omega) (by omega)
  rw [ht] at e3
  unfold fX7_digest
  rw [lts]
  have e1' : fX7_laysWays F (sL m 0 16 2806) = some ((), m1) := e1
  rw [bds e1', ← e2]
  refine ⟨m', e3, r3, fun c q q1 q2 q3 q4 q5 q6 => ?_⟩
  rw [f3 c q q1 q2 q3 q4 q5 q6, f1.2 c q q3 q4 q5 q6]
  rfl
