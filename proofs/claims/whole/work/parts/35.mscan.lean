def lbI (src side k : Nat) : Int32 := if side = 0 then nI (src + k) else if k ≤ src then nI (src - k) else -1
def stI (side : Nat) : Int32 := if side = 0 then 1 else -1
theorem lbI_in {N src side k : Nat} (hs : src < N) (hside : side < 2) (hk : k ≤ tot N src side) : lbI src side k = nI (lbN src side k) ∧ lbN src side k < N := by
  rcases (show side = 0 ∨ side = 1 by omega) with rfl | rfl
  · simp only [tot, if_true] at hk
    simp only [lbI, lbN, if_true]
    exact ⟨trivial, by omega⟩
  · simp only [tot, show ¬ (1 : Nat) = 0 by decide, if_false] at hk
    simp only [lbI, lbN, show ¬ (1 : Nat) = 0 by decide, if_false, hk, if_true]
    exact ⟨trivial, by omega⟩
theorem lbI_next {N src side k : Nat} (hs : src < N) (hside : side < 2) (hk : k ≤ tot N src side) : lbI src side k + stI side = lbI src side (k + 1) := by
  rcases (show side = 0 ∨ side = 1 by omega) with rfl | rfl
  · simp only [lbI, stI, if_true]
    exact nI_1 _
  · simp only [tot, show ¬ (1 : Nat) = 0 by decide, if_false] at hk
    simp only [lbI, stI, show ¬ (1 : Nat) = 0 by decide, if_false, hk, if_true]
    by_cases h : k + 1 ≤ src
    · rw [if_pos h, nI_m1 (by omega), show src - k - 1 = src - (k + 1) by omega]
    · rw [if_neg h, show src - k = 0 by omega]
      decide
theorem lbI_out {F : Nat} {m : HT} {N src side : Nat} (hN : N < 2147483648) (hs : src < N) (hside : side < 2) : fX7_in F m (lbI src side (tot N src side + 1)) 0 (nI N - 1) = some (0, m) := by
  rcases (show side = 0 ∨ side = 1 by omega) with rfl | rfl
  · simp only [lbI, tot, if_true]
    refine m_in0 (Or.inr ?_)
    rw [n1, sub_nI (by omega), lt_nI (by omega) (by omega)]
    omega
  · simp only [lbI, tot, show ¬ (1 : Nat) = 0 by decide, if_false]
    rw [if_neg (by omega)]
    exact m_in0 (Or.inl (by decide))
theorem okY_n {W H : Nat} {g : Nat → Bool} {src side k : Nat} {q : WY} (h : okY W H g src side k q) : q.2.1 ≤ k ∧ q.1 < W * H := by
  obtain ⟨h1, h2, h3, -⟩ := h
  have := h3 q.2.1 (Nat.le_refl _)
  refine ⟨?_, by rw [h1]; exact this.1⟩
  by_cases e : side = 0
  · rw [if_pos e] at this; omega
  · rw [if_neg e] at this; omega
theorem m_scan {F : Nat} (hF : 1000 ≤ F) {m0 : HT} {a : Nat → Nat} (k : okW (a 0) (a 1)) {i side : Nat} (hi : i < 5) (hside : side < 2) (hM : okM a i) :
    ∀ d t n m, t + d = tot (a 0 * a 1) (a (4 + 8 * i)) side → d + 1 < n → RM m a → Fr m0 m (2 * i + side) → Ct m (2 * i + side) (scan (a 0) (a 1) (aG a i) (a (4 + 8 * i)) side t) →
    ∃ m', fX7_laysWay_68 F n m (nI i) (nI (2 * i + side)) (nI (a 0 * a 1)) (nI (scan (a 0) (a 1) (aG a i) (a (4 + 8 * i)) side t).1) (nI (scan (a 0) (a 1) (aG a i) (a (4 + 8 * i)) side t).2.1) (stI side) (lbI (a (4 + 8 * i)) side (t + 1)) = some ((), m') ∧ Fr m0 m' (2 * i + side) ∧ Ct m' (2 * i + side) (scan (a 0) (a 1) (aG a i) (a (4 + 8 * i)) side (tot (a 0 * a 1) (a (4 + 8 * i)) side)) ∧ m'.1 7 (2 * i + side) = nI (scan (a 0) (a 1) (aG a i) (a (4 + 8 * i)) side (tot (a 0 * a 1) (a (4 + 8 * i)) side)).2.1 := by
  have h36 := okW_36 k
  obtain ⟨hs, -, -, hlo, hhi, hgl⟩ := hM
  have hT : tot (a 0 * a 1) (a (4 + 8 * i)) side ≤ 35 := by unfold tot; split <;> omega
  intro d
  induction d with
  | zero =>
    intro t n m ht hd hR hFr hCt
    obtain ⟨n, rfl⟩ : ∃ n', n = n' + 1 := ⟨n - 1, by omega⟩
    have et : t = tot (a 0 * a 1) (a (4 + 8 * i)) side := by omega
    subst et
    show ∃ m', fX7_laysWay_68b F (fX7_laysWay_68 F n) m _ _ _ _ _ _ _ = _ ∧ _
    unfold fX7_laysWay_68b
    rw [bds (lbI_out (by omega) hs hside), if_pos rfl, ckb (inb_nI (by omega) (by omega)), clamp_nI (by omega), lts]
    refine ⟨_, rfl, hFr.s7, ⟨fun j hj => ?_, ?_, fun c hc => ?_⟩, ?_⟩
    · rw [sI_r, if_neg (by omega)]; exact hCt.1 j hj
    · rw [sI_r, if_neg (by omega)]; exact hCt.2.1
    · rw [sI_r, if_neg (by omega)]; exact hCt.2.2 c hc
    · rw [sI_r, if_pos ⟨rfl, rfl⟩]
  | succ d ih =>
    intro t n m ht hd hR hFr hCt
    obtain ⟨n, rfl⟩ : ∃ n', n = n' + 1 := ⟨n - 1, by omega⟩
    obtain ⟨hl1, hl2⟩ := lbI_in hs hside (k := t + 1) (by omega)
    have hnext := lbI_next hs hside (k := t + 1) (by omega)
    have hok := scan_ok (g := aG a i) k hs hside (t := t) (by omega)
    have hok' := scan_ok (g := aG a i) k hs hside (t := t + 1) (by omega)
    show ∃ m', fX7_laysWay_68b F (fX7_laysWay_68 F n) m _ _ _ _ _ _ _ = _ ∧ _
    unfold fX7_laysWay_68b
    rw [hl1, bds (m_inW hl2 (by omega)), if_neg (by decide), bds (m_isGoal hR hi (by omega) hlo hhi)]
    have hsc : scan (a 0) (a 1) (aG a i) (a (4 + 8 * i)) side (t + 1) = sc1 (a 0) (a 1) (aG a i) (lbN (a (4 + 8 * i)) side (t + 1)) (scan (a 0) (a 1) (aG a i) (a (4 + 8 * i)) side t) := rfl
    by_cases hg : aG a i (lbN (a (4 + 8 * i)) side (t + 1)) = true
    · rw [if_pos hg, if_neg (by decide)]
      rw [sc1, if_pos hg] at hsc
      obtain ⟨hn1, hat⟩ := okY_n hok
      obtain ⟨hn2, -⟩ := okY_n hok'
      have hc := hok.2.2.2.2.1
      have hP := hok.1
      rw [hsc] at hn2
      dsimp only at hn2
      generalize hq : scan (a 0) (a 1) (aG a i) (a (4 + 8 * i)) side t = q at *
      obtain ⟨m', e1, e2, e3⟩ := m_walk hF (m0 := m0) k (w := 2 * i + side) (n0 := q.2.1) (c := q.2.2.2.1) (at0 := q.1) (goal := lbN (a (4 + 8 * i)) side (t + 1)) (P := q.2.2.1) (G := q.2.2.2.2) (by omega) hat hl2 (by omega) (by omega) hP.symm (nI i) (nI (a 0 * a 1)) (stI side) (fX7_laysWay_68 F n) (far (a 0) (a 1) q.1 (lbN (a (4 + 8 * i)) side (t + 1))) 0 F m (by omega) (by omega) hR hFr hCt.1 (fun u h1 h2 => by omega) hCt.2.1 hCt.2.2
      have e3' : fX7_laysWay_91 F (fX7_laysWay_68 F n) F m (nI i) (nI (2 * i + side)) (nI (a 0 * a 1)) (nI q.1) (nI q.2.1) (stI side) (nI (lbN (a (4 + 8 * i)) side (t + 1))) = _ := e3
      rw [e3']
      unfold fX7_laysWay_156
      rw [lts, ← hl1, hnext]
      rw [← hsc] at e2
      have hR' : RM m' a := fun q9 h9 => by rw [e1.2.1 1 q9 (by decide) (by decide) (by decide) (by decide), ← hFr.2.1 1 q9 (by decide) (by decide) (by decide) (by decide), hR q9 h9]
      have := ih (t + 1) n m' (by omega) (by omega) hR' e1 e2
      rw [hsc] at this
      rw [hl1]
      exact this
    · rw [if_neg hg, if_pos rfl]
      rw [sc1, if_neg hg] at hsc
      unfold fX7_laysWay_156
      rw [lts, ← hl1, hnext]
      have := ih (t + 1) n m (by omega) (by omega) hR hFr (by rw [hsc]; exact hCt)
      rw [hsc] at this
      exact this
theorem m_laysWay {F : Nat} (hF : 1000 ≤ F) {m : HT} {a : Nat → Nat} (hR : RM m a) (k : okW (a 0) (a 1)) {i side : Nat} (hi : i < 5) (hside : side < 2) (hM : okM a i) :
    ∃ m', fX7_laysWay F m (nI i) (nI side) = some ((), m') ∧ Fr m m' (2 * i + side) ∧ Ct m' (2 * i + side) (wy a (2 * i + side)) ∧ m'.1 7 (2 * i + side) = nI (wN a (2 * i + side)) := by
  have h36 := okW_36 k
  have hs := hM.1
  have e1 : (2 * i + side) / 2 = i := by omega
  have e2 : (2 * i + side) % 2 = side := by omega
  have h00 : fX7_of0 F m (nI i) 0 = some (nI (a (4 + 8 * i)), m) := m_of0 (k := 0) hR hi (by omega)
  unfold fX7_laysWay wN wy
  rw [e1, e2, lts, n2, pk_mul, nI_add, ckb (by decide), ckb (by decide), lts, c0, c1, hR 0 (by omega), hR 1 (by omega), pk_mul, bds h00, n37, pk_mul, ckb (inb_nI (by omega) (by omega)), clamp_nI (by omega), lts, ckb (inb_nI (by omega) (by omega)), clamp_nI (by omega), lts]
  generalize hm1 : sI (sI m 6 (37 * (2 * i + side)) (nI (a (4 + 8 * i)))) 8 (2 * i + side) 0 = m1
  have hFr : Fr m m1 (2 * i + side) := by rw [← hm1]; exact (Fr.rf.s6 (by omega) (by omega)).s8
  have hCt : Ct m1 (2 * i + side) (scan (a 0) (a 1) (aG a i) (a (4 + 8 * i)) side 0) := by
    rw [← hm1]
    refine ⟨fun j hj => ?_, ?_, fun c hc => absurd hc (Nat.not_lt_zero c)⟩
    · have hj0 : j = 0 := Nat.le_zero.mp hj
      subst hj0
      rw [sI_r, if_neg (by omega), sI_r, if_pos ⟨rfl, rfl⟩]
      rfl
    · rw [sI_r, if_pos ⟨rfl, rfl⟩]
      rfl
  have hT : tot (a 0 * a 1) (a (4 + 8 * i)) side ≤ 35 := by unfold tot; split <;> omega
  have key := m_scan hF (m0 := m) k hi hside hM (tot (a 0 * a 1) (a (4 + 8 * i)) side) 0 F m1 (by omega) (by omega) (hFr.rm hR) hFr hCt
  have hst : lbI (a (4 + 8 * i)) side (0 + 1) = nI (a (4 + 8 * i)) + stI side := by
    have := lbI_next (k := 0) hs hside (by omega)
    rw [← this]
    have h0 := (lbI_in (k := 0) hs hside (by omega)).1
    rw [h0, lbN]
    split <;> rfl
  rw [hst] at key
  rcases (show side = 0 ∨ side = 1 by omega) with rfl | rfl
  · rw [if_pos (by decide)]
    unfold fX7_laysWay_59
    rw [lts]
    exact key
  · rw [if_neg (by decide)]
    unfold fX7_laysWay_59
    rw [lts]
    exact key
/-- the reference's rows hold the ways of all worms of a -/
def WM (m : HT) (a : Nat → Nat) : Prop := ∀ w, w < 2 * a 3 → Ct m w (wy a w) ∧ m.1 7 w = nI (wN a w)
def FrA (m m' : HT) : Prop := m'.2 = m.2 ∧ ∀ c q, c ≠ 6 → c ≠ 7 → c ≠ 8 → c ≠ 9 → m'.1 c q = m.1 c q
theorem FrA.rm {m m' : HT} {a : Nat → Nat} (h : FrA m m') (r : RM m a) : RM m' a := fun k hk => by rw [h.2 1 k (by decide) (by decide) (by decide) (by decide), r k hk]
theorem wyB {a : Nat → Nat} (h : WF0 a) {w : Nat} (hw : w < 2 * a 3) : okY (a 0) (a 1) (aG a (w / 2)) (a (4 + 8 * (w / 2))) (w % 2) (tot (a 0 * a 1) (a (4 + 8 * (w / 2))) (w % 2)) (wy a w) ∧ wN a w ≤ 35 ∧ wC a w ≤ 35 := by
  obtain ⟨k, hM, hm⟩ := h
  have h36 := okW_36 k
  have hs := (hm (w / 2) (by omega)).1
  have hok := scan_ok (g := aG a (w / 2)) (side := w % 2) k hs (by omega) (Nat.le_refl _)
  have h1 := (okY_n hok).1
  have hT : tot (a 0 * a 1) (a (4 + 8 * (w / 2))) (w % 2) ≤ 35 := by unfold tot; split <;> omega
  refine ⟨hok, by unfold wN wy; omega, ?_⟩
  have := hok.2.2.2.2.1
  unfold wC wy
  omega
theorem Ct.keep {m m' : HT} {w v : Nat} {a : Nat → Nat} (hwv : w ≠ v) (hn : wN a w ≤ 35) (hc : wC a w ≤ 35) (hF : Fr m m' v) (h : Ct m w (wy a w) ∧ m.1 7 w = nI (wN a w)) : Ct m' w (wy a w) ∧ m'.1 7 w = nI (wN a w) := by
  obtain ⟨f1, f2, f3, f4, f5⟩ := hF
  obtain ⟨⟨c1, c2, c3⟩, c4⟩ := h
  refine ⟨⟨fun j hj => ?_, ?_, fun c hc' => ?_⟩, ?_⟩
  · have : j ≤ wN a w := hj
    rw [f3 _ (by omega)]; exact c1 j hj
  · rw [(f4 w hwv).2]; exact c2
  · have : c < wC a w := hc'
    rw [f5 _ (by omega)]; exact c3 c hc'
  · rw [(f4 w hwv).1]; exact c4
theorem m_laysWays_l {F : Nat} (hF : 1000 ≤ F) {m0 : HT} {a : Nat → Nat} (h : WF0 a) :
    ∀ d i n m, i + d = a 3 → d < n → RM m a → FrA m0 m → (∀ w, w < 2 * i → Ct m w (wy a w) ∧ m.1 7 w = nI (wN a w)) →
    ∃ m', fX7_laysWays_2 F n m (nI i) = some ((), m') ∧ FrA m0 m' ∧ WM m' a := by
  intro d
  induction d with
  | zero =>
    intro i n m hid hd hR hFr hW
    obtain ⟨n, rfl⟩ : ∃ n', n = n' + 1 := ⟨n - 1, by omega⟩
    have := h.2.1
    refine ⟨m, ?_, hFr, fun w hw => hW w (by omega)⟩
    show fX7_laysWays_2b F (fX7_laysWays_2 F n) m (nI i) = _
    unfold fX7_laysWays_2b
    rw [ckb (by decide), c3, hR 3 (by omega), if_pos (by rw [le_nI (by omega) (by omega)]; omega)]
  | succ d ih =>
    intro i n m hid hd hR hFr hW
    obtain ⟨n, rfl⟩ : ∃ n', n = n' + 1 := ⟨n - 1, by omega⟩
    have h5 := h.2.1
    have hM := h.2.2 i (by omega)
    obtain ⟨m1, e1, f1, g1, w1⟩ := m_laysWay hF hR h.1 (i := i) (side := 0) (by omega) (by omega) hM
    obtain ⟨m2, e2, f2, g2, w2⟩ := m_laysWay hF (f1.rm hR) h.1 (i := i) (side := 1) (by omega) (by omega) hM
    have hFr' : FrA m0 m2 := ⟨by rw [f2.1, f1.1, hFr.1], fun c q c1 c2 c3 c4 => by rw [f2.2.1 c q c1 c2 c3 c4, f1.2.1 c q c1 c2 c3 c4, hFr.2 c q c1 c2 c3 c4]⟩
    have hb : ∀ w, w < 2 * a 3 → wN a w ≤ 35 ∧ wC a w ≤ 35 := fun w hw => (wyB h hw).2
    obtain ⟨m', e3, f3, w3⟩ := ih (i + 1) n m2 (by omega) (by omega) (f2.rm (f1.rm hR)) hFr' (fun w hw => by
      have b := hb w (by omega)
      by_cases h2 : w = 2 * i + 1
      · subst h2; exact ⟨g2, w2⟩
      · by_cases h3 : w = 2 * i + 0
        · subst h3
          exact Ct.keep (by omega) b.1 b.2 f2 ⟨g1, w1⟩
        · exact Ct.keep h2 b.1 b.2 f2 (Ct.keep h3 b.1 b.2 f1 (hW w (by omega))))
    refine ⟨m', ?_, f3, w3⟩
    show fX7_laysWays_2b F (fX7_laysWays_2 F n) m (nI i) = _
    unfold fX7_laysWays_2b
    rw [ckb (by decide), c3, hR 3 (by omega), if_neg (by rw [le_nI (by omega) (by omega)]; omega)]
    have e1' : fX7_laysWay F m (nI i) 0 = some ((), m1) := e1
    have e2' : fX7_laysWay F m1 (nI i) 1 = some ((), m2) := e2
    rw [bds e1', bds e2', lts, nI_1]
    exact e3
theorem m_laysWays {F : Nat} (hF : 1000 ≤ F) {m : HT} {a : Nat → Nat} (h : WF0 a) (hR : RM m a) : ∃ m', fX7_laysWays F m = some ((), m') ∧ FrA m m' ∧ WM m' a := by
  have := h.2.1
  exact m_laysWays_l hF h (a 3) 0 F m (by omega) (by omega) hR ⟨rfl, fun _ _ _ _ _ _ => rfl⟩ (fun w hw => by omega)
