-- ===== bits =====
theorem sl_32 : ∀ n, n < 32 → ((nI n &&& 31).toBitVec.smod 32).toNat = n := by decide +kernel
theorem shr_nI {n j : Nat} (hn : n < 2147483648) (hj : j < 32) : nI n >>> (nI j &&& 31) = nI (n / 2 ^ j) := pk_shrN (by omega) _ j (sl_32 j hj)
theorem shl_nI {j : Nat} (hj : j < 31) : (1 : Int32) <<< (nI j &&& 31) = nI (2 ^ j) := by
  have h : 1 * 2 ^ j < 2 ^ 32 := by rw [Nat.one_mul]; exact Nat.pow_lt_pow_right (by decide) (by omega)
  have := pk_shlN (n := 1) (nI j &&& 31) j (sl_32 j (by omega)) h
  rw [Nat.one_mul] at this
  exact this
theorem and1_nI {n : Nat} (hn : n < 4294967296) : nI n &&& 1 = nI (n % 2) := pk_andN (by omega) (m := 1) 1 (by decide)
theorem tb_dm (n j : Nat) : (n.testBit j = true) = (n / 2 ^ j % 2 = 1) := by rw [Nat.testBit_eq_decide_div_mod_eq]; simp
theorem bit_nI {n j : Nat} (hn : n < 2147483648) (hj : j < 32) : ((nI n >>> (nI j &&& 31)) &&& 1 = 1) = (n.testBit j = true) := by
  have h1 : n / 2 ^ j ≤ n := Nat.div_le_self _ _
  rw [shr_nI hn hj, and1_nI (by omega), tb_dm, n1, eq_nI (by omega) (by omega)]
theorem xor_nI (a b : Nat) : nI a ^^^ nI b = nI (a ^^^ b) := by
  apply Int32.toBitVec_inj.1
  show BitVec.ofNat 32 a ^^^ BitVec.ofNat 32 b = BitVec.ofNat 32 (a ^^^ b)
  apply BitVec.eq_of_getLsbD_eq
  intro i hi
  simp [hi]
theorem sI_r (x : HT) (k i : Nat) (v : Int32) (c q : Nat) : (sI x k i v).1 c q = if c = k ∧ q = i then v else x.1 c q := by
  unfold sI va_up upd
  by_cases h : c = k
  · subst h
    by_cases h2 : q = i <;> simp [h2]
  · simp [h]
theorem sI_2 (x : HT) (k i : Nat) (v : Int32) : (sI x k i v).2 = x.2 := rfl
-- ===== messages =====
def okM (a : Nat → Nat) (i : Nat) : Prop := a (4 + 8 * i) < a 0 * a 1 ∧ 1 ≤ a (5 + 8 * i) ∧ a (5 + 8 * i) ≤ 9 ∧ a (6 + 8 * i) < 262144 ∧ a (7 + 8 * i) < 262144 ∧ ∀ l, aG a i l = true → l < a 0 * a 1 ∧ l ≠ a (4 + 8 * i)
def WF0 (a : Nat → Nat) : Prop := okW (a 0) (a 1) ∧ a 3 ≤ 5 ∧ ∀ i, i < a 3 → okM a i
theorem m_of0 {F : Nat} {m : HT} {a : Nat → Nat} (h : RM m a) {i k : Nat} (hi : i < 5) (hk : k < 8) : fX7_of0 F m (nI i) (nI k) = some (nI (a (4 + 8 * i + k)), m) := by
  unfold fX7_of0
  rw [n4, n8, pk_mul, nI_add, nI_add, ckb (inb_nI (by omega) (by omega)), clamp_nI (by omega), h _ (by omega)]
theorem aG_lo {a : Nat → Nat} {i l : Nat} (hlo : a (6 + 8 * i) < 262144) : aG a i l = if l < 18 then (a (6 + 8 * i)).testBit l else (a (7 + 8 * i)).testBit (l - 18) := by
  rw [aG, Nat.add_comm, Nat.testBit_two_pow_mul_add _ (by omega : a (6 + 8 * i) < 2 ^ 18)]
theorem m_isGoal {F : Nat} {m : HT} {a : Nat → Nat} (h : RM m a) {i l : Nat} (hi : i < 5) (hl : l < 36) (hlo : a (6 + 8 * i) < 262144) (hhi : a (7 + 8 * i) < 262144) : fX7_isGoal F m (nI i) (nI l) = some (if aG a i l = true then 1 else 0, m) := by
  unfold fX7_isGoal
  rw [n18, rem_nI (by omega) (by omega) (by omega), div_nI (by omega) (by omega) (by omega), n2, nI_add, aG_lo hlo]
  by_cases h1 : l < 18
  · have e1 : l / 18 = 0 := by omega
    have e2 : l % 18 = l := by omega
    rw [e1, e2, bds (m_of0 h hi (by omega)), if_pos h1, show 4 + 8 * i + (2 + 0) = 6 + 8 * i by omega]
    by_cases hb : (a (6 + 8 * i)).testBit l = true
    · rw [if_pos (by rw [bit_nI (by omega) (by omega)]; exact hb), if_pos hb]
    · rw [if_neg (by rw [bit_nI (by omega) (by omega)]; exact hb), if_neg hb]
  · have e1 : l / 18 = 1 := by omega
    have e2 : l % 18 = l - 18 := by omega
    rw [e1, e2, bds (m_of0 h hi (by omega)), if_neg h1, show 4 + 8 * i + (2 + 1) = 7 + 8 * i by omega]
    by_cases hb : (a (7 + 8 * i)).testBit (l - 18) = true
    · rw [if_pos (by rw [bit_nI (by omega) (by omega)]; exact hb), if_pos hb]
    · rw [if_neg (by rw [bit_nI (by omega) (by omega)]; exact hb), if_neg hb]
-- ===== ways laid by the reference =====
def Fr (m m' : HT) (w : Nat) : Prop := m'.2 = m.2 ∧ (∀ c q, c ≠ 6 → c ≠ 7 → c ≠ 8 → c ≠ 9 → m'.1 c q = m.1 c q) ∧ (∀ q, (q < 37 * w ∨ 37 * w + 37 ≤ q) → m'.1 6 q = m.1 6 q) ∧ (∀ q, q ≠ w → m'.1 7 q = m.1 7 q ∧ m'.1 8 q = m.1 8 q) ∧ (∀ q, (q < 36 * w ∨ 36 * w + 36 ≤ q) → m'.1 9 q = m.1 9 q)
def Ct (m' : HT) (w : Nat) (s : WY) : Prop := (∀ j, j ≤ s.2.1 → m'.1 6 (37 * w + j) = nI (s.2.2.1 j)) ∧ m'.1 8 w = nI s.2.2.2.1 ∧ (∀ c, c < s.2.2.2.1 → m'.1 9 (36 * w + c) = nI (s.2.2.2.2 c))
theorem Fr.rf {m : HT} {w : Nat} : Fr m m w := ⟨rfl, fun _ _ _ _ _ _ => rfl, fun _ _ => rfl, fun _ _ => ⟨rfl, rfl⟩, fun _ _ => rfl⟩
theorem Fr.rm {m m' : HT} {w : Nat} {a : Nat → Nat} (h : Fr m m' w) (r : RM m a) : RM m' a := fun k hk => by rw [h.2.1 1 k (by decide) (by decide) (by decide) (by decide), r k hk]
theorem Fr.s6 {m m' : HT} {w q : Nat} {v : Int32} (h : Fr m m' w) (h1 : 37 * w ≤ q) (h2 : q < 37 * w + 37) : Fr m (sI m' 6 q v) w := by
  obtain ⟨a1, a2, a3, a4, a5⟩ := h
  refine ⟨a1, fun c p c1 c2 c3 c4 => ?_, fun p hp => ?_, fun p hp => ?_, fun p hp => ?_⟩
  · rw [sI_r, if_neg (by omega), a2 c p c1 c2 c3 c4]
  · rw [sI_r, if_neg (by omega), a3 p hp]
  · rw [sI_r, sI_r, if_neg (by omega), if_neg (by omega)]; exact a4 p hp
  · rw [sI_r, if_neg (by omega), a5 p hp]
theorem Fr.s7 {m m' : HT} {w : Nat} {v : Int32} (h : Fr m m' w) : Fr m (sI m' 7 w v) w := by
  obtain ⟨a1, a2, a3, a4, a5⟩ := h
  refine ⟨a1, fun c p c1 c2 c3 c4 => ?_, fun p hp => ?_, fun p hp => ?_, fun p hp => ?_⟩
  · rw [sI_r, if_neg (by omega), a2 c p c1 c2 c3 c4]
  · rw [sI_r, if_neg (by omega), a3 p hp]
  · rw [sI_r, sI_r, if_neg (by omega), if_neg (by omega)]; exact a4 p hp
  · rw [sI_r, if_neg (by omega), a5 p hp]
theorem Fr.s8 {m m' : HT} {w : Nat} {v : Int32} (h : Fr m m' w) : Fr m (sI m' 8 w v) w := by
  obtain ⟨a1, a2, a3, a4, a5⟩ := h
  refine ⟨a1, fun c p c1 c2 c3 c4 => ?_, fun p hp => ?_, fun p hp => ?_, fun p hp => ?_⟩
  · rw [sI_r, if_neg (by omega), a2 c p c1 c2 c3 c4]
  · rw [sI_r, if_neg (by omega), a3 p hp]
  · rw [sI_r, sI_r, if_neg (by omega), if_neg (by omega)]; exact a4 p hp
  · rw [sI_r, if_neg (by omega), a5 p hp]
theorem Fr.s9 {m m' : HT} {w q : Nat} {v : Int32} (h : Fr m m' w) (h1 : 36 * w ≤ q) (h2 : q < 36 * w + 36) : Fr m (sI m' 9 q v) w := by
  obtain ⟨a1, a2, a3, a4, a5⟩ := h
  refine ⟨a1, fun c p c1 c2 c3 c4 => ?_, fun p hp => ?_, fun p hp => ?_, fun p hp => ?_⟩
  · rw [sI_r, if_neg (by omega), a2 c p c1 c2 c3 c4]
  · rw [sI_r, if_neg (by omega), a3 p hp]
  · rw [sI_r, sI_r, if_neg (by omega), if_neg (by omega)]; exact a4 p hp
  · rw [sI_r, if_neg (by omega), a5 p hp]
theorem m_walk {F : Nat} (hF : 1000 ≤ F) {m0 : HT} {a : Nat → Nat} (k : okW (a 0) (a 1)) {w n0 c at0 goal : Nat} {P G : Nat → Nat} (hw : w < 10) (hat : at0 < a 0 * a 1) (hgo : goal < a 0 * a 1) (hn : n0 + far (a 0) (a 1) at0 goal ≤ 36) (hc : c < 36) (hP0 : P n0 = at0) (I N' st : Int32) (rec68 : HT → Int32 → Int32 → Int32 → Int32 → Int32 → Int32 → Int32 → Option (Unit × HT)) :
    ∀ d t n m, t + d = far (a 0) (a 1) at0 goal → d < n → RM m a → Fr m0 m w → (∀ j, j ≤ n0 → m.1 6 (37 * w + j) = nI (P j)) → (∀ u, 1 ≤ u → u ≤ t → m.1 6 (37 * w + (n0 + u)) = nI (itr (a 0) (a 1) goal at0 u)) → m.1 8 w = nI c → (∀ c', c' < c → m.1 9 (36 * w + c') = nI (G c')) →
    ∃ m', Fr m0 m' w ∧ Ct m' w (goal, n0 + far (a 0) (a 1) at0 goal, (fun j => if j ≤ n0 then P j else itr (a 0) (a 1) goal at0 (j - n0)), c + 1, upN G c (n0 + far (a 0) (a 1) at0 goal)) ∧
      fX7_laysWay_91 F rec68 n m I (nI w) N' (nI (itr (a 0) (a 1) goal at0 t)) (nI (n0 + t)) st (nI goal) = fX7_laysWay_156 F rec68 m' I (nI w) N' (nI goal) (nI (n0 + far (a 0) (a 1) at0 goal)) st (nI goal) := by
  have h36 := okW_36 k
  have hI : ∀ t, t ≤ far (a 0) (a 1) at0 goal → itr (a 0) (a 1) goal at0 t < a 0 * a 1 ∧ (t < far (a 0) (a 1) at0 goal → itr (a 0) (a 1) goal at0 t ≠ goal) := by
    intro t ht
    rcases Nat.le_total at0 goal with q | q
    · obtain ⟨u1, u2, u3, u4⟩ := itr_up k hat hgo q t ht
      exact ⟨by omega, fun h => by have := (u4 h).1; omega⟩
    · obtain ⟨u1, u2, u3, u4⟩ := itr_dn k hat hgo q t ht
      exact ⟨by omega, fun h => by have := (u4 h).1; omega⟩
  have hend := itr_far k hat hgo
  intro d
  induction d with
  | zero =>
    intro t n m ht hd hR hFr h6 h6' h8 h9
    obtain ⟨n, rfl⟩ : ∃ n', n = n' + 1 := ⟨n - 1, by omega⟩
    have et : t = far (a 0) (a 1) at0 goal := by omega
    subst et
    rw [hend]
    generalize far (a 0) (a 1) at0 goal = f at *
    show ∃ m', _ ∧ _ ∧ fX7_laysWay_91b F rec68 (fX7_laysWay_91 F rec68 n) m I (nI w) N' (nI goal) (nI (n0 + f)) st (nI goal) = _
    unfold fX7_laysWay_91b
    rw [if_pos rfl, ckb (inb_nI (by omega) (by omega)), clamp_nI (i := w) (by omega), h8, n36, pk_mul, nI_add, ckb (inb_nI (by omega) (by omega)), clamp_nI (i := 36 * w + c) (by omega), lts, ckb (inb_nI (by omega) (by omega)), ckb (inb_nI (by omega) (by omega)), lts, sI_r, if_neg (by omega), h8, nI_1]
    refine ⟨_, (hFr.s9 (by omega) (by omega)).s8, ⟨fun j hj => ?_, ?_, fun c' hc' => ?_⟩, rfl⟩
    · rw [sI_r, if_neg (by omega), sI_r, if_neg (by omega)]
      dsimp only at hj ⊢
      by_cases e : j ≤ n0
      · rw [if_pos e, h6 j e]
      · rw [if_neg e, ← h6' (j - n0) (by omega) (by omega), show n0 + (j - n0) = j by omega]
    · rw [sI_r, if_pos ⟨rfl, rfl⟩]
    · rw [sI_r, if_neg (by omega), sI_r]
      dsimp only at hc' ⊢
      by_cases e : c' = c
      · subst e
        rw [if_pos ⟨rfl, rfl⟩]
        simp [upN]
      · rw [if_neg (by omega), h9 c' (by omega)]
        simp [upN, e]
  | succ d ih =>
    intro t n m ht hd hR hFr h6 h6' h8 h9
    obtain ⟨n, rfl⟩ : ∃ n', n = n' + 1 := ⟨n - 1, by omega⟩
    obtain ⟨i1, i2⟩ := hI t (by omega)
    have i3 := i2 (by omega)
    show ∃ m', _ ∧ _ ∧ fX7_laysWay_91b F rec68 (fX7_laysWay_91 F rec68 n) m I (nI w) N' (nI (itr (a 0) (a 1) goal at0 t)) (nI (n0 + t)) st (nI goal) = _
    have hstep : fX7_laysWay_91b F rec68 (fX7_laysWay_91 F rec68 n) m I (nI w) N' (nI (itr (a 0) (a 1) goal at0 t)) (nI (n0 + t)) st (nI goal) = fX7_laysWay_91 F rec68 n (sI m 6 (37 * w + (n0 + (t + 1))) (nI (itr (a 0) (a 1) goal at0 (t + 1)))) I (nI w) N' (nI (itr (a 0) (a 1) goal at0 (t + 1))) (nI (n0 + (t + 1))) st (nI goal) := by
      unfold fX7_laysWay_91b
      rw [if_neg (by rw [eq_nI (by omega) (by omega)]; exact i3), bds (m_nextOf hF hR k i1 hgo i3), lts, nI_1, n37, pk_mul, nI_add, ckb (inb_nI (by omega) (by omega)), clamp_nI (by omega), lts]
      rfl
    rw [hstep]
    refine ih (t + 1) n _ (by omega) (by omega) ((hFr.s6 (by omega) (by omega)).rm ?_) (hFr.s6 (by omega) (by omega)) (fun j hj => ?_) (fun u hu1 hu2 => ?_) ?_ (fun c' hc' => ?_)
    · intro q hq
      have := hFr.2.1 1 q (by decide) (by decide) (by decide) (by decide)
      rw [← this, hR q hq]
    · rw [sI_r, if_neg (by omega), h6 j hj]
    · rw [sI_r]
      by_cases e : u = t + 1
      · subst e; rw [if_pos ⟨rfl, rfl⟩]
      · rw [if_neg (by omega), h6' u hu1 (by omega)]
    · rw [sI_r, if_neg (by omega), h8]
    · rw [sI_r, if_neg (by omega), h9 c' hc']
