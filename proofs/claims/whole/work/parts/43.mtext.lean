-- ===== the text in plain numbers =====
def skB (tx : Nat → Nat) (n : Nat) : Nat → Nat → Nat
  | 0, s => s
  | f + 1, s => if s < n ∧ tx s = 32 then skB tx n f (s + 1) else s
def skp (tx : Nat → Nat) (n s : Nat) : Nat := skB tx n 121 s
def fig (tx : Nat → Nat) (n s : Nat) : Prop := s < n ∧ 48 ≤ tx s ∧ tx s ≤ 57
def figB (tx : Nat → Nat) (n s : Nat) : Bool := decide (s < n) && (decide (48 ≤ tx s) && decide (tx s ≤ 57))
def rdN (tx : Nat → Nat) (n : Nat) : Nat → Nat → Nat → Nat → Bool × Nat × Nat
  | 0, k, s, v => if figB tx n s = true then (false, s, v) else (decide (0 < k), s, v)
  | f + 1, k, s, v => if figB tx n s = true then rdN tx n f (k + 1) (s + 1) (10 * v + (tx s - 48)) else (decide (0 < k), s, v)
def due (c : Nat) : Nat := if c = 97 then 0 else if c = 103 then 3 else if c = 107 then 1 else if c = 109 then 3 else if c = 116 then 3 else if c = 119 then 2 else 9
def rdK (tx : Nat → Nat) (n : Nat) : Nat → Nat → Nat → (Nat → Nat) → Bool × Nat × (Nat → Nat)
  | 0, _, s, v => if skp tx n s < n ∧ tx (skp tx n s) = 59 then (true, skp tx n s + 1, v) else (false, skp tx n s, v)
  | r + 1, j, s, v => if (rdN tx n 3 0 (skp tx n s) 0).1 = true then rdK tx n r (j + 1) (rdN tx n 3 0 (skp tx n s) 0).2.1 (upN v j (rdN tx n 3 0 (skp tx n s) 0).2.2) else (false, (rdN tx n 3 0 (skp tx n s) 0).2.1, v)
def rdO (tx : Nat → Nat) (n s : Nat) : Bool × Nat × (Nat → Nat) := if due (tx s) = 9 then (false, s, fun _ => 0) else rdK tx n (due (tx s)) 0 (s + 1) (fun _ => 0)
/-- right or not; where the fault is; how many orders, their letters, their numbers -/
abbrev RD : Type := Bool × Nat × Nat × (Nat → Nat) × (Nat → Nat → Nat)
def rdA (tx : Nat → Nat) (n : Nat) : Nat → Nat → Nat → (Nat → Nat) → (Nat → Nat → Nat) → RD
  | 0, K, _, L, N => (true, 0, K, L, N)
  | f + 1, K, s, L, N => if s < n then (if (rdO tx n s).1 = true then rdA tx n f (K + 1) (skp tx n (rdO tx n s).2.1) (upN L K (tx s)) (fun k => if k = K then (rdO tx n s).2.2 else N k) else (false, (rdO tx n s).2.1, K, L, N)) else (if 0 < K then (true, 0, K, L, N) else (false, s, K, L, N))
def rdT (tx : Nat → Nat) (n : Nat) : RD := rdA tx n 61 0 (skp tx n 0) (fun _ => 0) (fun _ _ => 0)
theorem skB_le {tx : Nat → Nat} {n : Nat} : ∀ f s, s ≤ skB tx n f s ∧ (s ≤ n → skB tx n f s ≤ n) := by
  intro f
  induction f with
  | zero => intro s; exact ⟨Nat.le_refl _, fun h => h⟩
  | succ f ih =>
    intro s
    rw [skB]
    by_cases e : s < n ∧ tx s = 32
    · rw [if_pos e]
      have := ih (s + 1)
      exact ⟨by omega, fun h => this.2 (by omega)⟩
    · rw [if_neg e]; exact ⟨Nat.le_refl _, fun h => h⟩
theorem rdN_le {tx : Nat → Nat} {n : Nat} : ∀ f k s v, s ≤ (rdN tx n f k s v).2.1 ∧ (s ≤ n → (rdN tx n f k s v).2.1 ≤ n) ∧ (rdN tx n f k s v).2.1 ≤ s + f ∧ ((rdN tx n f k s v).1 = true → k = 0 → s < (rdN tx n f k s v).2.1) := by
  intro f
  induction f with
  | zero =>
    intro k s v
    rw [rdN]
    by_cases e : figB tx n s = true
    · rw [if_pos e]; exact ⟨Nat.le_refl _, fun h => h, Nat.le_refl _, fun h => by cases h⟩
    · rw [if_neg e]; exact ⟨Nat.le_refl _, fun h => h, Nat.le_refl _, fun h h0 => by subst h0; simp at h⟩
  | succ f ih =>
    intro k s v
    rw [rdN]
    by_cases e : figB tx n s = true
    · rw [if_pos e]
      have e' : s < n := by simp [figB] at e; exact e.1
      have := ih (k + 1) (s + 1) (10 * v + (tx s - 48))
      exact ⟨by omega, fun h => this.2.1 (by omega), by omega, fun _ _ => by omega⟩
    · rw [if_neg e]; dsimp only; exact ⟨Nat.le_refl _, fun h => h, by omega, fun h h0 => by subst h0; simp at h⟩
theorem rdK_le {tx : Nat → Nat} {n : Nat} : ∀ r j s v, s ≤ n → s ≤ (rdK tx n r j s v).2.1 ∧ (rdK tx n r j s v).2.1 ≤ n ∧ ((rdK tx n r j s v).1 = true → s < (rdK tx n r j s v).2.1) := by
  intro r
  induction r with
  | zero =>
    intro j s v hs
    have h1 := skB_le (tx := tx) (n := n) 121 s
    rw [rdK]
    unfold skp
    by_cases e : skB tx n 121 s < n ∧ tx (skB tx n 121 s) = 59
    · rw [if_pos e]; dsimp only; exact ⟨by omega, by omega, fun _ => by omega⟩
    · rw [if_neg e]; dsimp only; exact ⟨by omega, h1.2 hs, fun h => by cases h⟩
  | succ r ih =>
    intro j s v hs
    have h1 := skB_le (tx := tx) (n := n) 121 s
    have h2 := rdN_le (tx := tx) (n := n) 3 0 (skp tx n s) 0
    have h3 : skp tx n s ≤ n := h1.2 hs
    have h4 : s ≤ skp tx n s := h1.1
    rw [rdK]
    by_cases e : (rdN tx n 3 0 (skp tx n s) 0).1 = true
    · rw [if_pos e]
      have h5 := h2.2.2.2 e rfl
      have h6 := h2.2.1 h3
      have := ih (j + 1) (rdN tx n 3 0 (skp tx n s) 0).2.1 (upN v j (rdN tx n 3 0 (skp tx n s) 0).2.2) h6
      exact ⟨by omega, this.2.1, fun h => by have := this.2.2 h; omega⟩
    · rw [if_neg e]
      have h6 := h2.2.1 h3
      dsimp only
      exact ⟨by omega, h6, fun h => by cases h⟩
theorem rdO_le {tx : Nat → Nat} {n s : Nat} (hs : s < n) : s ≤ (rdO tx n s).2.1 ∧ (rdO tx n s).2.1 ≤ n ∧ ((rdO tx n s).1 = true → s + 2 ≤ (rdO tx n s).2.1) := by
  unfold rdO
  by_cases e : due (tx s) = 9
  · rw [if_pos e]; exact ⟨Nat.le_refl _, by dsimp only; omega, fun h => by cases h⟩
  · rw [if_neg e]
    have := rdK_le (tx := tx) (n := n) (due (tx s)) 0 (s + 1) (fun _ => 0) (by omega)
    exact ⟨by omega, this.2.1, fun h => by have := this.2.2 h; omega⟩
-- ===== the reference reads it =====
def RT (m : HT) (n : Nat) (tx : Nat → Nat) : Prop := n ≤ 120 ∧ m.1 0 6 = nI n ∧ ∀ k, k < n → m.1 5 k = nI (tx k) ∧ tx k < 128
def FrS (m m' : HT) : Prop := m'.2 = m.2 ∧ ∀ c q, (c ≠ 0 ∨ (q ≠ 13 ∧ q ≠ 14 ∧ q ≠ 15)) → c ≠ 10 → c ≠ 11 → m'.1 c q = m.1 c q
theorem FrS.rf {m : HT} : FrS m m := ⟨rfl, fun _ _ _ _ _ => rfl⟩
theorem FrS.tr {m m' m'' : HT} (h : FrS m m') (g : FrS m' m'') : FrS m m'' := ⟨g.1.trans h.1, fun c q a b d => (g.2 c q a b d).trans (h.2 c q a b d)⟩
theorem FrS.rt {m m' : HT} {n : Nat} {tx : Nat → Nat} (h : FrS m m') (r : RT m n tx) : RT m' n tx := ⟨r.1, by rw [h.2 0 6 (by omega) (by omega) (by omega)]; exact r.2.1, fun k hk => by rw [h.2 5 k (by omega) (by omega) (by omega)]; exact r.2.2 k hk⟩
theorem frS_0 {m : HT} {q : Nat} {v : Int32} (hq : q = 13 ∨ q = 14 ∨ q = 15) : FrS m (sI m 0 q v) := ⟨rfl, fun c p h1 h2 h3 => by rw [sI_r, if_neg (by omega)]⟩
theorem frS_10 {m : HT} {q : Nat} {v : Int32} : FrS m (sI m 10 q v) := ⟨rfl, fun c p h1 h2 h3 => by rw [sI_r, if_neg (by omega)]⟩
theorem frS_11 {m : HT} {q : Nat} {v : Int32} : FrS m (sI m 11 q v) := ⟨rfl, fun c p h1 h2 h3 => by rw [sI_r, if_neg (by omega)]⟩
theorem m_isAt {F : Nat} {m : HT} {n s lo hi : Nat} {tx : Nat → Nat} (r : RT m n tx) (hs : m.1 0 14 = nI s) (hsn : s ≤ n) (hh : hi < 2147483648) (hl : lo < 2147483648) : (s < n ∧ lo ≤ tx s ∧ tx s ≤ hi → fX7_isAt F m (nI lo) (nI hi) = some (1, m)) ∧ (¬ (s < n ∧ lo ≤ tx s ∧ tx s ≤ hi) → fX7_isAt F m (nI lo) (nI hi) = some (0, m)) := by
  obtain ⟨r1, r2, r3⟩ := r
  unfold fX7_isAt fX7_isAt_32
  rw [r2, hs, ite_le (by omega) (by omega)]
  by_cases e : n ≤ s
  · rw [if_pos e]
    exact ⟨fun q => by omega, fun _ => rfl⟩
  · obtain ⟨q1, q2⟩ := r3 s (by omega)
    rw [if_neg e, ckb (inb_nI (by omega) (by omega)), clamp_nI (by omega), q1]
    refine ⟨fun q => ?_, fun q => ?_⟩
    · rw [bds (m_in1 (by rw [lt_nI (by omega) (by omega)]; omega) (by rw [lt_nI (by omega) (by omega)]; omega)), if_neg (by decide)]
    · rw [bds (m_in0 (by rw [lt_nI (by omega) (by omega), lt_nI (by omega) (by omega)]; omega)), if_pos rfl]
theorem m_blanks_l {F : Nat} {n : Nat} {tx : Nat → Nat} {m0 : HT} : ∀ f s n9 m, n ≤ s + f → s ≤ n → f < n9 → RT m n tx → m.1 0 14 = nI s → m.2 = m0.2 → (∀ c q, (c ≠ 0 ∨ q ≠ 14) → m.1 c q = m0.1 c q) → ∃ m', fX7_blanks_0 F n9 m = some ((), m') ∧ m'.1 0 14 = nI (skB tx n f s) ∧ m'.2 = m0.2 ∧ (∀ c q, (c ≠ 0 ∨ q ≠ 14) → m'.1 c q = m0.1 c q) := by
  intro f
  induction f with
  | zero =>
    intro s n9 m h1 h2 h3 r hs g1 g2
    obtain ⟨n9, rfl⟩ : ∃ n', n9 = n' + 1 := ⟨n9 - 1, by omega⟩
    show ∃ m', fX7_blanks_0b F (fX7_blanks_0 F n9) m = _ ∧ _
    unfold fX7_blanks_0b
    have e := (m_isAt (F := F) (lo := 32) (hi := 32) r hs h2 (by omega) (by omega)).2 (by omega)
    have e' : fX7_isAt F m 32 32 = some (0, m) := e
    rw [bds e', if_pos rfl]
    exact ⟨m, rfl, hs, g1, g2⟩
  | succ f ih =>
    intro s n9 m h1 h2 h3 r hs g1 g2
    obtain ⟨n9, rfl⟩ : ∃ n', n9 = n' + 1 := ⟨n9 - 1, by omega⟩
    show ∃ m', fX7_blanks_0b F (fX7_blanks_0 F n9) m = _ ∧ _
    unfold fX7_blanks_0b
    rw [skB]
    have ee := m_isAt (F := F) (lo := 32) (hi := 32) r hs h2 (by omega) (by omega)
    by_cases q : s < n ∧ tx s = 32
    · have e' : fX7_isAt F m 32 32 = some (1, m) := ee.1 (by omega)
      rw [bds e', if_neg (by decide), lts, hs, nI_1, if_pos q]
      refine ih (s + 1) n9 _ (by omega) (by omega) (by omega) ((frS_0 (by omega)).rt r) (by rw [sI_r, if_pos ⟨rfl, rfl⟩]) g1 (fun c p hc => ?_)
      rw [sI_r, if_neg (by omega)]
      exact g2 c p hc
    · have e' : fX7_isAt F m 32 32 = some (0, m) := ee.2 (by omega)
      rw [bds e', if_pos rfl, if_neg q]
      exact ⟨m, rfl, hs, g1, g2⟩
theorem m_blanks {F : Nat} (hF : 1000 ≤ F) {m : HT} {n s : Nat} {tx : Nat → Nat} (r : RT m n tx) (hs : m.1 0 14 = nI s) (hsn : s ≤ n) : ∃ m', fX7_blanks F m = some ((), m') ∧ m'.1 0 14 = nI (skp tx n s) ∧ m'.2 = m.2 ∧ (∀ c q, (c ≠ 0 ∨ q ≠ 14) → m'.1 c q = m.1 c q) := by
  have := r.1
  exact m_blanks_l 121 s F m (by omega) hsn (by omega) r hs rfl (fun _ _ _ => rfl)
theorem m_fails {F : Nat} {m : HT} : fX7_fails F m = some (0, sI m 0 15 (m.1 0 14)) := rfl
theorem fr14 {m m' : HT} (h1 : m'.2 = m.2) (h : ∀ c q, (c ≠ 0 ∨ q ≠ 14) → m'.1 c q = m.1 c q) : FrS m m' := ⟨h1, fun c q a b d => h c q (by omega)⟩
/-- a number: its end, its value or the fault; no other place of the row of numbers becomes other -/
theorem m_num_l {F : Nat} {n st to : Nat} {tx : Nat → Nat} {m0 : HT} (hto : to < 180) : ∀ f k s v n9 m, k + f = 3 → s = st + k → s ≤ n → v < 10 ^ k → f < n9 → RT m n tx → m.1 0 14 = nI s → m.2 = m0.2 → (∀ c q, (c ≠ 0 ∨ q ≠ 14) → m.1 c q = m0.1 c q) →
    ∃ m', fX7_takesNumber_11 F n9 m (nI to) (nI st) (nI v) = some (if (rdN tx n f k s v).1 = true then 1 else 0, m') ∧ FrS m0 m' ∧ m'.1 0 13 = m0.1 0 13 ∧ (∀ q, m'.1 10 q = m0.1 10 q) ∧ (∀ q, q ≠ to → m'.1 11 q = m0.1 11 q) ∧ ((rdN tx n f k s v).1 = true → m'.1 0 14 = nI (rdN tx n f k s v).2.1 ∧ m'.1 11 to = nI (rdN tx n f k s v).2.2) ∧ ((rdN tx n f k s v).1 = false → m'.1 0 15 = nI (rdN tx n f k s v).2.1) := by
  have fin : ∀ k s v n9 m, s = st + k → s ≤ n → k ≤ 3 → figB tx n s = false → RT m n tx → m.1 0 14 = nI s → m.2 = m0.2 → (∀ c q, (c ≠ 0 ∨ q ≠ 14) → m.1 c q = m0.1 c q) →
      ∃ m', fX7_takesNumber_11b F (fX7_takesNumber_11 F n9) m (nI to) (nI st) (nI v) = some (if decide (0 < k) = true then 1 else 0, m') ∧ FrS m0 m' ∧ m'.1 0 13 = m0.1 0 13 ∧ (∀ q, m'.1 10 q = m0.1 10 q) ∧ (∀ q, q ≠ to → m'.1 11 q = m0.1 11 q) ∧ (decide (0 < k) = true → m'.1 0 14 = nI s ∧ m'.1 11 to = nI v) ∧ (decide (0 < k) = false → m'.1 0 15 = nI s) := by
    intro k s v n9 m hk hsn hk3 hf r hs g1 g2
    have hn := r.1
    have e' : fX7_isAt F m 48 57 = some (0, m) := (m_isAt (F := F) (lo := 48) (hi := 57) r hs hsn (by omega) (by omega)).2 (by
      intro q
      simp [figB] at hf
      omega)
    have fr0 : FrS m0 m := fr14 g1 g2
    unfold fX7_takesNumber_11b
    rw [bds e', if_pos rfl, ckb (inb_nI (by omega) (by omega)), clamp_nI (by omega), lts, show (sI m 11 to (nI v)).1 0 14 = nI s from by rw [sI_r, if_neg (by omega)]; exact hs, ite_lt (by omega) (by omega)]
    by_cases q : st < s
    · rw [if_pos q]
      unfold fX7_takesNumber_90
      rw [if_pos (by simp; omega)]
      refine ⟨_, rfl, fr0.tr frS_11, by rw [sI_r, if_neg (by omega)]; exact g2 0 13 (by omega), fun p => by rw [sI_r, if_neg (by omega)]; exact g2 10 p (by omega), fun p hp => by rw [sI_r, if_neg (by omega)]; exact g2 11 p (by omega), fun _ => ⟨by rw [sI_r, if_neg (by omega)]; exact hs, by rw [sI_r, if_pos ⟨rfl, rfl⟩]⟩, fun z => by simp at z; omega⟩
    · rw [if_neg q, bds m_fails, if_pos rfl, if_neg (by simp; omega)]
      refine ⟨_, rfl, (fr0.tr frS_11).tr (frS_0 (by omega)), by rw [sI_r, if_neg (by omega), sI_r, if_neg (by omega)]; exact g2 0 13 (by omega), fun p => by rw [sI_r, if_neg (by omega), sI_r, if_neg (by omega)]; exact g2 10 p (by omega), fun p hp => by rw [sI_r, if_neg (by omega), sI_r, if_neg (by omega)]; exact g2 11 p (by omega), fun z => by simp at z; omega, fun _ => by rw [sI_r, if_pos ⟨rfl, rfl⟩, sI_r, if_neg (by omega)]; exact hs⟩
  intro f
  induction f with
  | zero =>
    intro k s v n9 m hk hs0 hsn hv hn9 r hs g1 g2
    obtain ⟨n9, rfl⟩ : ∃ n', n9 = n' + 1 := ⟨n9 - 1, by omega⟩
    have hn := r.1
    rw [rdN]
    by_cases e : figB tx n s = true
    · have e2 : s < n ∧ 48 ≤ tx s ∧ tx s ≤ 57 := by simpa [figB, and_assoc] using e
      have e' : fX7_isAt F m 48 57 = some (1, m) := (m_isAt (F := F) (lo := 48) (hi := 57) r hs hsn (by omega) (by omega)).1 e2
      show ∃ m', fX7_takesNumber_11b F (fX7_takesNumber_11 F n9) m _ _ _ = _ ∧ _
      unfold fX7_takesNumber_11b
      rw [bds e', if_neg (by decide), hs, n3, nI_add, ite_eq (by omega) (by omega), if_pos (by omega), bds m_fails, ckb (by decide), if_pos e]
      refine ⟨_, rfl, (fr14 g1 g2).tr (frS_0 (by omega)), by rw [sI_r, if_neg (by omega)]; exact g2 0 13 (by omega), fun p => by rw [sI_r, if_neg (by omega)]; exact g2 10 p (by omega), fun p hp => by rw [sI_r, if_neg (by omega)]; exact g2 11 p (by omega), fun z => Bool.noConfusion z, fun _ => by rw [sI_r, if_pos ⟨rfl, rfl⟩]; exact hs⟩
    · rw [if_neg e]
      exact fin k s v n9 m hs0 hsn (by omega) (Bool.eq_false_iff.mpr e) r hs g1 g2
  | succ f ih =>
    intro k s v n9 m hk hs0 hsn hv hn9 r hs g1 g2
    obtain ⟨n9, rfl⟩ : ∃ n', n9 = n' + 1 := ⟨n9 - 1, by omega⟩
    have hn := r.1
    rw [rdN]
    by_cases e : figB tx n s = true
    · have e2 : s < n ∧ 48 ≤ tx s ∧ tx s ≤ 57 := by simpa [figB, and_assoc] using e
      have e' : fX7_isAt F m 48 57 = some (1, m) := (m_isAt (F := F) (lo := 48) (hi := 57) r hs hsn (by omega) (by omega)).1 e2
      have hv1 : v < 1000 := by
        have : (10 : Nat) ^ k ≤ 10 ^ 3 := Nat.pow_le_pow_right (by decide) (by omega)
        omega
      obtain ⟨q1, q2⟩ := r.2.2 s e2.1
      rw [if_pos e]
      show ∃ m', fX7_takesNumber_11b F (fX7_takesNumber_11 F n9) m _ _ _ = _ ∧ _
      unfold fX7_takesNumber_11b
      rw [bds e', if_neg (by decide), hs, n3, nI_add, ite_eq (by omega) (by omega), if_neg (by omega), ckb (inb_nI (by omega) (by omega)), clamp_nI (by omega), q1, n10, pk_mul, nI_add, show (48 : Int32) = nI 48 from rfl, sub_nI (by omega), lts, lts, nI_1, show 10 * v + tx s - 48 = 10 * v + (tx s - 48) by omega]
      refine ih (k + 1) (s + 1) (10 * v + (tx s - 48)) n9 _ (by omega) (by omega) (by omega) (by rw [Nat.pow_succ]; omega) (by omega) ((frS_0 (by omega)).rt r) (by rw [sI_r, if_pos ⟨rfl, rfl⟩]) g1 (fun c p hc => ?_)
      rw [sI_r, if_neg (by omega)]
      exact g2 c p hc
    · rw [if_neg e]
      exact fin k s v n9 m hs0 hsn (by omega) (Bool.eq_false_iff.mpr e) r hs g1 g2
theorem m_takesNumber {F : Nat} (hF : 1000 ≤ F) {n s to : Nat} {tx : Nat → Nat} {m : HT} (hto : to < 180) (r : RT m n tx) (hs : m.1 0 14 = nI s) (hsn : s ≤ n) :
    ∃ m', fX7_takesNumber F m (nI to) = some (if (rdN tx n 3 0 (skp tx n s) 0).1 = true then 1 else 0, m') ∧ FrS m m' ∧ m'.1 0 13 = m.1 0 13 ∧ (∀ q, m'.1 10 q = m.1 10 q) ∧ (∀ q, q ≠ to → m'.1 11 q = m.1 11 q) ∧ ((rdN tx n 3 0 (skp tx n s) 0).1 = true → m'.1 0 14 = nI (rdN tx n 3 0 (skp tx n s) 0).2.1 ∧ m'.1 11 to = nI (rdN tx n 3 0 (skp tx n s) 0).2.2) ∧ ((rdN tx n 3 0 (skp tx n s) 0).1 = false → m'.1 0 15 = nI (rdN tx n 3 0 (skp tx n s) 0).2.1) := by
  obtain ⟨m1, e1, s1, g1, g2⟩ := m_blanks hF r hs hsn
  have h1 := skB_le (tx := tx) (n := n) 121 s
  have f1 := fr14 g1 g2
  obtain ⟨m', e2, f2, q1, q2, q3, q4, q5⟩ := m_num_l (F := F) (n := n) (st := skp tx n s) (to := to) (tx := tx) (m0 := m1) hto 3 0 (skp tx n s) 0 F m1 (by omega) (by omega) (h1.2 hsn) (by decide) (by omega) (f1.rt r) s1 rfl (fun _ _ _ => rfl)
  unfold fX7_takesNumber
  rw [bds e1, lts, s1]
  refine ⟨m', e2, f1.tr f2, by rw [q1]; exact g2 0 13 (by omega), fun q => by rw [q2]; exact g2 10 q (by omega), fun q hq => by rw [q3 q hq]; exact g2 11 q (by omega), q4, q5⟩
