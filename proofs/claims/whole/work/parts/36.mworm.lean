theorem ite_le {α : Type} {a b : Nat} {p q : α} (ha : a < 2147483648) (hb : b < 2147483648) : (if nI a ≤ nI b then p else q) = (if a ≤ b then p else q) := by
  by_cases h : a ≤ b
  · rw [if_pos h, if_pos (by rw [le_nI ha hb]; exact h)]
  · rw [if_neg h, if_neg (by rw [le_nI ha hb]; exact h)]
theorem ite_lt {α : Type} {a b : Nat} {p q : α} (ha : a < 2147483648) (hb : b < 2147483648) : (if nI a < nI b then p else q) = (if a < b then p else q) := by
  by_cases h : a < b
  · rw [if_pos h, if_pos (by rw [lt_nI ha hb]; exact h)]
  · rw [if_neg h, if_neg (by rw [lt_nI ha hb]; exact h)]
theorem ite_eq {α : Type} {a b : Nat} {p q : α} (ha : a < 2147483648) (hb : b < 2147483648) : (if nI a = nI b then p else q) = (if a = b then p else q) := by
  by_cases h : a = b
  · rw [if_pos h, if_pos (by rw [h])]
  · rw [if_neg h, if_neg (by rw [eq_nI ha hb]; exact h)]
theorem ite_e0 {α : Type} {a : Nat} {p q : α} (ha : a < 2147483648) : (if nI a = 0 then p else q) = (if a = 0 then p else q) := ite_eq (b := 0) ha (by decide)
theorem ite_m1 {α : Type} {b : Nat} {p q : α} (hb : b < 2147483648) : (if oI b = -1 then p else q) = (if b = 99 then p else q) := by
  by_cases h : b = 99
  · rw [if_pos h, if_pos (by rw [oI_m1 hb]; exact h)]
  · rw [if_neg h, if_neg (by rw [oI_m1 hb]; exact h)]
-- ===== worms in plain numbers =====
def mvw (a : Nat → Nat) (w : Nat) : Nat := a (8 + 8 * (w / 2) + w % 2)
def wtw (a : Nat → Nat) (w : Nat) : Nat := a (10 + 8 * (w / 2) + w % 2)
def lnw (a : Nat → Nat) (w : Nat) : Nat := a (5 + 8 * (w / 2))
def dnW (a : Nat → Nat) (w : Nat) : Bool := decide (wN a w = 0) || decide (mvw a w = wN a w + lnw a w)
def hTail (a : Nat → Nat) (w : Nat) : Nat := mvw a w - lnw a w
def hHead (a : Nat → Nat) (w : Nat) : Nat := if mvw a w < wN a w then mvw a w else wN a w
def dnB (a : Nat → Nat) (l d : Nat) : Bool := (a (44 + l)).testBit d
def anyK (p : Nat → Bool) : Nat → Bool
  | 0 => false
  | n + 1 => anyK p n || p n
def cntB (p : Nat → Bool) : Nat → Nat
  | 0 => 0
  | n + 1 => cntB p n + (if p n = true then 1 else 0)
def sumB (f : Nat → Nat) : Nat → Nat
  | 0 => 0
  | n + 1 => sumB f n + f n
def fstK (p : Nat → Bool) : Nat → Nat
  | 0 => 99
  | n + 1 => if fstK p n = 99 then (if p n = true then n else 99) else fstK p n
theorem anyK_iff {p : Nat → Bool} : ∀ {n : Nat}, anyK p n = true ↔ ∃ k, k < n ∧ p k = true
  | 0 => ⟨fun h => Bool.noConfusion h, fun ⟨k, h, _⟩ => absurd h (Nat.not_lt_zero k)⟩
  | n + 1 => by
    rw [anyK, Bool.or_eq_true, anyK_iff (n := n)]
    constructor
    · rintro (⟨k, h1, h2⟩ | h)
      · exact ⟨k, by omega, h2⟩
      · exact ⟨n, by omega, h⟩
    · rintro ⟨k, h1, h2⟩
      rcases Nat.lt_or_ge k n with h | h
      · exact Or.inl ⟨k, h, h2⟩
      · exact Or.inr (by rw [show n = k by omega]; exact h2)
theorem cntB_le {p : Nat → Bool} : ∀ {n : Nat}, cntB p n ≤ n
  | 0 => Nat.le_refl _
  | n + 1 => by
    rw [cntB]
    have := cntB_le (p := p) (n := n)
    split <;> omega
def hldB (a : Nat → Nat) (w f t : Nat) : Bool := anyK (fun k => decide (hTail a w ≤ k) && (decide (wP a w k = f) && decide (wP a w (k + 1) = t))) (hHead a w)
def hdr (a : Nat → Nat) (f t : Nat) : Nat := fstK (fun w => hldB a w f t) (2 * a 3)
def okV (a : Nat → Nat) (w : Nat) : Prop := mvw a w ≤ wN a w + lnw a w ∧ (wN a w = 0 → mvw a w = 0)
def okD (a : Nat → Nat) : Prop := ∀ l, l < 36 → a (44 + l) < 16 ∧ ∀ d, dnB a l d = true → d < 4 ∧ l < a 0 * a 1 ∧ bes (a 0) (a 1) l d ≠ 99
/-- all that is asked of a row, but what two worms hold -/
def WF1 (a : Nat → Nat) : Prop := WF0 a ∧ (∀ w, w < 2 * a 3 → okV a w) ∧ okD a
theorem WF1.b {a : Nat → Nat} (h : WF1 a) {w : Nat} (hw : w < 2 * a 3) : w < 10 ∧ wN a w ≤ 35 ∧ wC a w ≤ 35 ∧ 1 ≤ lnw a w ∧ lnw a w ≤ 9 ∧ mvw a w ≤ 44 := by
  have h5 := h.1.2.1
  obtain ⟨-, h1, h2⟩ := wyB h.1 hw
  have h3 := (h.1.2.2 (w / 2) (by omega)).2
  have h4 := (h.2.1 w hw).1
  unfold lnw at *
  exact ⟨by omega, h1, h2, h3.1, h3.2.1, by omega⟩
theorem wC0 {a : Nat → Nat} (h : WF0 a) {w : Nat} (hw : w < 2 * a 3) : wC a w = 0 ↔ wN a w = 0 := by
  obtain ⟨hok, -, -⟩ := wyB h hw
  obtain ⟨-, -, -, -, h5, -, -, -, h9, -⟩ := hok
  constructor
  · intro e; exact h9 e
  · intro e
    have : (wy a w).2.2.2.1 ≤ (wy a w).2.1 := h5
    unfold wN at e
    unfold wC
    omega
theorem m_moves {F : Nat} {m : HT} {a : Nat → Nat} (h : RM m a) {w : Nat} (hw : w < 10) : fX7_moves F m (nI w) = some (nI (mvw a w), m) := by
  unfold fX7_moves
  rw [n2, rem_nI (by omega) (by omega) (by omega), div_nI (by omega) (by omega) (by omega), n4, nI_add, bds (m_of0 h (by omega) (by omega)), mvw, show 4 + 8 * (w / 2) + (4 + w % 2) = 8 + 8 * (w / 2) + w % 2 by omega]
theorem m_len {F : Nat} {m : HT} {a : Nat → Nat} (h : RM m a) {w : Nat} (hw : w < 10) : fX7_of0 F m (nI w / 2) 1 = some (nI (lnw a w), m) := by
  rw [n2, div_nI (by omega) (by omega) (by omega), n1, m_of0 h (by omega) (by omega), lnw, show 4 + 8 * (w / 2) + 1 = 5 + 8 * (w / 2) by omega]
theorem m_wait {F : Nat} {m : HT} {a : Nat → Nat} (h : RM m a) {w : Nat} (hw : w < 10) : fX7_of0 F m (nI w / 2) (6 + (nI w - nI w / 2 * 2)) = some (nI (wtw a w), m) := by
  rw [n2, rem_nI (by omega) (by omega) (by omega), div_nI (by omega) (by omega) (by omega), n6, nI_add, m_of0 h (by omega) (by omega), wtw, show 4 + 8 * (w / 2) + (6 + w % 2) = 10 + 8 * (w / 2) + w % 2 by omega]
theorem m_isDone {F : Nat} {m : HT} {a : Nat → Nat} (h : RM m a) (k : WF1 a) (hW : WM m a) {w : Nat} (hw : w < 2 * a 3) : fX7_isDone F m (nI w) = some (if dnW a w = true then 1 else 0, m) := by
  obtain ⟨b1, b2, b3, b4, b5, b6⟩ := k.b hw
  obtain ⟨⟨-, q2, -⟩, q4⟩ := hW w hw
  have q2 : m.1 8 w = nI (wC a w) := q2
  have h0 := wC0 k.1 hw
  unfold fX7_isDone fX7_isDone_32
  rw [ckb (inb_nI (by omega) (by omega)), clamp_nI (by omega), q2, ite_e0 (by omega)]
  by_cases e : wC a w = 0
  · rw [if_pos e, if_pos (by simp [dnW, h0.mp e])]
  · have e' : ¬ wN a w = 0 := fun q => e (h0.mpr q)
    rw [if_neg e, bds (m_moves h b1), ckb (inb_nI (by omega) (by omega)), bds (m_len h b1), q4, nI_add, ite_eq (by omega) (by omega)]
    by_cases e2 : mvw a w = wN a w + lnw a w
    · rw [if_pos e2, if_pos (by simp [dnW, e2])]
    · rw [if_neg e2, if_neg (by simp [dnW, e', e2])]
theorem m_heldFrom {F : Nat} {m : HT} {a : Nat → Nat} (h : RM m a) (k : WF1 a) {w : Nat} (hw : w < 2 * a 3) : fX7_heldFrom F m (nI w) = some (nI (hTail a w), m) := by
  obtain ⟨b1, b2, b3, b4, b5, b6⟩ := k.b hw
  unfold fX7_heldFrom
  rw [bds (m_moves h b1), bds (m_len h b1), lts, hTail]
  by_cases e : lnw a w ≤ mvw a w
  · rw [sub_nI e, if_pos (nI_ge0 (by omega))]
  · rw [if_neg (Int32.not_le.mpr (pk_sneg (by omega) (by omega))), show mvw a w - lnw a w = 0 by omega]
    rfl
theorem m_heldTo {F : Nat} {m : HT} {a : Nat → Nat} (h : RM m a) (k : WF1 a) (hW : WM m a) {w : Nat} (hw : w < 2 * a 3) : fX7_heldTo F m (nI w) = some (nI (hHead a w), m) := by
  obtain ⟨b1, b2, b3, b4, b5, b6⟩ := k.b hw
  obtain ⟨-, q4⟩ := hW w hw
  unfold fX7_heldTo
  rw [bds (m_moves h b1), ckb (inb_nI (by omega) (by omega)), clamp_nI (by omega), q4, ite_le (by omega) (by omega), hHead]
  by_cases e : wN a w ≤ mvw a w
  · rw [if_pos e, ckb (inb_nI (by omega) (by omega)), if_neg (by omega)]
  · rw [if_neg e, bds (m_moves h b1), if_pos (by omega)]
theorem hHead_le {a : Nat → Nat} {w : Nat} : hHead a w ≤ wN a w := by unfold hHead; split <;> omega
theorem m_way {m : HT} {a : Nat → Nat} (hW : WM m a) {w : Nat} (hw : w < 2 * a 3) {j : Nat} (hj : j ≤ wN a w) : m.1 6 (37 * w + j) = nI (wP a w j) := (hW w hw).1.1 j hj
theorem wP_lt {a : Nat → Nat} (k : WF0 a) {w : Nat} (hw : w < 2 * a 3) {j : Nat} (hj : j ≤ wN a w) : wP a w j < a 0 * a 1 ∧ wP a w j < 36 := by
  obtain ⟨hok, -, -⟩ := wyB k hw
  have h1 := (hok.2.2.1 j hj).1
  have h36 := okW_36 k.1
  exact ⟨h1, Nat.lt_of_lt_of_le h1 h36.2⟩
theorem m_isHeldBy_l {F : Nat} {m : HT} {a : Nat → Nat} (h : RM m a) (k : WF1 a) (hW : WM m a) {w f t : Nat} (hw : w < 2 * a 3) (hf : f < 36) (ht : t < 36) :
    ∀ d i n, (i + d = hHead a w ∨ (d = 0 ∧ hHead a w ≤ i)) → hTail a w ≤ i → i < 100 → d < n → ∀ b : Bool, (b = anyK (fun k => decide (hTail a w ≤ k) && (decide (wP a w k = f) && decide (wP a w (k + 1) = t))) (if i ≤ hHead a w then i else hHead a w)) → fX7_isHeldBy_10 F n m (nI w) (nI f) (nI t) (if b = true then 1 else 0) (nI i) = some (if hldB a w f t = true then 1 else 0, m) := by
  obtain ⟨b1, b2, b3, b4, b5, b6⟩ := k.b hw
  have hh := hHead_le (a := a) (w := w)
  intro d
  induction d with
  | zero =>
    intro i n hid hti hi hd b hb
    obtain ⟨n, rfl⟩ : ∃ n', n = n' + 1 := ⟨n - 1, by omega⟩
    show fX7_isHeldBy_10b F (fX7_isHeldBy_10 F n) m _ _ _ _ _ = _
    unfold fX7_isHeldBy_10b
    rw [bds (m_heldTo h k hW hw), if_pos (by rw [le_nI (by omega) (by omega)]; omega), ckb (by cases b <;> rfl)]
    have e : (if i ≤ hHead a w then i else hHead a w) = hHead a w := by split <;> omega
    rw [e] at hb
    rw [hb, hldB]
  | succ d ih =>
    intro i n hid hti hi hd b hb
    obtain ⟨n, rfl⟩ : ∃ n', n = n' + 1 := ⟨n - 1, by omega⟩
    have hlt : i < hHead a w := by omega
    have hih := fun (b' : Bool) (hb' : b' = anyK (fun k => decide (hTail a w ≤ k) && (decide (wP a w k = f) && decide (wP a w (k + 1) = t))) (i + 1)) => ih (i + 1) n (by omega) (by omega) (by omega) (by omega) b' (by rw [if_pos (by omega)]; exact hb')
    rw [if_pos (by omega)] at hb
    have p1 := wP_lt k.1 hw (j := i) (by omega)
    have p2 := wP_lt k.1 hw (j := i + 1) (by omega)
    show fX7_isHeldBy_10b F (fX7_isHeldBy_10 F n) m _ _ _ _ _ = _
    unfold fX7_isHeldBy_10b fX7_isHeldBy_59 fX7_isHeldBy_63 fX7_isHeldBy_64
    rw [bds (m_heldTo h k hW hw), if_neg (by rw [le_nI (by omega) (by omega)]; omega)]
    cases b with
    | true =>
      rw [if_neg (by decide), lts, nI_1]
      exact hih true (by rw [anyK, ← hb]; rfl)
    | false =>
      rw [if_pos (by decide), n37, pk_mul, nI_add, ckb (inb_nI (by omega) (by omega)), clamp_nI (by omega), m_way hW hw (by omega), ite_eq (by omega) (by omega)]
      by_cases e1 : wP a w i = f
      · rw [if_pos e1, nI_1, ckb (inb_nI (by omega) (by omega)), clamp_nI (by omega), show 37 * w + i + 1 = 37 * w + (i + 1) by omega, m_way hW hw (by omega), ite_eq (by omega) (by omega)]
        by_cases e2 : wP a w (i + 1) = t
        · rw [if_pos e2, lts, nI_1]
          exact hih true (by rw [anyK, ← hb]; simp [e1, e2, hti])
        · rw [if_neg e2, lts, nI_1]
          exact hih false (by rw [anyK, ← hb]; simp [e2])
      · rw [if_neg e1, lts, nI_1]
        exact hih false (by rw [anyK, ← hb]; simp [e1])
theorem anyK_no {p : Nat → Bool} {n : Nat} (h : ∀ k, k < n → p k = false) : anyK p n = false := by
  rcases Bool.eq_false_or_eq_true (anyK p n) with e | e
  · obtain ⟨k, h1, h2⟩ := anyK_iff.mp e
    rw [h k h1] at h2
    cases h2
  · exact e
theorem m_isHeldBy {F : Nat} (hF : 1000 ≤ F) {m : HT} {a : Nat → Nat} (h : RM m a) (k : WF1 a) (hW : WM m a) {w f t : Nat} (hw : w < 2 * a 3) (hf : f < 36) (ht : t < 36) : fX7_isHeldBy F m (nI w) (nI f) (nI t) = some (if hldB a w f t = true then 1 else 0, m) := by
  obtain ⟨b1, b2, b3, b4, b5, b6⟩ := k.b hw
  have hh := hHead_le (a := a) (w := w)
  have ht9 : hTail a w ≤ 44 := by unfold hTail; omega
  unfold fX7_isHeldBy
  rw [bds (m_heldFrom h k hw)]
  have e0 : false = anyK (fun k => decide (hTail a w ≤ k) && (decide (wP a w k = f) && decide (wP a w (k + 1) = t))) (if hTail a w ≤ hHead a w then hTail a w else hHead a w) := (anyK_no (fun k hk => by
    have : ¬ hTail a w ≤ k := by split at hk <;> omega
    simp [this])).symm
  exact m_isHeldBy_l h k hW hw hf ht (hHead a w - hTail a w) (hTail a w) F (by omega) (Nat.le_refl _) (by omega) (by omega) false e0
theorem fstK_99 {p : Nat → Bool} : ∀ {n : Nat}, n ≤ 99 → (fstK p n = 99 ↔ ∀ k, k < n → p k = false)
  | 0, _ => ⟨fun _ k hk => absurd hk (Nat.not_lt_zero k), fun _ => rfl⟩
  | n + 1, hn => by
    rw [fstK]
    have ih := fstK_99 (p := p) (n := n) (by omega)
    by_cases e : fstK p n = 99
    · rw [if_pos e]
      have h1 := ih.mp e
      by_cases e2 : p n = true
      · rw [if_pos e2]
        exact ⟨fun q => by omega, fun q => by rw [q n (by omega)] at e2; cases e2⟩
      · rw [if_neg e2]
        refine ⟨fun _ k hk => ?_, fun _ => rfl⟩
        rcases Nat.lt_or_ge k n with h | h
        · exact h1 k h
        · rw [show k = n by omega]; exact Bool.eq_false_iff.mpr e2
    · rw [if_neg e]
      exact ⟨fun q => absurd q e, fun q => absurd (ih.mpr (fun k hk => q k (by omega))) e⟩
theorem fstK_le {p : Nat → Bool} : ∀ {n : Nat}, fstK p n = 99 ∨ fstK p n < n
  | 0 => Or.inl rfl
  | n + 1 => by
    rw [fstK]
    rcases fstK_le (p := p) (n := n) with e | e
    · rw [if_pos e]
      by_cases e2 : p n = true
      · rw [if_pos e2]; omega
      · rw [if_neg e2]; omega
    · by_cases e2 : fstK p n = 99
      · rw [if_pos e2]
        by_cases e3 : p n = true
        · rw [if_pos e3]; omega
        · rw [if_neg e3]; omega
      · rw [if_neg e2]; omega
theorem m_holder_l {F : Nat} (hF : 1000 ≤ F) {m : HT} {a : Nat → Nat} (h : RM m a) (k : WF1 a) (hW : WM m a) {f t : Nat} (hf : f < 36) (ht : t < 36) :
    ∀ d w n, w + d = 2 * a 3 → d < n → fX7_holder_5 F n m (nI f) (nI t) (oI (fstK (fun w => hldB a w f t) w)) (nI w) = some (oI (hdr a f t), m) := by
  have h5 := k.1.2.1
  intro d
  induction d with
  | zero =>
    intro w n hid hd
    obtain ⟨n, rfl⟩ : ∃ n', n = n' + 1 := ⟨n - 1, by omega⟩
    show fX7_holder_5b F (fX7_holder_5 F n) m _ _ _ _ = _
    unfold fX7_holder_5b
    rw [ckb (by decide), c3, h 3 (by omega), n2, pk_mul, if_pos (by rw [le_nI (by omega) (by omega)]; omega), hdr, show w = 2 * a 3 by omega]
  | succ d ih =>
    intro w n hid hd
    obtain ⟨n, rfl⟩ : ∃ n', n = n' + 1 := ⟨n - 1, by omega⟩
    have ih1 := ih (w + 1) n (by omega) (by omega)
    rw [fstK] at ih1
    show fX7_holder_5b F (fX7_holder_5 F n) m _ _ _ _ = _
    unfold fX7_holder_5b fX7_holder_39 fX7_holder_40
    rw [ckb (by decide), c3, h 3 (by omega), n2, pk_mul, if_neg (by rw [le_nI (by omega) (by omega)]; omega)]
    have hr := fstK_le (p := fun w => hldB a w f t) (n := w)
    rw [ite_m1 (by omega)]
    by_cases e : fstK (fun w => hldB a w f t) w = 99
    · rw [if_pos e, bds (m_isHeldBy hF h k hW (by omega) hf ht)]
      rw [if_pos e] at ih1
      by_cases e2 : hldB a w f t = true
      · rw [if_pos e2, if_neg (by decide), lts, nI_1]
        rw [if_pos e2, oI_ne (by omega)] at ih1
        exact ih1
      · rw [if_neg e2, if_pos rfl, lts, nI_1]
        rw [if_neg e2] at ih1
        rw [e]
        exact ih1
    · rw [if_neg e, lts, nI_1]
      rw [if_neg e] at ih1
      exact ih1
theorem m_holder {F : Nat} (hF : 1000 ≤ F) {m : HT} {a : Nat → Nat} (h : RM m a) (k : WF1 a) (hW : WM m a) {f t : Nat} (hf : f < 36) (ht : t < 36) : fX7_holder F m (nI f) (nI t) = some (oI (hdr a f t), m) := by
  have h5 := k.1.2.1
  exact m_holder_l hF h k hW hf ht (2 * a 3) 0 F (by omega) (by omega)
