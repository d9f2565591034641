-- ===== the reference: rows laid aside, states =====
theorem m_laysAside_l {F : Nat} {m0 : HT} : ∀ d i n m, i + d = 80 → d < n → m.2 = m0.2 → (∀ c q, c ≠ 2 → m.1 c q = m0.1 c q) → (∀ k, k < i → m.1 2 k = m0.1 1 k) → ∃ m', fX7_laysAside_2 F n m (nI i) = some ((), m') ∧ m'.2 = m0.2 ∧ (∀ c q, c ≠ 2 → m'.1 c q = m0.1 c q) ∧ ∀ k, k < 80 → m'.1 2 k = m0.1 1 k := by
  intro d
  induction d with
  | zero =>
    intro i n m hid hd h1 h2 h3
    obtain ⟨n, rfl⟩ : ∃ n', n = n' + 1 := ⟨n - 1, by omega⟩
    show ∃ m', fX7_laysAside_2b F (fX7_laysAside_2 F n) m _ = _ ∧ _
    unfold fX7_laysAside_2b
    rw [if_pos (by rw [n80, le_nI (by omega) (by omega)]; omega)]
    exact ⟨m, rfl, h1, h2, fun k hk => h3 k (by omega)⟩
  | succ d ih =>
    intro i n m hid hd h1 h2 h3
    obtain ⟨n, rfl⟩ : ∃ n', n = n' + 1 := ⟨n - 1, by omega⟩
    show ∃ m', fX7_laysAside_2b F (fX7_laysAside_2 F n) m _ = _ ∧ _
    unfold fX7_laysAside_2b
    rw [if_neg (by rw [n80, le_nI (by omega) (by omega)]; omega), ckb (inb_nI (by omega) (by omega)), ckb (inb_nI (by omega) (by omega)), clamp_nI (by omega), lts, lts, nI_1]
    refine ih (i + 1) n _ (by omega) (by omega) h1 (fun c q hc => ?_) (fun k hk => ?_)
    · rw [sI_r, if_neg (fun z => hc z.1)]; exact h2 c q hc
    · rw [sI_r]
      by_cases e : k = i
      · rw [if_pos ⟨rfl, e⟩, e]; exact h2 1 i (by decide)
      · rw [if_neg (fun z => e z.2)]; exact h3 k (by omega)
theorem m_laysAside {F : Nat} (hF : 1000 ≤ F) (m : HT) : ∃ m', fX7_laysAside F m = some ((), m') ∧ m'.2 = m.2 ∧ (∀ c q, c ≠ 2 → m'.1 c q = m.1 c q) ∧ ∀ k, k < 80 → m'.1 2 k = m.1 1 k :=
  m_laysAside_l 80 0 F m (by omega) (by omega) rfl (fun _ _ _ => rfl) (fun k hk => absurd hk (Nat.not_lt_zero k))
theorem m_takesBack_l {F : Nat} {m0 : HT} : ∀ d i n m, i + d = 80 → d < n → m.2 = m0.2 → (∀ c q, c ≠ 1 → m.1 c q = m0.1 c q) → (∀ k, k < i → m.1 1 k = m0.1 2 k) → ∃ m', fX7_takesBack_2 F n m (nI i) = some ((), m') ∧ m'.2 = m0.2 ∧ (∀ c q, c ≠ 1 → m'.1 c q = m0.1 c q) ∧ ∀ k, k < 80 → m'.1 1 k = m0.1 2 k := by
  intro d
  induction d with
  | zero =>
    intro i n m hid hd h1 h2 h3
    obtain ⟨n, rfl⟩ : ∃ n', n = n' + 1 := ⟨n - 1, by omega⟩
    show ∃ m', fX7_takesBack_2b F (fX7_takesBack_2 F n) m _ = _ ∧ _
    unfold fX7_takesBack_2b
    rw [if_pos (by rw [n80, le_nI (by omega) (by omega)]; omega)]
    exact ⟨m, rfl, h1, h2, fun k hk => h3 k (by omega)⟩
  | succ d ih =>
    intro i n m hid hd h1 h2 h3
    obtain ⟨n, rfl⟩ : ∃ n', n = n' + 1 := ⟨n - 1, by omega⟩
    show ∃ m', fX7_takesBack_2b F (fX7_takesBack_2 F n) m _ = _ ∧ _
    unfold fX7_takesBack_2b
    rw [if_neg (by rw [n80, le_nI (by omega) (by omega)]; omega), ckb (inb_nI (by omega) (by omega)), ckb (inb_nI (by omega) (by omega)), clamp_nI (by omega), lts, lts, nI_1]
    refine ih (i + 1) n _ (by omega) (by omega) h1 (fun c q hc => ?_) (fun k hk => ?_)
    · rw [sI_r, if_neg (fun z => hc z.1)]; exact h2 c q hc
    · rw [sI_r]
      by_cases e : k = i
      · rw [if_pos ⟨rfl, e⟩, e]; exact h2 2 i (by decide)
      · rw [if_neg (fun z => e z.2)]; exact h3 k (by omega)
theorem m_takesBack {F : Nat} (hF : 1000 ≤ F) (m : HT) : ∃ m', fX7_takesBack F m = some ((), m') ∧ m'.2 = m.2 ∧ (∀ c q, c ≠ 1 → m'.1 c q = m.1 c q) ∧ ∀ k, k < 80 → m'.1 1 k = m.1 2 k :=
  m_takesBack_l 80 0 F m (by omega) (by omega) rfl (fun _ _ _ => rfl) (fun k hk => absurd hk (Nat.not_lt_zero k))
/-- states kept: how many, and the rows -/
def RP (m : HT) (S : Nat) (hs : Nat → Nat → Nat) : Prop := S ≤ 5 ∧ m.1 0 3 = nI S ∧ ∀ t, t < S → ∀ k, k < 80 → m.1 3 (80 * t + k) = nI (hs t k)
def psS (S : Nat) : Nat := if S = 5 then 5 else S + 1
def psH (S : Nat) (hs : Nat → Nat → Nat) (b : Nat → Nat) : Nat → Nat → Nat := if S = 5 then (fun t => if t < 4 then hs (t + 1) else b) else (fun t => if t = S then b else hs t)
theorem m_rem50 {F : Nat} {m0 : HT} {S : Nat} (hS : S < 5) : ∀ d i n m, i + d = 80 → d < n → m.1 0 3 = nI S → m.2 = m0.2 → (∀ c q, c ≠ 3 → m.1 c q = m0.1 c q) → (∀ q, (q < 80 * S ∨ 80 * S + i ≤ q) → m.1 3 q = m0.1 3 q) → (∀ k, k < i → m.1 3 (80 * S + k) = m0.1 2 k) →
    ∃ m', fX7_remembers_50 F n m (nI i) = some ((), m') ∧ m'.2 = m0.2 ∧ (∀ c q, c ≠ 3 → (c ≠ 0 ∨ q ≠ 3) → m'.1 c q = m0.1 c q) ∧ m'.1 0 3 = nI (S + 1) ∧ (∀ q, q < 80 * S → m'.1 3 q = m0.1 3 q) ∧ ∀ k, k < 80 → m'.1 3 (80 * S + k) = m0.1 2 k := by
  intro d
  induction d with
  | zero =>
    intro i n m hid hd hs h1 h2 h3 h4
    obtain ⟨n, rfl⟩ : ∃ n', n = n' + 1 := ⟨n - 1, by omega⟩
    show ∃ m', fX7_remembers_50b F (fX7_remembers_50 F n) m _ = _ ∧ _
    unfold fX7_remembers_50b
    rw [if_pos (by rw [n80, le_nI (by omega) (by omega)]; omega), hs, nI_1, lts]
    refine ⟨_, rfl, h1, fun c q hc hc2 => ?_, ?_, fun q hq => ?_, fun k hk => ?_⟩
    · rw [sI_r, if_neg (by omega)]; exact h2 c q hc
    · rw [sI_r, if_pos ⟨rfl, rfl⟩]
    · rw [sI_r, if_neg (by omega)]; exact h3 q (Or.inl hq)
    · rw [sI_r, if_neg (by omega)]; exact h4 k (by omega)
  | succ d ih =>
    intro i n m hid hd hs h1 h2 h3 h4
    obtain ⟨n, rfl⟩ : ∃ n', n = n' + 1 := ⟨n - 1, by omega⟩
    show ∃ m', fX7_remembers_50b F (fX7_remembers_50 F n) m _ = _ ∧ _
    unfold fX7_remembers_50b
    rw [if_neg (by rw [n80, le_nI (by omega) (by omega)]; omega), ckb (inb_nI (by omega) (by omega)), hs, n80, pk_mul, nI_add, ckb (inb_nI (by omega) (by omega)), clamp_nI (by omega), clamp_nI (by omega), lts, lts, nI_1]
    refine ih (i + 1) n _ (by omega) (by omega) ?_ h1 (fun c q hc => ?_) (fun q hq => ?_) (fun k hk => ?_)
    · rw [sI_r, if_neg (by omega)]; exact hs
    · rw [sI_r, if_neg (fun z => hc z.1)]; exact h2 c q hc
    · rw [sI_r, if_neg (by omega)]; exact h3 q (by omega)
    · rw [sI_r]
      by_cases e : k = i
      · rw [if_pos ⟨rfl, by omega⟩, e]; exact h2 2 i (by decide)
      · rw [if_neg (by omega)]; exact h4 k (by omega)
theorem m_rem10 {F : Nat} {m0 : HT} : ∀ d i n m, i + d = 320 → d < n → m.2 = m0.2 → (∀ c q, c ≠ 3 → m.1 c q = m0.1 c q) → (∀ q, i ≤ q → m.1 3 q = m0.1 3 q) → (∀ k, k < i → m.1 3 k = m0.1 3 (k + 80)) →
    ∃ m', fX7_remembers_10 F n m (nI i) = fX7_remembers_48 F (sI m' 0 3 (m0.1 0 3 - 1)) ∧ m'.2 = m0.2 ∧ (∀ c q, c ≠ 3 → m'.1 c q = m0.1 c q) ∧ ∀ k, k < 320 → m'.1 3 k = m0.1 3 (k + 80) := by
  intro d
  induction d with
  | zero =>
    intro i n m hid hd h1 h2 h3 h4
    obtain ⟨n, rfl⟩ : ∃ n', n = n' + 1 := ⟨n - 1, by omega⟩
    show ∃ m', fX7_remembers_10b F (fX7_remembers_10 F n) m _ = _ ∧ _
    unfold fX7_remembers_10b
    rw [if_pos (by rw [n320, le_nI (by omega) (by omega)]; omega), lts]
    exact ⟨m, by rw [h2 0 3 (by decide)], h1, h2, fun k hk => h4 k (by omega)⟩
  | succ d ih =>
    intro i n m hid hd h1 h2 h3 h4
    obtain ⟨n, rfl⟩ : ∃ n', n = n' + 1 := ⟨n - 1, by omega⟩
    show ∃ m', fX7_remembers_10b F (fX7_remembers_10 F n) m _ = _ ∧ _
    unfold fX7_remembers_10b
    rw [if_neg (by rw [n320, le_nI (by omega) (by omega)]; omega), n80, nI_add, ckb (inb_nI (by omega) (by omega)), ckb (inb_nI (by omega) (by omega)), clamp_nI (by omega), clamp_nI (by omega), lts, lts, nI_1]
    refine ih (i + 1) n _ (by omega) (by omega) h1 (fun c q hc => ?_) (fun q hq => ?_) (fun k hk => ?_)
    · rw [sI_r, if_neg (fun z => hc z.1)]; exact h2 c q hc
    · rw [sI_r, if_neg (by omega)]; exact h3 q (by omega)
    · rw [sI_r]
      by_cases e : k = i
      · rw [if_pos ⟨rfl, e⟩, e]; exact h3 _ (by omega)
      · rw [if_neg (by omega)]; exact h4 k (by omega)
theorem m_remembers {F : Nat} (hF : 1000 ≤ F) {m : HT} {S : Nat} {hs : Nat → Nat → Nat} {b : Nat → Nat} (h : RP m S hs) (hb : ∀ k, k < 80 → m.1 2 k = nI (b k)) :
    ∃ m', fX7_remembers F m = some ((), m') ∧ m'.2 = m.2 ∧ (∀ c q, c ≠ 3 → (c ≠ 0 ∨ q ≠ 3) → m'.1 c q = m.1 c q) ∧ RP m' (psS S) (psH S hs b) := by
  obtain ⟨h5, h3, hr⟩ := h
  unfold fX7_remembers
  rw [h3, n5, ite_eq (by omega) (by omega)]
  by_cases e : S = 5
  · subst e
    rw [if_pos rfl]
    obtain ⟨m1, e1, f1, f2, f3⟩ := m_rem10 (F := F) (m0 := m) 320 0 F m (by omega) (by omega) rfl (fun _ _ _ => rfl) (fun _ _ => rfl) (fun k hk => absurd hk (Nat.not_lt_zero k))
    have e1' : fX7_remembers_10 F F m 0 = _ := e1
    rw [e1', h3]
    have e2 : sI m1 0 3 (nI 5 - 1) = sI m1 0 3 (nI 4) := rfl
    rw [e2]
    unfold fX7_remembers_48
    obtain ⟨m', g1, g2, g3, g4, g5, g6⟩ := m_rem50 (F := F) (m0 := sI m1 0 3 (nI 4)) (S := 4) (by omega) 80 0 F (sI m1 0 3 (nI 4)) (by omega) (by omega) (by rw [sI_r, if_pos ⟨rfl, rfl⟩]) rfl (fun _ _ _ => rfl) (fun _ _ => rfl) (fun k hk => absurd hk (Nat.not_lt_zero k))
    refine ⟨m', g1, by rw [g2]; exact f1, fun c q hc hc2 => ?_, by decide, g4, fun t ht k hk => ?_⟩
    · rw [g3 c q hc hc2, sI_r, if_neg (by omega)]; exact f2 c q hc
    · rw [psS, if_pos rfl] at ht
      rw [psH, if_pos rfl]
      by_cases e4 : t < 4
      · rw [if_pos e4, g5 _ (by omega), sI_r, if_neg (by omega), f3 _ (by omega), show 80 * t + k + 80 = 80 * (t + 1) + k by omega]
        exact hr (t + 1) (by omega) k hk
      · rw [if_neg e4, show t = 4 by omega, g6 k hk, sI_r, if_neg (by omega), f2 2 k (by decide)]
        exact hb k hk
  · rw [if_neg e]
    unfold fX7_remembers_48
    obtain ⟨m', g1, g2, g3, g4, g5, g6⟩ := m_rem50 (F := F) (m0 := m) (S := S) (by omega) 80 0 F m (by omega) (by omega) h3 rfl (fun _ _ _ => rfl) (fun _ _ => rfl) (fun k hk => absurd hk (Nat.not_lt_zero k))
    refine ⟨m', g1, g2, g3, ?_, ?_, fun t ht k hk => ?_⟩
    · unfold psS; split <;> omega
    · rw [g4, psS, if_neg e]
    · rw [psS, if_neg e] at ht
      rw [psH, if_neg e]
      by_cases e4 : t = S
      · rw [if_pos e4, e4, g6 k hk]; exact hb k hk
      · rw [if_neg e4, g5 _ (by omega)]; exact hr t (by omega) k hk
theorem m_back_l {F : Nat} {m0 : HT} {S : Nat} (hS : S < 5) : ∀ d i n m, i + d = 80 → d < n → m.1 0 3 = nI S → m.2 = m0.2 → (∀ c q, c ≠ 1 → m.1 c q = m0.1 c q) → (∀ k, k < i → m.1 1 k = m0.1 3 (80 * S + k)) →
    ∃ m', fX7_back_26 F n m (nI i) = some (nI S, m') ∧ m'.2 = m0.2 ∧ (∀ c q, c ≠ 1 → m'.1 c q = m0.1 c q) ∧ ∀ k, k < 80 → m'.1 1 k = m0.1 3 (80 * S + k) := by
  intro d
  induction d with
  | zero =>
    intro i n m hid hd hs h1 h2 h3
    obtain ⟨n, rfl⟩ : ∃ n', n = n' + 1 := ⟨n - 1, by omega⟩
    show ∃ m', fX7_back_26b F (fX7_back_26 F n) m _ = _ ∧ _
    unfold fX7_back_26b
    rw [if_pos (by rw [n80, le_nI (by omega) (by omega)]; omega), hs]
    exact ⟨m, rfl, h1, h2, fun k hk => h3 k (by omega)⟩
  | succ d ih =>
    intro i n m hid hd hs h1 h2 h3
    obtain ⟨n, rfl⟩ : ∃ n', n = n' + 1 := ⟨n - 1, by omega⟩
    show ∃ m', fX7_back_26b F (fX7_back_26 F n) m _ = _ ∧ _
    unfold fX7_back_26b
    rw [if_neg (by rw [n80, le_nI (by omega) (by omega)]; omega), hs, n80, pk_mul, nI_add, ckb (inb_nI (by omega) (by omega)), ckb (inb_nI (by omega) (by omega)), clamp_nI (by omega), clamp_nI (by omega), lts, lts, nI_1]
    refine ih (i + 1) n _ (by omega) (by omega) ?_ h1 (fun c q hc => ?_) (fun k hk => ?_)
    · rw [sI_r, if_neg (by omega)]; exact hs
    · rw [sI_r, if_neg (fun z => hc z.1)]; exact h2 c q hc
    · rw [sI_r]
      by_cases e : k = i
      · rw [if_pos ⟨rfl, e⟩, e]; exact h2 3 _ (by decide)
      · rw [if_neg (fun z => e z.2)]; exact h3 k (by omega)
theorem m_refuses {F : Nat} {m : HT} {v : Int32} {j : Nat} (hj : j < 3) (hv : (-2 : Int32) - v = nI j) : fX7_refuses F m v = some (v, sI m 4 j (m.1 4 j + 1)) := by
  unfold fX7_refuses
  rw [hv, ckb (inb_nI (by omega) (by omega)), ckb (inb_nI (by omega) (by omega)), clamp_nI (by omega), lts]
theorem m_rBad {F : Nat} (m : HT) : fX7_refuses F m (-2) = some (-2, sI m 4 0 (m.1 4 0 + 1)) := m_refuses (by omega) (by decide)
theorem m_rNo {F : Nat} (m : HT) : fX7_refuses F m (-3) = some (-3, sI m 4 1 (m.1 4 1 + 1)) := m_refuses (by omega) (by decide)
theorem m_rFull {F : Nat} (m : HT) : fX7_refuses F m (-4) = some (-4, sI m 4 2 (m.1 4 2 + 1)) := m_refuses (by omega) (by decide)
theorem m_back_n {F : Nat} {m : HT} (h : m.1 0 3 = nI 0) : fX7_back F m = some (-3, sI m 4 1 (m.1 4 1 + 1)) := by
  unfold fX7_back
  rw [h, if_pos (by decide), bds (m_rNo m)]
theorem m_back_y {F : Nat} (hF : 1000 ≤ F) {m : HT} {S : Nat} (hS : S < 5) (h : m.1 0 3 = nI (S + 1)) : ∃ m', fX7_back F m = some (nI S, m') ∧ m'.2 = m.2 ∧ (∀ c q, c ≠ 1 → (c ≠ 0 ∨ q ≠ 3) → m'.1 c q = m.1 c q) ∧ m'.1 0 3 = nI S ∧ ∀ k, k < 80 → m'.1 1 k = m.1 3 (80 * S + k) := by
  unfold fX7_back
  rw [h, ite_e0 (by omega), if_neg (by omega), nI_pred, lts]
  obtain ⟨m', e1, e2, e3, e4⟩ := m_back_l (F := F) (m0 := sI m 0 3 (nI S)) hS 80 0 F (sI m 0 3 (nI S)) (by omega) (by omega) (by rw [sI_r, if_pos ⟨rfl, rfl⟩]) rfl (fun _ _ _ => rfl) (fun k hk => absurd hk (Nat.not_lt_zero k))
  refine ⟨m', e1, e2, fun c q hc hc2 => ?_, ?_, fun k hk => ?_⟩
  · rw [e3 c q hc, sI_r, if_neg (by omega)]
  · rw [e3 0 3 (by decide), sI_r, if_pos ⟨rfl, rfl⟩]
  · rw [e4 k hk, sI_r, if_neg (by omega)]
