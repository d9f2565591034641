-- ===== the class reads the text =====
def TX (x : HT) (n : Nat) (tx : Nat → Nat) : Prop := n ≤ 120 ∧ x.1 89 1 = nI n ∧ ∀ k, k < n → x.1 90 k = nI (tx k) ∧ tx k < 128
def FrY (x x' : HT) : Prop := x'.2 = x.2 ∧ ∀ c q, (c ≠ 89 ∨ (q ≠ 4 ∧ q ≠ 5)) → c ≠ 91 → c ≠ 92 → x'.1 c q = x.1 c q
theorem FrY.rf {x : HT} : FrY x x := ⟨rfl, fun _ _ _ _ _ => rfl⟩
theorem FrY.tr {x y z : HT} (h : FrY x y) (g : FrY y z) : FrY x z := ⟨g.1.trans h.1, fun c q a b d => (g.2 c q a b d).trans (h.2 c q a b d)⟩
theorem FrY.tx {x x' : HT} {n : Nat} {tx : Nat → Nat} (h : FrY x x') (r : TX x n tx) : TX x' n tx := ⟨r.1, by rw [h.2 89 1 (by omega) (by omega) (by omega)]; exact r.2.1, fun k hk => by rw [h.2 90 k (by omega) (by omega) (by omega)]; exact r.2.2 k hk⟩
theorem frY_89 {x : HT} {q : Nat} {v : Int32} (hq : q = 4 ∨ q = 5) : FrY x (sI x 89 q v) := ⟨rfl, fun c p h1 h2 h3 => by rw [sI_r, if_neg (by omega)]⟩
theorem frY_91 {x : HT} {q : Nat} {v : Int32} : FrY x (sI x 91 q v) := ⟨rfl, fun c p h1 h2 h3 => by rw [sI_r, if_neg (by omega)]⟩
theorem frY_92 {x : HT} {q : Nat} {v : Int32} : FrY x (sI x 92 q v) := ⟨rfl, fun c p h1 h2 h3 => by rw [sI_r, if_neg (by omega)]⟩
theorem frY5 {x x' : HT} (h1 : x'.2 = x.2) (h : ∀ c q, (c ≠ 89 ∨ q ≠ 5) → x'.1 c q = x.1 c q) : FrY x x' := ⟨h1, fun c q a b d => h c q (by omega)⟩
theorem x_byteHere {F : Nat} {x : HT} {n s : Nat} {tx : Nat → Nat} (r : TX x n tx) (hs : x.1 89 5 = nI s) (hsn : s ≤ n) : fX3_byteHere F x = some (if s < n then nI (tx s) else -1, x) := by
  obtain ⟨r1, r2, r3⟩ := r
  unfold fX3_byteHere
  rw [r2, hs, ite_le (by omega) (by omega)]
  by_cases e : n ≤ s
  · rw [if_pos e, if_neg (by omega)]
  · rw [if_neg e, ckb (inb_nI (by omega) (by omega)), clamp_nI (by omega), (r3 s (by omega)).1, if_pos (by omega)]
theorem x_isFigure {F : Nat} {x : HT} {n s : Nat} {tx : Nat → Nat} (r : TX x n tx) : fX3_isFigure F x (if s < n then nI (tx s) else -1) = some (if figB tx n s = true then 1 else 0, x) := by
  obtain ⟨r1, r2, r3⟩ := r
  unfold fX3_isFigure fX3_isFigure_16
  by_cases e : s < n
  · have ht := (r3 s e).2
    rw [if_pos e, show (48 : Int32) = nI 48 from rfl, show (57 : Int32) = nI 57 from rfl, ite_lt (by omega) (by omega), ite_lt (by omega) (by omega)]
    by_cases c1 : tx s < 48
    · rw [if_pos c1, if_neg (by simp [figB]; omega)]
    · rw [if_neg c1]
      by_cases c2 : 57 < tx s
      · rw [if_pos c2, if_neg (by simp [figB]; omega)]
      · rw [if_neg c2, if_pos (by simp [figB]; omega)]
  · rw [if_neg e, if_pos (by decide), if_neg (by simp [figB]; omega)]
theorem x_blanks_l {F : Nat} {n : Nat} {tx : Nat → Nat} {x0 : HT} : ∀ f s n9 x, n ≤ s + f → s ≤ n → f < n9 → TX x n tx → x.1 89 5 = nI s → x.2 = x0.2 → (∀ c q, (c ≠ 89 ∨ q ≠ 5) → x.1 c q = x0.1 c q) → ∃ x', fX3_passBlanks_0 F n9 x = some ((), x') ∧ x'.1 89 5 = nI (skB tx n f s) ∧ x'.2 = x0.2 ∧ (∀ c q, (c ≠ 89 ∨ q ≠ 5) → x'.1 c q = x0.1 c q) := by
  intro f
  induction f with
  | zero =>
    intro s n9 x h1 h2 h3 r hs g1 g2
    obtain ⟨n9, rfl⟩ : ∃ n', n9 = n' + 1 := ⟨n9 - 1, by omega⟩
    have hn := r.1
    show ∃ x', fX3_passBlanks_0b F (fX3_passBlanks_0 F n9) x = _ ∧ _
    unfold fX3_passBlanks_0b
    rw [r.2.1, hs, if_pos (by rw [le_nI (by omega) (by omega)]; omega)]
    exact ⟨x, rfl, hs, g1, g2⟩
  | succ f ih =>
    intro s n9 x h1 h2 h3 r hs g1 g2
    obtain ⟨n9, rfl⟩ : ∃ n', n9 = n' + 1 := ⟨n9 - 1, by omega⟩
    have hn := r.1
    show ∃ x', fX3_passBlanks_0b F (fX3_passBlanks_0 F n9) x = _ ∧ _
    unfold fX3_passBlanks_0b
    rw [skB, r.2.1, hs, ite_le (by omega) (by omega)]
    by_cases e : n ≤ s
    · rw [if_pos e, if_neg (by omega)]
      exact ⟨x, rfl, hs, g1, g2⟩
    · obtain ⟨t1, t2⟩ := r.2.2 s (by omega)
      rw [if_neg e, ckb (inb_nI (by omega) (by omega)), clamp_nI (by omega), t1, show (32 : Int32) = nI 32 from rfl, ite_eq (by omega) (by omega)]
      by_cases q : tx s = 32
      · rw [if_pos q, nI_1, lts, if_pos ⟨by omega, q⟩]
        refine ih (s + 1) n9 _ (by omega) (by omega) (by omega) ((frY_89 (by omega)).tx r) (by rw [sI_r, if_pos ⟨rfl, rfl⟩]) g1 (fun c p hc => ?_)
        rw [sI_r, if_neg (by omega)]
        exact g2 c p hc
      · rw [if_neg q, if_neg (fun z => q z.2)]
        exact ⟨x, rfl, hs, g1, g2⟩
theorem x_blanks {F : Nat} (hF : 1000 ≤ F) {x : HT} {n s : Nat} {tx : Nat → Nat} (r : TX x n tx) (hs : x.1 89 5 = nI s) (hsn : s ≤ n) : ∃ x', fX3_passBlanks F x = some ((), x') ∧ x'.1 89 5 = nI (skp tx n s) ∧ x'.2 = x.2 ∧ (∀ c q, (c ≠ 89 ∨ q ≠ 5) → x'.1 c q = x.1 c q) := by
  have := r.1
  exact x_blanks_l 121 s F x (by omega) hsn (by omega) r hs rfl (fun _ _ _ => rfl)
theorem x_num_l {F : Nat} {n to : Nat} {tx : Nat → Nat} {x0 : HT} (hto : to < 180) : ∀ f k s v n9 x, k + f = 3 → s ≤ n → v < 10 ^ k → f < n9 → TX x n tx → x.1 89 5 = nI s → x.2 = x0.2 → (∀ c q, (c ≠ 89 ∨ q ≠ 5) → x.1 c q = x0.1 c q) →
    ∃ x', fX3_readNumber_4 F n9 x (nI to) (nI k) (nI v) = some (if (rdN tx n f k s v).1 = true then 1 else 0, x') ∧ FrY x0 x' ∧ x'.1 89 4 = x0.1 89 4 ∧ (∀ q, x'.1 91 q = x0.1 91 q) ∧ (∀ q, q ≠ to → x'.1 92 q = x0.1 92 q) ∧ x'.1 89 5 = nI (rdN tx n f k s v).2.1 ∧ x'.1 92 to = nI (rdN tx n f k s v).2.2 := by
  have fin : ∀ k s v x, s ≤ n → k ≤ 3 → TX x n tx → x.1 89 5 = nI s → x.2 = x0.2 → (∀ c q, (c ≠ 89 ∨ q ≠ 5) → x.1 c q = x0.1 c q) →
      ∃ x', fX3_readNumber_48 F x (nI to) (nI k) (nI v) = some (if (decide (0 < k) && !figB tx n s) = true then 1 else 0, x') ∧ FrY x0 x' ∧ x'.1 89 4 = x0.1 89 4 ∧ (∀ q, x'.1 91 q = x0.1 91 q) ∧ (∀ q, q ≠ to → x'.1 92 q = x0.1 92 q) ∧ x'.1 89 5 = nI s ∧ x'.1 92 to = nI v := by
    intro k s v x hsn hk3 r hs g1 g2
    have fr0 : FrY x0 x := frY5 g1 g2
    have tl : FrY x0 (sI x 92 to (nI v)) ∧ (sI x 92 to (nI v)).1 89 4 = x0.1 89 4 ∧ (∀ q, (sI x 92 to (nI v)).1 91 q = x0.1 91 q) ∧ (∀ q, q ≠ to → (sI x 92 to (nI v)).1 92 q = x0.1 92 q) ∧ (sI x 92 to (nI v)).1 89 5 = nI s ∧ (sI x 92 to (nI v)).1 92 to = nI v := ⟨fr0.tr frY_92, by rw [sI_r, if_neg (by omega)]; exact g2 89 4 (by omega), fun p => by rw [sI_r, if_neg (by omega)]; exact g2 91 p (by omega), fun p hp => by rw [sI_r, if_neg (by omega)]; exact g2 92 p (by omega), by rw [sI_r, if_neg (by omega)]; exact hs, by rw [sI_r, if_pos ⟨rfl, rfl⟩]⟩
    unfold fX3_readNumber_48 fX3_readNumber_73
    rw [ckb (inb_nI (by omega) (by omega)), clamp_nI (by omega), lts]
    by_cases e : 0 < k
    · have r' := frY_92 (x := x) (q := to) (v := nI v) |>.tx r
      rw [if_neg (by rw [n0, le_nI (by omega) (by omega)]; omega), bds (x_byteHere r' (by rw [sI_r, if_neg (by omega)]; exact hs) hsn), bds (x_isFigure r')]
      by_cases e2 : figB tx n s = true
      · rw [if_pos e2, if_neg (by decide), if_neg (by simp [e2])]
        exact ⟨_, rfl, tl⟩
      · rw [if_neg e2, if_pos rfl, if_pos (by simp [e2, e])]
        exact ⟨_, rfl, tl⟩
    · rw [if_pos (by rw [n0, le_nI (by omega) (by omega)]; omega), if_neg (by simp [e])]
      exact ⟨_, rfl, tl⟩
  intro f
  induction f with
  | zero =>
    intro k s v n9 x hk hsn hv hn9 r hs g1 g2
    obtain ⟨n9, rfl⟩ : ∃ n', n9 = n' + 1 := ⟨n9 - 1, by omega⟩
    obtain ⟨x', e1, e2⟩ := fin k s v x hsn (by omega) r hs g1 g2
    show ∃ x', fX3_readNumber_4b F (fX3_readNumber_4 F n9) x _ _ _ = _ ∧ _
    unfold fX3_readNumber_4b
    rw [if_pos (by rw [n3, le_nI (by omega) (by omega)]; omega), e1, rdN]
    by_cases e : figB tx n s = true
    · rw [if_pos e]
      refine ⟨x', ?_, e2⟩
      rw [e]; simp
    · rw [if_neg e]
      refine ⟨x', ?_, e2⟩
      rw [Bool.eq_false_iff.mpr e]; simp
  | succ f ih =>
    intro k s v n9 x hk hsn hv hn9 r hs g1 g2
    obtain ⟨n9, rfl⟩ : ∃ n', n9 = n' + 1 := ⟨n9 - 1, by omega⟩
    have hn := r.1
    show ∃ x', fX3_readNumber_4b F (fX3_readNumber_4 F n9) x _ _ _ = _ ∧ _
    unfold fX3_readNumber_4b
    rw [if_neg (by rw [n3, le_nI (by omega) (by omega)]; omega), bds (x_byteHere r hs hsn), bds (x_isFigure r), rdN]
    by_cases e : figB tx n s = true
    · have e2 : s < n ∧ 48 ≤ tx s ∧ tx s ≤ 57 := by simpa [figB, and_assoc] using e
      have hv1 : v < 1000 := by
        have : (10 : Nat) ^ k ≤ 10 ^ 3 := Nat.pow_le_pow_right (by decide) (by omega)
        omega
      rw [if_pos e, if_neg (by decide), if_pos e, bds (x_byteHere r hs hsn), if_pos e2.1, n10, pk_mul, nI_add, show (48 : Int32) = nI 48 from rfl, sub_nI (by omega), lts, nI_1, lts, hs, nI_1, lts, show 10 * v + tx s - 48 = 10 * v + (tx s - 48) by omega]
      refine ih (k + 1) (s + 1) (10 * v + (tx s - 48)) n9 _ (by omega) (by omega) (by rw [Nat.pow_succ]; omega) (by omega) ((frY_89 (by omega)).tx r) (by rw [sI_r, if_pos ⟨rfl, rfl⟩]) g1 (fun c p hc => ?_)
      rw [sI_r, if_neg (by omega)]
      exact g2 c p hc
    · obtain ⟨x', e1, e2⟩ := fin k s v x hsn (by omega) r hs g1 g2
      rw [if_neg e, if_pos rfl, if_neg e, e1]
      refine ⟨x', ?_, e2⟩
      rw [Bool.eq_false_iff.mpr e]; simp
theorem x_ord_l {F : Nat} (hF : 1000 ≤ F) {n K D : Nat} {tx : Nat → Nat} {x0 : HT} (hK : K < 60) (hD : D ≤ 3) : ∀ r j s v n9 x, j + r = D → s ≤ n → r < n9 → TX x n tx → x.1 89 5 = nI s → x.1 89 4 = nI K → FrY x0 x → (∀ q, x.1 91 q = x0.1 91 q) → (∀ q, (q < 3 * K ∨ 3 * K + 3 ≤ q) → x.1 92 q = x0.1 92 q) → (∀ i, i < j → x.1 92 (3 * K + i) = nI (v i)) →
    ∃ x', fX3_readOrder_66 F n9 x (nI D) (nI j) = some (if (rdK tx n r j s v).1 = true then 1 else 0, x') ∧ FrY x0 x' ∧ (∀ q, x'.1 91 q = x0.1 91 q) ∧ (∀ q, (q < 3 * K ∨ 3 * K + 3 ≤ q) → x'.1 92 q = x0.1 92 q) ∧ x'.1 89 5 = nI (rdK tx n r j s v).2.1 ∧ x'.1 89 4 = nI K ∧ ((rdK tx n r j s v).1 = true → ∀ i, i < D → x'.1 92 (3 * K + i) = nI ((rdK tx n r j s v).2.2 i)) := by
  intro r
  induction r with
  | zero =>
    intro j s v n9 x hj hsn hn9 R hs hk f0 g1 g2 g3
    obtain ⟨n9, rfl⟩ : ∃ n', n9 = n' + 1 := ⟨n9 - 1, by omega⟩
    obtain ⟨x1, e1, s1, b1, b2⟩ := x_blanks hF R hs hsn
    have h1 := skB_le (tx := tx) (n := n) 121 s
    have f1 : FrY x0 x1 := f0.tr (frY5 b1 b2)
    have hn := R.1
    have h2 : skp tx n s ≤ n := h1.2 hsn
    have R1 := (frY5 b1 b2).tx R
    have k1 : x1.1 89 4 = nI K := by rw [b2 89 4 (by omega)]; exact hk
    show ∃ x', fX3_readOrder_66b F (fX3_readOrder_66 F n9) x _ _ = _ ∧ _
    unfold fX3_readOrder_66b
    rw [rdK, if_pos (by rw [le_nI (by omega) (by omega)]; omega), bds e1, bds (x_byteHere R1 s1 h2)]
    by_cases e : skp tx n s < n ∧ tx (skp tx n s) = 59
    · rw [if_pos e.1, if_pos (by rw [e.2]; rfl), s1, nI_1, lts, if_pos e]
      refine ⟨_, rfl, f1.tr (frY_89 (by omega)), fun q => ?_, fun q hq => ?_, ?_, ?_, fun _ i hi => ?_⟩
      · rw [sI_r, if_neg (by omega), b2 91 q (by omega)]; exact g1 q
      · rw [sI_r, if_neg (by omega), b2 92 q (by omega)]; exact g2 q hq
      · rw [sI_r, if_pos ⟨rfl, rfl⟩]
      · rw [sI_r, if_neg (by omega)]; exact k1
      · rw [sI_r, if_neg (by omega), b2 92 _ (by omega)]; exact g3 i (by omega)
    · have hne : ¬ (if skp tx n s < n then nI (tx (skp tx n s)) else -1) = (59 : Int32) := by
        by_cases e2 : skp tx n s < n
        · have ht := (R.2.2 _ e2).2
          rw [if_pos e2, show (59 : Int32) = nI 59 from rfl, eq_nI (by omega) (by omega)]
          omega
        · rw [if_neg e2]; decide
      rw [if_neg hne, if_neg e]
      refine ⟨x1, rfl, f1, fun q => ?_, fun q hq => ?_, s1, k1, fun z => Bool.noConfusion z⟩
      · rw [b2 91 q (by omega)]; exact g1 q
      · rw [b2 92 q (by omega)]; exact g2 q hq
  | succ r ih =>
    intro j s v n9 x hj hsn hn9 R hs hk f0 g1 g2 g3
    obtain ⟨n9, rfl⟩ : ∃ n', n9 = n' + 1 := ⟨n9 - 1, by omega⟩
    obtain ⟨x1, e1, s1, b1, b2⟩ := x_blanks hF R hs hsn
    have h1 := skB_le (tx := tx) (n := n) 121 s
    have h2 := rdN_le (tx := tx) (n := n) 3 0 (skp tx n s) 0
    have f1 := frY5 b1 b2
    have k1 : x1.1 89 4 = nI K := by rw [b2 89 4 (by omega)]; exact hk
    obtain ⟨x2, e2, f2, q1, q2, q3, q4, q5⟩ := x_num_l (F := F) (n := n) (to := 3 * K + j) (tx := tx) (x0 := x1) (by omega) 3 0 (skp tx n s) 0 F x1 (by omega) (h1.2 hsn) (by decide) (by omega) (f1.tx R) s1 rfl (fun _ _ _ => rfl)
    have e2' : fX3_readNumber F x1 (nI (3 * K + j)) = some (if (rdN tx n 3 0 (skp tx n s) 0).1 = true then 1 else 0, x2) := e2
    have k2 : x2.1 89 4 = nI K := by rw [q1]; exact k1
    show ∃ x', fX3_readOrder_66b F (fX3_readOrder_66 F n9) x _ _ = _ ∧ _
    unfold fX3_readOrder_66b
    rw [rdK, if_neg (by rw [le_nI (by omega) (by omega)]; omega), bds e1, k1, n3, pk_mul, nI_add, Nat.mul_comm K 3, bds e2']
    by_cases e : (rdN tx n 3 0 (skp tx n s) 0).1 = true
    · rw [if_pos e, if_neg (by decide), lts, nI_1, if_pos e]
      refine ih (j + 1) _ _ n9 x2 (by omega) (h2.2.1 (h1.2 hsn)) (by omega) (f2.tx (f1.tx R)) q4 k2 ((f0.tr f1).tr f2) (fun q => by rw [q2, b2 91 q (by omega)]; exact g1 q) (fun q hq => by rw [q3 q (by omega), b2 92 q (by omega)]; exact g2 q hq) (fun i hi => ?_)
      by_cases ei : i = j
      · subst ei; rw [q5]; simp [upN]
      · rw [q3 _ (by omega), b2 92 _ (by omega), g3 i (by omega)]; simp [upN, ei]
    · rw [if_neg e, if_pos rfl, if_neg e]
      exact ⟨x2, rfl, (f0.tr f1).tr f2, fun q => by rw [q2, b2 91 q (by omega)]; exact g1 q, fun q hq => by rw [q3 q (by omega), b2 92 q (by omega)]; exact g2 q hq, q4, k2, fun z => Bool.noConfusion z⟩
theorem x_zer_l {F : Nat} {K D : Nat} {x0 : HT} (hK : K < 60) (h4 : x0.1 89 4 = nI K) : ∀ d j n9 x, j + d = 3 → d < n9 → x.2 = x0.2 → (∀ c q, x.1 c q = if c = 92 ∧ 3 * K ≤ q ∧ q < 3 * K + j then 0 else x0.1 c q) → ∃ x', fX3_readOrder_39 F n9 x (nI D) (nI j) = fX3_readOrder_66 F F x' (nI D) 0 ∧ x'.2 = x0.2 ∧ ∀ c q, x'.1 c q = if c = 92 ∧ 3 * K ≤ q ∧ q < 3 * K + 3 then 0 else x0.1 c q := by
  intro d
  induction d with
  | zero =>
    intro j n9 x hj hn h1 h2
    obtain ⟨n9, rfl⟩ : ∃ n', n9 = n' + 1 := ⟨n9 - 1, by omega⟩
    have e : j = 3 := by omega
    subst e
    show ∃ x', fX3_readOrder_39b F (fX3_readOrder_39 F n9) x _ _ = _ ∧ _
    unfold fX3_readOrder_39b
    rw [if_pos (by decide)]
    exact ⟨x, rfl, h1, h2⟩
  | succ d ih =>
    intro j n9 x hj hn h1 h2
    obtain ⟨n9, rfl⟩ : ∃ n', n9 = n' + 1 := ⟨n9 - 1, by omega⟩
    show ∃ x', fX3_readOrder_39b F (fX3_readOrder_39 F n9) x _ _ = _ ∧ _
    unfold fX3_readOrder_39b
    rw [if_neg (by rw [n3, le_nI (by omega) (by omega)]; omega), show x.1 89 4 = nI K by rw [h2, if_neg (by omega)]; exact h4, n3, pk_mul, nI_add, Nat.mul_comm K 3, ckb (inb_nI (by omega) (by omega)), clamp_nI (by omega), lts, lts, nI_1]
    refine ih (j + 1) n9 _ (by omega) (by omega) h1 (fun c q => ?_)
    rw [sI_r, h2]
    by_cases e1 : c = 92 ∧ q = 3 * K + j
    · rw [if_pos e1, if_pos (by omega)]
    · rw [if_neg e1]
      by_cases e2 : c = 92 ∧ 3 * K ≤ q ∧ q < 3 * K + j
      · rw [if_pos e2, if_pos (by omega)]
      · rw [if_neg e2, if_neg (by omega)]
theorem x_numbersDue {F : Nat} {x : HT} {c : Nat} (hc : c < 128) : fX3_numbersDue F x (nI c) = some (if due c = 9 then -1 else nI (due c), x) := m_manyOf (F := F) (m := x) hc
theorem x_readOrder {F : Nat} (hF : 1000 ≤ F) {n K s : Nat} {tx : Nat → Nat} {x : HT} (hK : K < 60) (R : TX x n tx) (hs : x.1 89 5 = nI s) (hsn : s < n) (hk : x.1 89 4 = nI K) :
    ∃ x', fX3_readOrder F x = some (if (rdO tx n s).1 = true then 1 else 0, x') ∧ FrY x x' ∧ (∀ q, q ≠ K → x'.1 91 q = x.1 91 q) ∧ (∀ q, (q < 3 * K ∨ 3 * K + 3 ≤ q) → x'.1 92 q = x.1 92 q) ∧ x'.1 89 5 = nI (rdO tx n s).2.1 ∧ x'.1 89 4 = nI K ∧ ((rdO tx n s).1 = true → x'.1 91 K = nI (tx s) ∧ ∀ i, i < due (tx s) → x'.1 92 (3 * K + i) = nI ((rdO tx n s).2.2 i)) := by
  have hn := R.1
  obtain ⟨t1, t2⟩ := R.2.2 s hsn
  have hd := due_le (tx s)
  unfold fX3_readOrder rdO
  rw [bds (x_byteHere R hs (by omega)), if_pos hsn, bds (x_numbersDue t2)]
  by_cases e : due (tx s) = 9
  · rw [if_pos e, if_pos rfl, if_pos e]
    exact ⟨x, rfl, FrY.rf, fun _ _ => rfl, fun _ _ => rfl, hs, hk, fun z => Bool.noConfusion z⟩
  · rw [if_neg e, if_neg (m1_ne (by omega)), hk, ckb (inb_nI (by omega) (by omega)), clamp_nI (by omega), lts, show (sI x 91 K (nI (tx s))).1 89 5 = nI s from by rw [sI_r, if_neg (by omega)]; exact hs, nI_1, lts, if_neg e]
    generalize hx1 : sI (sI x 91 K (nI (tx s))) 89 5 (nI (s + 1)) = x1
    have r1 : ∀ c q, x1.1 c q = if c = 89 ∧ q = 5 then nI (s + 1) else if c = 91 ∧ q = K then nI (tx s) else x.1 c q := fun c q => by rw [← hx1, sI_r, sI_r]
    have f1 : FrY x x1 := by rw [← hx1]; exact frY_91.tr (frY_89 (by omega))
    have k1 : x1.1 89 4 = nI K := by rw [r1, if_neg (by omega), if_neg (by omega)]; exact hk
    obtain ⟨x2, e2, s2, r2⟩ := x_zer_l (F := F) (K := K) (D := due (tx s)) (x0 := x1) hK k1 3 0 F x1 (by omega) (by omega) rfl (fun c q => by rw [if_neg (by omega)])
    have f2 : FrY x1 x2 := ⟨s2, fun c q h1 h2 h3 => by rw [r2, if_neg (by omega)]⟩
    have e2' : fX3_readOrder_39 F F x1 (nI (due (tx s))) 0 = _ := e2
    obtain ⟨x3, e3, f3, q1, q2, q3, q4, q5⟩ := x_ord_l hF (n := n) (K := K) (D := due (tx s)) (tx := tx) (x0 := x2) hK (by omega) (due (tx s)) 0 (s + 1) (fun _ => 0) F x2 (by omega) (by omega) (by omega) (f2.tx (f1.tx R)) (by rw [r2, if_neg (by omega), r1, if_pos ⟨rfl, rfl⟩]) (by rw [r2, if_neg (by omega)]; exact k1) FrY.rf (fun _ => rfl) (fun _ _ => rfl) (fun i hi => absurd hi (Nat.not_lt_zero i))
    have e3' : fX3_readOrder_66 F F x2 (nI (due (tx s))) 0 = _ := e3
    rw [e2', e3']
    refine ⟨x3, rfl, (f1.tr f2).tr f3, fun q hq => ?_, fun q hq => ?_, q3, q4, fun z => ⟨?_, q5 z⟩⟩
    · rw [q1, r2, if_neg (by omega), r1, if_neg (by omega), if_neg (by omega)]
    · rw [q2 q hq, r2, if_neg (by omega), r1, if_neg (by omega), if_neg (by omega)]
    · rw [q1, r2, if_neg (by omega), r1, if_neg (by omega), if_pos ⟨rfl, rfl⟩]
def RDx (x : HT) (R : RD) : Prop := R.1 = true → (x.1 89 4 = nI R.2.2.1 ∧ ∀ k, k < R.2.2.1 → x.1 91 k = nI (R.2.2.2.1 k) ∧ ∀ i, i < due (R.2.2.2.1 k) → x.1 92 (3 * k + i) = nI (R.2.2.2.2 k i))
theorem x_read_l {F : Nat} (hF : 1000 ≤ F) {n : Nat} {tx : Nat → Nat} {x0 : HT} : ∀ f K s L N n9 x, K + f = 61 → 2 * K ≤ s → s ≤ n → f < n9 → TX x n tx → x.1 89 5 = nI s → x.1 89 4 = nI K → FrY x0 x → (∀ k, k < K → x.1 91 k = nI (L k) ∧ due (L k) ≤ 3 ∧ ∀ i, i < due (L k) → x.1 92 (3 * k + i) = nI (N k i)) →
    ∃ x', fX3_read_14 F n9 x = some (if (rdA tx n f K s L N).1 = true then -1 else nI (rdA tx n f K s L N).2.1, x') ∧ FrY x0 x' ∧ RDx x' (rdA tx n f K s L N) := by
  intro f
  induction f with
  | zero =>
    intro K s L N n9 x hf h2 hsn hn9 R hs hk f0 hL
    have := R.1
    omega
  | succ f ih =>
    intro K s L N n9 x hf h2 hsn hn9 R hs hk f0 hL
    obtain ⟨n9, rfl⟩ : ∃ n', n9 = n' + 1 := ⟨n9 - 1, by omega⟩
    have hn := R.1
    have good : 0 < K → ¬ s < n → ∃ x', fX3_read_70 F x = some (if (rdA tx n (f + 1) K s L N).1 = true then -1 else nI (rdA tx n (f + 1) K s L N).2.1, x') ∧ FrY x0 x' ∧ RDx x' (rdA tx n (f + 1) K s L N) := by
      intro hK hs9
      rw [rdA, if_neg hs9, if_pos hK]
      exact ⟨x, rfl, f0, fun _ => ⟨hk, fun k hk9 => ⟨(hL k hk9).1, (hL k hk9).2.2⟩⟩⟩
    show ∃ x', fX3_read_14b F (fX3_read_14 F n9) x = _ ∧ _
    unfold fX3_read_14b
    rw [R.2.1, hs, hk]
    by_cases c60 : 60 ≤ K
    · rw [if_pos (by rw [show (60 : Int32) = nI 60 from rfl, le_nI (by omega) (by omega)]; exact c60)]
      exact good (by omega) (by omega)
    · rw [if_neg (by rw [show (60 : Int32) = nI 60 from rfl, le_nI (by omega) (by omega)]; exact c60), ite_lt (by omega) (by omega), ite_e0 (by omega)]
      by_cases e : s < n
      · obtain ⟨x1, e1, f1, q1, q2, q3, q4, q5⟩ := x_readOrder hF (K := K) (by omega) R hs e hk
        have hle := rdO_le (tx := tx) e
        rw [if_pos e]
        unfold fX3_read_41
        rw [bds e1, rdA, if_pos e]
        by_cases eo : (rdO tx n s).1 = true
        · obtain ⟨z3, z4⟩ := q5 eo
          have fk : FrY x1 (sI x1 89 4 (nI (K + 1))) := frY_89 (by omega)
          obtain ⟨x2, e2, s2, b1, b2⟩ := x_blanks hF (x := sI x1 89 4 (nI (K + 1))) (fk.tx (f1.tx R)) (by rw [sI_r, if_neg (by omega)]; exact q3) hle.2.1
          have h3 := hle.2.2 eo
          have hsk := skB_le (tx := tx) (n := n) 121 (rdO tx n s).2.1
          have hsk1 : (rdO tx n s).2.1 ≤ skp tx n (rdO tx n s).2.1 := hsk.1
          have hdue : due (tx s) ≤ 3 := by
            rcases due_le (tx s) with q | q
            · exact q
            · unfold rdO at eo; rw [if_pos q] at eo; cases eo
          rw [if_pos eo, if_neg (by decide), q4, nI_1, lts, bds e2, if_pos eo]
          refine ih (K + 1) _ _ _ n9 x2 (by omega) (by omega) (hsk.2 hle.2.1) (by omega) ((frY5 b1 b2).tx (fk.tx (f1.tx R))) s2 (by rw [b2 89 4 (by omega), sI_r, if_pos ⟨rfl, rfl⟩]) (((f0.tr f1).tr fk).tr (frY5 b1 b2)) (fun k hk9 => ?_)
          by_cases ek : k = K
          · subst ek
            have eL : upN L k (tx s) k = tx s := by simp [upN]
            rw [eL, b2 91 k (by omega), sI_r, if_neg (by omega)]
            refine ⟨z3, hdue, fun i hi => ?_⟩
            rw [b2 92 _ (by omega), sI_r, if_neg (by omega), z4 i hi, if_pos rfl]
          · have eL : upN L K (tx s) k = L k := by simp [upN, ek]
            obtain ⟨y1, y2, y3⟩ := hL k (by omega)
            rw [eL, b2 91 k (by omega), sI_r, if_neg (by omega), q1 k ek]
            refine ⟨y1, y2, fun i hi => ?_⟩
            rw [b2 92 _ (by omega), sI_r, if_neg (by omega), q2 _ (by omega), y3 i hi, if_neg ek]
        · rw [if_neg eo, if_pos rfl, if_neg eo, q3]
          exact ⟨x1, rfl, f0.tr f1, fun z => Bool.noConfusion z⟩
      · rw [if_neg e]
        by_cases eK : K = 0
        · have hsn' : s = n := by omega
          have ed : fX3_numbersDue F x (-1) = some (-1, x) := rfl
          rw [if_pos eK]
          unfold fX3_read_41 fX3_readOrder
          rw [bds (x_byteHere R hs hsn), if_neg e, bds ed, if_pos rfl, bdk, if_pos rfl, hs, show rdA tx n (f + 1) K s L N = (false, s, K, L, N) from by rw [rdA, if_neg e, if_neg (by omega)]]
          exact ⟨x, rfl, f0, fun z => Bool.noConfusion z⟩
        · rw [if_neg eK]
          exact good (by omega) e
theorem x_read {F : Nat} (hF : 1000 ≤ F) {n : Nat} {tx : Nat → Nat} {x : HT} (R : TX x n tx) : ∃ x', fX3_read F x = some (if (rdT tx n).1 = true then -1 else nI (rdT tx n).2.1, x') ∧ FrY x x' ∧ RDx x' (rdT tx n) := by
  have f1 : FrY x (sI (sI x 89 4 0) 89 5 0) := (frY_89 (by omega)).tr (frY_89 (by omega))
  obtain ⟨x1, e1, s1, b1, b2⟩ := x_blanks hF (x := sI (sI x 89 4 0) 89 5 0) (s := 0) (f1.tx R) (by rw [sI_r, if_pos ⟨rfl, rfl⟩]; rfl) (by omega)
  have hsk := skB_le (tx := tx) (n := n) 121 0
  have f2 := f1.tr (frY5 b1 b2)
  unfold fX3_read
  rw [lts, lts, bds e1]
  exact x_read_l hF (x0 := x) 61 0 (skp tx n 0) (fun _ => 0) (fun _ _ => 0) F x1 (by omega) (by omega) (hsk.2 (by omega)) (by omega) (f2.tx R) s1 (by rw [b2 89 4 (by omega), sI_r, if_neg (by omega), sI_r, if_pos ⟨rfl, rfl⟩]; rfl) f2 (fun k hk => absurd hk (Nat.not_lt_zero k))
