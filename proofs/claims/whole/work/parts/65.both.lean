-- ===== what is told out: both alike =====
theorem i10 {α : Type} {p q : α} : (if (1 : Int32) = 0 then p else q) = q := if_neg (by decide)
theorem i00 {α : Type} {p q : α} : (if (0 : Int32) = 0 then p else q) = p := if_pos rfl
theorem BOTH.bad {F : Nat} {x m : HT} {a : Nat → Nat} {S tp n : Nat} {hs : Nat → Nat → Nat} {tx : Nat → Nat} {rf : Nat → Int32} {B : Nat} (X : XI x a S hs tp n tx rf) (M : MI m a S hs n tx rf) (O : OKA a S hs B) : BOTH B (bd (fX6_refuse F x (-2)) fun r9 x8 => some (r9, x8)) (bd (fX7_refuses F m (-2)) fun r9 x8 => some (r9, x8)) := by
  rw [bds (x_rBad x), bds (m_rBad m)]
  exact ⟨_, _, _, rfl, rfl, both_bad X M O⟩
theorem BOTH.same {α : Type} {x m : HT} {a : Nat → Nat} {S tp n : Nat} {hs : Nat → Nat → Nat} {tx : Nat → Nat} {rf : Nat → Int32} {B : Nat} (X : XI x a S hs tp n tx rf) (M : MI m a S hs n tx rf) (O : OKA a S hs B) (r : α) : BOTH B (some (r, x)) (some (r, m)) := ⟨r, x, m, rfl, rfl, a, S, hs, tp, n, tx, rf, X, M, O⟩
theorem b_label {F : Nat} {x m : HT} {B : Nat} (h : REL x m B) (p q : Int32) : BOTH B (fX6_label F x p q) (fX7_label F m p q) := by
  obtain ⟨a, S, hs, tp, n, tx, rf, X, M, O⟩ := h
  have k := O.1.1.1.1
  have hG := X.1.2.1
  unfold fX6_label fX7_label
  by_cases g : plc (a 0) (a 1) p q
  · obtain ⟨P, Q, hP, hQ, rfl, rfl⟩ := g
    rw [bds (x_has_y k hG.1 hG.2.1 hP hQ), i10, bds (x_labelAt k hG.1 hP hQ), bds (m_isPlace_y M.1 k hP hQ), i10, bds (m_labelOf M.1 k hP hQ)]
    exact BOTH.same X M O _
  · rw [bds (x_has_n k hG.1 hG.2.1 g), i00, bds (m_isPlace_n M.1 k g), i00]
    exact BOTH.bad X M O
theorem m_isLabel {F : Nat} {m : HT} {a : Nat → Nat} (h : RM m a) (k : okW (a 0) (a 1)) (p : Int32) : ((∃ l, l < a 0 * a 1 ∧ p = nI l) → fX7_isLabel F m p = some (1, m)) ∧ ((¬ ∃ l, l < a 0 * a 1 ∧ p = nI l) → fX7_isLabel F m p = some (0, m)) := by
  have h36 := okW_36 k
  unfold fX7_isLabel
  rw [ckb (by decide), ckb (by decide), c0, c1, h 0 (by omega), h 1 (by omega), pk_mul]
  refine ⟨fun ⟨l, hl, e⟩ => ?_, fun hn => ?_⟩
  · subst e
    rw [bds (m_inW hl (by omega)), ckb (by decide)]
  · have e : fX7_in F m p 0 (nI (a 0 * a 1) - 1) = some (0, m) := m_in0 (by
      by_cases c1 : p < 0
      · exact Or.inl c1
      · by_cases c2 : nI (a 0 * a 1) - 1 < p
        · exact Or.inr c2
        · obtain ⟨px, h1, h2⟩ := le_pred (W := a 0 * a 1) (by omega) (by omega) c1 c2
          exact absurd ⟨px, h1, h2⟩ hn)
    rw [bds e, ckb (by decide)]
theorem b_place {F : Nat} {x m : HT} {B : Nat} (h : REL x m B) (p : Int32) : BOTH B (fX6_place F x p) (fX7_place F m p) := by
  obtain ⟨a, S, hs, tp, n, tx, rf, X, M, O⟩ := h
  have k := O.1.1.1.1
  have h36 := okW_36 k
  have hG := X.1.2.1
  unfold fX6_place fX7_place
  by_cases g : ∃ l, l < a 0 * a 1 ∧ p = nI l
  · obtain ⟨l, hl, rfl⟩ := id g
    rw [bds (x_hasLabel_y k hG.1 hG.2.1 hl), i10, bds (x_tell k hG hl), bds ((m_isLabel M.1 k _).1 g), i10, bds (m_toldOf M.1 k (by omega))]
    exact BOTH.same X M O _
  · rw [bds (x_hasLabel_n k hG.1 hG.2.1 g), i00, bds ((m_isLabel M.1 k p).2 g), i00]
    exact BOTH.bad X M O
theorem b_next {F : Nat} (hF : 1000 ≤ F) {x m : HT} {B : Nat} (h : REL x m B) (p q u v : Int32) : BOTH B (fX6_next F x p q u v) (fX7_next F m p q u v) := by
  obtain ⟨a, S, hs, tp, n, tx, rf, X, M, O⟩ := h
  have k := O.1.1.1.1
  have h36 := okW_36 k
  obtain ⟨k1, k2, k3, k4⟩ := id k
  have hG := X.1.2.1
  have bad : BOTH B (fX6_next_36 F x) (fX7_next_30 F m) := BOTH.bad X M O
  unfold fX6_next fX7_next
  by_cases g : plc (a 0) (a 1) p q
  · obtain ⟨P, Q, hP, hQ, rfl, rfl⟩ := g
    rw [bds (x_has_y k hG.1 hG.2.1 hP hQ), i10, bds (m_isPlace_y M.1 k hP hQ), i10]
    by_cases g2 : plc (a 0) (a 1) u v
    · obtain ⟨U, V, hU, hV, rfl, rfl⟩ := g2
      rw [bds (x_has_y k hG.1 hG.2.1 hU hV), i10, bds (m_isPlace_y M.1 k hU hV), i10, ite_eq (by omega) (by omega), ite_eq (by omega) (by omega), ite_eq (by omega) (by omega), ite_eq (by omega) (by omega)]
      have l1 := fin_lab k hP hQ
      have l2 := fin_lab k hU hV
      have good : (P ≠ U ∨ Q ≠ V) → BOTH B (fX6_next_43 F x (nI P) (nI Q) (nI U) (nI V)) (fX7_next_37 F m (nI P) (nI Q) (nI U) (nI V)) := by
        intro hne
        have hl : lab (a 0) P Q ≠ lab (a 0) U V := fun e => by rw [e] at l1; omega
        have hn := (fin_nxt k l1.1 l2.1 hl).1
        unfold fX6_next_43 fX7_next_37
        rw [bds (x_labelAt k hG.1 hP hQ), bds (x_labelAt k hG.1 hU hV), bds (x_channelTowards hF k hG l1.1 l2.1 hl), bds (x_next k hG l1.1 l2.1 hl), bds (x_tell k hG hn), bds (m_labelOf M.1 k hP hQ), bds (m_labelOf M.1 k hU hV), bds (m_nextOf hF M.1 k l1.1 l2.1 hl), bds (m_toldOf M.1 k (by omega))]
        exact BOTH.same X M O _
      by_cases e1 : P = U
      · rw [if_pos e1, if_pos e1]
        by_cases e2 : Q = V
        · rw [if_pos e2, if_pos e2]; exact bad
        · rw [if_neg e2, if_neg e2]; exact good (Or.inr e2)
      · rw [if_neg e1, if_neg e1]; exact good (Or.inl e1)
    · rw [bds (x_has_n k hG.1 hG.2.1 g2), i00, bds (m_isPlace_n M.1 k g2), i00]
      exact bad
  · rw [bds (x_has_n k hG.1 hG.2.1 g), i00, bds (m_isPlace_n M.1 k g), i00]
    exact bad
theorem b_far {F : Nat} (hF : 1000 ≤ F) {x m : HT} {B : Nat} (h : REL x m B) (p q u v : Int32) : BOTH B (fX6_far F x p q u v) (fX7_far F m p q u v) := by
  obtain ⟨a, S, hs, tp, n, tx, rf, X, M, O⟩ := h
  have k := O.1.1.1.1
  have hG := X.1.2.1
  have bad : ∀ p q u v, BOTH B (fX6_far_25 F x) (fX7_far_23 F m p q u v) := fun p q u v => by
    unfold fX7_far_23 fX7_far_24
    rw [i00]
    exact BOTH.bad X M O
  unfold fX6_far fX7_far
  by_cases g : plc (a 0) (a 1) p q
  · obtain ⟨P, Q, hP, hQ, rfl, rfl⟩ := g
    rw [bds (x_has_y k hG.1 hG.2.1 hP hQ), i10, bds (m_isPlace_y M.1 k hP hQ), i10]
    by_cases g2 : plc (a 0) (a 1) u v
    · obtain ⟨U, V, hU, hV, rfl, rfl⟩ := g2
      have l1 := fin_lab k hP hQ
      have l2 := fin_lab k hU hV
      unfold fX7_far_24
      rw [bds (x_has_y k hG.1 hG.2.1 hU hV), i10, bds (x_labelAt k hG.1 hP hQ), bds (x_labelAt k hG.1 hU hV), bds (x_distance hF k hG l1.1 l2.1), bds (m_isPlace_y M.1 k hU hV), i10, i10, bds (m_labelOf M.1 k hP hQ), bds (m_labelOf M.1 k hU hV), bds (m_farOf hF M.1 k l1.1 l2.1)]
      exact BOTH.same X M O _
    · rw [bds (x_has_n k hG.1 hG.2.1 g2), i00, bds (m_isPlace_n M.1 k g2), i00]
      exact bad _ _ _ _
  · rw [bds (x_has_n k hG.1 hG.2.1 g), i00, bds (m_isPlace_n M.1 k g), i00]
    exact bad _ _ _ _
theorem b_holds {F : Nat} (hF : 1000 ≤ F) {x m : HT} {B : Nat} (h : REL x m B) (p q d : Int32) : BOTH B (fX6_holds F x p q d) (fX7_holds F m p q d) := by
  obtain ⟨a, S, hs, tp, n, tx, rf, X, M, O⟩ := h
  have k1 := O.1.1
  have k := k1.1.1
  have h36 := okW_36 k
  have hG := X.1.2.1
  unfold fX6_holds fX7_holds
  by_cases g : gChn a p q d
  · obtain ⟨P, Q, D, hP, hQ, hD, rfl, rfl, rfl, hb⟩ := id g
    have hl := (fin_lab k hP hQ).1
    have hbb := (fin_bes k hl hD).resolve_left hb
    have hdd : 4 * lab (a 0) P Q + D < 144 := by omega
    obtain ⟨m1, e1, f1, w1⟩ := m_laysWays hF k1.1 M.1
    have R1 := f1.rm M.1
    have eh := x_holderOf hF X.1.1 k1 X.1.2.2 (f := lab (a 0) P Q) (t := bes (a 0) (a 1) (lab (a 0) P Q) D) (by omega) (by rw [hbb.2.2])
    rw [hbb.2.2] at eh
    rw [bds (x_channelAt_y k hG hP hQ hD hb), if_neg (m1_ne (by omega)), bds eh, bds ((m_isChannel M.1 k _ _ _).1 g), i10, bds e1, bds (m_labelOf R1 k hP hQ), bds (m_beside R1 k hl hD), oI_ne hb, bds (m_holder hF R1 k1 w1 (by omega) (by omega))]
    exact BOTH.same X (M.fa f1) O _
  · rw [bds (x_channelAt_n k hG g), if_pos rfl, bds ((m_isChannel M.1 k _ _ _).2 g), i00]
    exact BOTH.bad X M O
-- worms
def gWm (a : Nat → Nat) (i s : Int32) : Prop := ∃ I s', I < a 3 ∧ s' < 2 ∧ i = nI I ∧ s = nI s'
theorem x_hasWorm {F : Nat} {x : HT} {a : Nat → Nat} (h : RX x 0 a) (h5 : a 3 ≤ 5) (i s : Int32) : (gWm a i s → fX6_hasWorm F x i s = some (1, x)) ∧ (¬ gWm a i s → fX6_hasWorm F x i s = some (0, x)) := by
  unfold fX6_hasWorm fX6_hasWorm_21
  refine ⟨fun ⟨I, s', hI, hs, e1, e2⟩ => ?_, fun hn => ?_⟩
  · subst e1; subst e2
    rw [bds (x_hasMessage_y h h5 hI), i10, if_neg (nI_pos (by omega)), if_neg (by rw [n2, le_nI (by omega) (by omega)]; omega)]
  · by_cases g : gMsg a i
    · obtain ⟨I, hI, rfl⟩ := g
      rw [bds (x_hasMessage_y h h5 hI), i10]
      by_cases c1 : s < 0
      · rw [if_pos c1]
      · rw [if_neg c1]
        by_cases c2 : 2 ≤ s
        · rw [if_pos c2]
        · exfalso
          obtain ⟨s', hs', rfl⟩ := nI_of c1
          rw [n2, le_nI (by omega) (by omega)] at c2
          exact hn ⟨I, s', hI, by omega, rfl, rfl⟩
    · rw [bds (x_hasMessage_n h h5 g), i00]
theorem m_isWorm {F : Nat} {m : HT} {a : Nat → Nat} (h : RM m a) (h5 : a 3 ≤ 5) (i s : Int32) : (gWm a i s → fX7_isWorm F m i s = some (1, m)) ∧ (¬ gWm a i s → fX7_isWorm F m i s = some (0, m)) := by
  unfold fX7_isWorm fX7_isWorm_21
  have hin := m_inR (F := F) (m := m) (x := s) (lo := 0) (hi := 1) (by omega) (by omega)
  refine ⟨fun ⟨I, s', hI, hs, e1, e2⟩ => ?_, fun hn => ?_⟩
  · subst e1; subst e2
    rcases hin with ⟨e, -⟩ | ⟨-, e⟩
    · have e' : fX7_in F m (nI s') 0 1 = some (1, m) := e
      rw [bds (m_isMessage_y h h5 hI), i10, bds e', i10]
    · exact absurd ⟨s', by omega, by omega, rfl⟩ e
  · by_cases g : gMsg a i
    · obtain ⟨I, hI, rfl⟩ := g
      rcases hin with ⟨-, s', q1, q2, rfl⟩ | ⟨e, -⟩
      · exact absurd ⟨I, s', hI, by omega, rfl, rfl⟩ hn
      · have e' : fX7_in F m s 0 1 = some (0, m) := e
        rw [bds (m_isMessage_y h h5 hI), i10, bds e', i00]
    · rw [bds (m_isMessage_n h h5 g), i00]
/-- a number from 0 up to below N, or not: as the class and as the reference look -/
theorem two_in {F : Nat} {m : HT} {N : Nat} (hN : 1 ≤ N) (hN2 : N < 2147483648) (q : Int32) : (∃ Q, Q < N ∧ q = nI Q ∧ fX7_in F m q 0 (nI (N - 1)) = some (1, m)) ∨ ((q < 0 ∨ (¬ q < 0 ∧ ¬ q < nI N)) ∧ fX7_in F m q 0 (nI (N - 1)) = some (0, m)) := by
  by_cases c1 : q < 0
  · exact Or.inr ⟨Or.inl c1, m_in0 (Or.inl c1)⟩
  · obtain ⟨Q, hQ, rfl⟩ := nI_of c1
    by_cases c2 : Q < N
    · exact Or.inl ⟨Q, c2, rfl, m_in1 c1 (by rw [lt_nI (by omega) (by omega)]; omega)⟩
    · exact Or.inr ⟨Or.inr ⟨c1, by rw [lt_nI (by omega) (by omega)]; exact c2⟩, m_in0 (Or.inr (by rw [lt_nI (by omega) (by omega)]; omega))⟩
theorem b_worm {F : Nat} (hF : 1000 ≤ F) {x m : HT} {B : Nat} (h : REL x m B) (i s q : Int32) : BOTH B (fX6_worm F x i s q) (fX7_worm F m i s q) := by
  obtain ⟨a, S, hs, tp, n, tx, rf, X, M, O⟩ := h
  have k1 := O.1.1
  have h5 := k1.1.2.1
  have bad : BOTH B (fX6_worm_19 F x) (fX7_worm_19 F m) := BOTH.bad X M O
  unfold fX6_worm fX7_worm
  by_cases g : gWm a i s
  · obtain ⟨I, s', hI, hs', rfl, rfl⟩ := id g
    rw [bds ((x_hasWorm X.1.1 h5 _ _).1 g), i10, bds ((m_isWorm M.1 h5 _ _).1 g), i10]
    rcases two_in (F := F) (m := m) (N := 9) (by omega) (by omega) q with ⟨Q, hQ, rfl, e⟩ | ⟨c, e⟩
    · have e' : fX7_in F m (nI Q) 0 8 = some (1, m) := e
      obtain ⟨m1, e1, f1, w1⟩ := m_laysWays hF k1.1 M.1
      rw [if_neg (nI_pos (by omega)), if_pos (by rw [n9, lt_nI (by omega) (by omega)]; exact hQ), n2, pk_mul, nI_add, Nat.mul_comm I 2, bds (x_wormFact hF k1 X.1 (by omega) hQ), bds e', i10, bds e1, pk_mul, nI_add, bds (m_wormTold hF (f1.rm M.1) k1 w1 (by omega) hQ)]
      exact BOTH.same X (M.fa f1) O _
    · have e' : fX7_in F m q 0 8 = some (0, m) := e
      rw [bds e', i00]
      rcases c with c | ⟨c, c2⟩
      · rw [if_pos c]; exact bad
      · rw [if_neg c, if_neg (show ¬ q < 9 from c2)]; exact bad
  · rw [bds ((x_hasWorm X.1.1 h5 _ _).2 g), i00, bds ((m_isWorm M.1 h5 _ _).2 g), i00]
    exact bad
theorem b_way {F : Nat} (hF : 1000 ≤ F) {x m : HT} {B : Nat} (h : REL x m B) (i s q : Int32) : BOTH B (fX6_way F x i s q) (fX7_way F m i s q) := by
  obtain ⟨a, S, hs, tp, n, tx, rf, X, M, O⟩ := h
  have k1 := O.1.1
  have h5 := k1.1.2.1
  have bad : BOTH B (fX6_way_13 F x) (fX7_way_13 F m) := BOTH.bad X M O
  unfold fX6_way fX7_way
  by_cases g : gWm a i s
  · obtain ⟨I, s', hI, hs', rfl, rfl⟩ := id g
    rw [bds ((x_hasWorm X.1.1 h5 _ _).1 g), i10, bds ((m_isWorm M.1 h5 _ _).1 g), i10]
    by_cases c : (0 : Int32) ≤ q
    · obtain ⟨m1, e1, f1, w1⟩ := m_laysWays hF k1.1 M.1
      have hw : 2 * I + s' < 2 * a 3 := by omega
      obtain ⟨b1, b2, b3, b4, b5, b6⟩ := k1.b hw
      obtain ⟨Q, hQ, rfl⟩ := nI_of (Int32.not_lt.mpr c)
      obtain ⟨-, q4⟩ := w1 _ hw
      rw [if_pos c, if_pos c, n2, pk_mul, nI_add, Nat.mul_comm I 2, lts, bds (x_channelsOf h5 X.1.2.2 hw), bds e1, pk_mul, nI_add, lts, ckb (inb_nI (by omega) (by omega)), clamp_nI (by omega), q4, ite_le (by omega) (by omega), ite_le (by omega) (by omega)]
      by_cases c2 : Q ≤ wN a (2 * I + s')
      · have p1 := wP_lt k1.1 hw c2
        rw [if_pos c2, if_pos c2, bds (x_placeOf k1 X.1.2.2 hw c2), bds (x_tell k1.1.1 X.1.2.1 p1.1), n37, pk_mul, nI_add, ckb (inb_nI (by omega) (by omega)), clamp_nI (by omega), m_way w1 hw c2, bds (m_toldOf (f1.rm M.1) k1.1.1 p1.2)]
        exact BOTH.same X (M.fa f1) O _
      · rw [if_neg c2, if_neg c2]
        exact BOTH.same X (M.fa f1) O _
    · rw [if_neg c, if_neg c]; exact bad
  · rw [bds ((x_hasWorm X.1.1 h5 _ _).2 g), i00, bds ((m_isWorm M.1 h5 _ _).2 g), i00]
    exact bad
theorem b_goalAt {F : Nat} (hF : 1000 ≤ F) {x m : HT} {B : Nat} (h : REL x m B) (i s q : Int32) : BOTH B (fX6_goalAt F x i s q) (fX7_goalAt F m i s q) := by
  obtain ⟨a, S, hs, tp, n, tx, rf, X, M, O⟩ := h
  have k1 := O.1.1
  have h5 := k1.1.2.1
  have bad : BOTH B (fX6_goalAt_13 F x) (fX7_goalAt_13 F m) := BOTH.bad X M O
  unfold fX6_goalAt fX7_goalAt
  by_cases g : gWm a i s
  · obtain ⟨I, s', hI, hs', rfl, rfl⟩ := id g
    rw [bds ((x_hasWorm X.1.1 h5 _ _).1 g), i10, bds ((m_isWorm M.1 h5 _ _).1 g), i10]
    by_cases c : (0 : Int32) ≤ q
    · obtain ⟨m1, e1, f1, w1⟩ := m_laysWays hF k1.1 M.1
      have hw : 2 * I + s' < 2 * a 3 := by omega
      obtain ⟨b1, b2, b3, b4, b5, b6⟩ := k1.b hw
      obtain ⟨Q, hQ, rfl⟩ := nI_of (Int32.not_lt.mpr c)
      obtain ⟨⟨-, q2, q3⟩, -⟩ := w1 _ hw
      have q2 : m1.1 8 (2 * I + s') = nI (wC a (2 * I + s')) := q2
      rw [if_pos c, if_pos c, n2, pk_mul, nI_add, Nat.mul_comm I 2, bds (x_goalOf hF X.1.1 k1 X.1.2.2 hw (by omega)), bds e1, pk_mul, nI_add, lts, ckb (inb_nI (by omega) (by omega)), clamp_nI (by omega), q2, ite_lt (by omega) (by omega)]
      by_cases c2 : Q < wC a (2 * I + s')
      · obtain ⟨z1, z2, -⟩ := (way_Q k1.1 hw).1 Q c2
        have p1 := wP_lt k1.1 hw z2
        have q3' : m1.1 9 (36 * (2 * I + s') + Q) = nI (wQ a (2 * I + s') Q) := q3 Q c2
        rw [if_pos c2, if_neg (m1_ne (by omega)), bds (x_tell k1.1.1 X.1.2.1 p1.1), if_pos c2, n36, pk_mul, nI_add, ckb (inb_nI (by omega) (by omega)), clamp_nI (by omega), q3', n37, pk_mul, nI_add, ckb (inb_nI (by omega) (by omega)), clamp_nI (by omega), m_way w1 hw z2, bds (m_toldOf (f1.rm M.1) k1.1.1 p1.2)]
        exact BOTH.same X (M.fa f1) O _
      · rw [if_neg c2, if_pos rfl, if_neg c2]
        exact BOTH.same X (M.fa f1) O _
    · rw [if_neg c, if_neg c]; exact bad
  · rw [bds ((x_hasWorm X.1.1 h5 _ _).2 g), i00, bds ((m_isWorm M.1 h5 _ _).2 g), i00]
    exact bad
theorem b_of {F : Nat} (hF : 1000 ≤ F) {x m : HT} {B : Nat} (h : REL x m B) (i q : Int32) : BOTH B (fX6_of F x i q) (fX7_of F m i q) := by
  obtain ⟨a, S, hs, tp, n, tx, rf, X, M, O⟩ := h
  have k1 := O.1.1
  have h5 := k1.1.2.1
  have bad : BOTH B (fX6_of_18 F x) (fX7_of_17 F m) := BOTH.bad X M O
  unfold fX6_of fX7_of
  by_cases g : gMsg a i
  · obtain ⟨I, hI, rfl⟩ := g
    rw [bds (x_hasMessage_y X.1.1 h5 hI), i10, bds (m_isMessage_y M.1 h5 hI), i10]
    rcases two_in (F := F) (m := m) (N := 6) (by omega) (by omega) q with ⟨Q, hQ, rfl, e⟩ | ⟨c, e⟩
    · have e' : fX7_in F m (nI Q) 0 5 = some (1, m) := e
      obtain ⟨m1, e1, f1, w1⟩ := m_laysWays hF k1.1 M.1
      rw [if_neg (nI_pos (by omega)), if_pos (by rw [n6, lt_nI (by omega) (by omega)]; exact hQ), bds (x_messageFact hF k1 X.1 hI hQ), bds e', i10, bds e1, bds (m_messageTold hF (f1.rm M.1) k1 w1 hI hQ)]
      exact BOTH.same X (M.fa f1) O _
    · have e' : fX7_in F m q 0 5 = some (0, m) := e
      rw [bds e', i00]
      rcases c with c | ⟨c, c2⟩
      · rw [if_pos c]; exact bad
      · rw [if_neg c, if_neg (show ¬ q < 6 from c2)]; exact bad
  · rw [bds (x_hasMessage_n X.1.1 h5 g), i00, bds (m_isMessage_n M.1 h5 g), i00]
    exact bad
theorem b_when {F : Nat} (hF : 1000 ≤ F) {x m : HT} {B : Nat} (h : REL x m B) (i : Int32) : BOTH B (fX6_when F x i) (fX7_when F m i) := by
  obtain ⟨a, S, hs, tp, n, tx, rf, X, M, O⟩ := h
  have k2 := O.1
  have h5 := k2.1.1.2.1
  have good : ∀ p, pI i p → (i = -1 ∨ ∃ I, I < a 3 ∧ i = nI I) → BOTH B (fX6_when_13 F x i) (fX7_when_13 F m i) := by
    intro p hp hi
    obtain ⟨x1, e1, f1⟩ := x_stepsUntilDone hF k2.1 k2.2 X.1.1 X.1.2.2 hp hi
    obtain ⟨m1, e2, r2, w2, f2⟩ := m_whenDone hF M.1 k2.1 hp
    unfold fX6_when_13 fX7_when_13
    rw [bds e1, bds e2]
    exact BOTH.same (X.f2 h5 f1) (M.fr (fun c q => f2.2 c q) r2) O _
  unfold fX6_when fX7_when
  by_cases c : i = -1
  · rw [if_pos c, if_pos c]
    exact good (fun _ => true) (Or.inl ⟨c, fun _ => rfl⟩) (Or.inl c)
  · rw [if_neg c, if_neg c]
    by_cases g : gMsg a i
    · obtain ⟨I, hI, rfl⟩ := g
      rw [bds (x_hasMessage_y X.1.1 h5 hI), i10, bds (m_isMessage_y M.1 h5 hI), i10]
      exact good (pM I) (Or.inr ⟨I, by omega, rfl, fun _ => rfl⟩) (Or.inr ⟨I, hI, rfl⟩)
    · rw [bds (x_hasMessage_n X.1.1 h5 g), i00, bds (m_isMessage_n M.1 h5 g), i00]
      exact BOTH.bad X M O
theorem b_count {F : Nat} (hF : 1000 ≤ F) {x m : HT} {B : Nat} (h : REL x m B) (q : Int32) : BOTH B (fX6_count F x q) (fX7_count F m q) := by
  obtain ⟨a, S, hs, tp, n, tx, rf, X, M, O⟩ := h
  have k1 := O.1.1
  have bad : BOTH B (fX6_count_10 F x) (bd (fX7_refuses F m (-2)) fun r12 x11 => some (r12, x11)) := BOTH.bad X M O
  unfold fX6_count fX7_count
  rcases two_in (F := F) (m := m) (N := 8) (by omega) (by omega) q with ⟨Q, hQ, rfl, e⟩ | ⟨c, e⟩
  · have e' : fX7_in F m (nI Q) 0 7 = some (1, m) := e
    obtain ⟨m1, e1, f1, w1⟩ := m_laysWays hF k1.1 M.1
    rw [if_neg (nI_pos (by omega)), if_pos (by rw [n8, lt_nI (by omega) (by omega)]; exact hQ), bds (x_countFact hF k1 X.1 hQ), bds e', i10, bds e1, bds (m_countTold hF (f1.rm M.1) k1 w1 hQ)]
    exact BOTH.same X (M.fa f1) O _
  · have e' : fX7_in F m q 0 7 = some (0, m) := e
    rw [bds e', i00]
    rcases c with c | ⟨c, c2⟩
    · rw [if_pos c]; exact bad
    · rw [if_neg c, if_neg (show ¬ q < 8 from c2)]; exact bad
theorem tld_eq {x m : HT} {a : Nat → Nat} {S tp n : Nat} {hs : Nat → Nat → Nat} {tx : Nat → Nat} {rf : Nat → Int32} (X : XI x a S hs tp n tx rf) (M : MI m a S hs n tx rf) {q : Nat} (hq : q < 5) : xTld x q = mTld m q := by
  obtain ⟨-, hh, ht, q0, q1, q2⟩ := X
  obtain ⟨-, hp, hr, hf⟩ := M
  unfold xTld mTld
  rcases (show q = 0 ∨ q = 1 ∨ q = 2 ∨ q = 3 ∨ q = 4 by omega) with rfl | rfl | rfl | rfl | rfl
  · rw [if_pos rfl, if_pos (by omega), q0, hf 0 (by omega)]
  · rw [if_neg (by omega), if_pos rfl, if_pos (by omega), q1, hf 1 (by omega)]
  · rw [if_neg (by omega), if_neg (by omega), if_pos rfl, if_pos (by omega), q2, hf 2 (by omega)]
  · rw [if_neg (by omega), if_neg (by omega), if_neg (by omega), if_pos rfl, if_neg (by omega), if_pos rfl, ht.2.1, hr.2.1]
  · rw [if_neg (by omega), if_neg (by omega), if_neg (by omega), if_neg (by omega), if_neg (by omega), if_neg (by omega), hh.2.2.2.1, hp.2.1]
theorem b_told {F : Nat} {x m : HT} {B : Nat} (h : REL x m B) (q : Int32) : BOTH B (fX6_told F x q) (fX7_told F m q) := by
  obtain ⟨a, S, hs, tp, n, tx, rf, X, M, O⟩ := h
  have bad : BOTH B (fX6_told_9 F x) (bd (fX7_refuses F m (-2)) fun r6 x5 => some (r6, x5)) := BOTH.bad X M O
  unfold fX6_told fX7_told
  rcases two_in (F := F) (m := m) (N := 5) (by omega) (by omega) q with ⟨Q, hQ, rfl, e⟩ | ⟨c, e⟩
  · have e' : fX7_in F m (nI Q) 0 4 = some (1, m) := e
    rw [if_neg (nI_pos (by omega)), if_pos (by rw [n5, lt_nI (by omega) (by omega)]; exact hQ), bds (x_toldFact hQ), bds e', i10, bds (m_toldAt hQ), tld_eq X M hQ]
    exact BOTH.same X M O _
  · have e' : fX7_in F m q 0 4 = some (0, m) := e
    rw [bds e', i00]
    rcases c with c | ⟨c, c2⟩
    · rw [if_pos c]; exact bad
    · rw [if_neg c, if_neg (show ¬ q < 5 from c2)]; exact bad
theorem b_digest {F : Nat} (hF : 1000 ≤ F) {x m : HT} {B : Nat} (h : REL x m B) : BOTH B (fX6_digest F x) (fX7_digest F m) := by
  obtain ⟨a, S, hs, tp, n, tx, rf, X, M, O⟩ := h
  obtain ⟨x1, e1, f1⟩ := x_digest hF O.1 X.1
  obtain ⟨m1, e2, r2, f2⟩ := m_digest hF M.1 O.1.1
  have e : dgA a (xTld x) = dgA a (mTld m) := by
    unfold dgA
    rw [hsh_cg (g := mTld m) (fun q hq => tld_eq X M hq)]
  rw [e1, e2, e]
  exact BOTH.same (X.f2 O.1.1.1.2.1 f1) (M.fr f2 r2) O _
-- ===== text, back =====
theorem XI.txt {x x' : HT} {a : Nat → Nat} {S tp n n' : Nat} {hs : Nat → Nat → Nat} {tx tx' : Nat → Nat} {rf : Nat → Int32} (h5 : a 3 ≤ 5) (f2 : x'.2 = x.2) (f : ∀ c q, c < 89 → x'.1 c q = x.1 c q) (t : TX x' n' tx') (h : XI x a S hs tp n tx rf) : XI x' a S hs tp n' tx' rf := by
  obtain ⟨⟨c1, c2, c3⟩, ⟨d1, d2, d3, d4, d5⟩, -, q0, q1, q2⟩ := h
  have sg : SmG x x' := fun c q h1 h2 => f c q (by omega)
  have rx : ∀ j (b : Nat → Nat), j < 8 → RX x j b → RX x' j b := by
    intro j b hj ⟨r1, r2, r3, r4, r5, r6, r7⟩
    exact ⟨by rw [f _ _ (by omega)]; exact r1, by rw [f _ _ (by omega)]; exact r2, by rw [f _ _ (by omega)]; exact r3, by rw [f _ _ (by omega)]; exact r4, fun l hl => by rw [f _ _ (by omega)]; exact r5 l hl, fun i hi => by rw [f _ _ (by omega), f _ _ (by omega), f2]; exact r6 i hi, fun w hw => by rw [f _ _ (by omega), f _ _ (by omega)]; exact r7 w hw⟩
  exact ⟨⟨rx _ _ (by omega) c1, sg.gx c2, sg.wx h5 c3⟩, ⟨d1, d2, by rw [f _ _ (by omega)]; exact d3, by rw [f _ _ (by omega)]; exact d4, fun t ht => rx _ _ (by omega) (d5 t ht)⟩, t, by rw [f _ _ (by omega)]; exact q0, by rw [f _ _ (by omega)]; exact q1, by rw [f _ _ (by omega)]; exact q2⟩
theorem MI.txt {m m' : HT} {a : Nat → Nat} {S n n' : Nat} {hs : Nat → Nat → Nat} {tx tx' : Nat → Nat} {rf : Nat → Int32} (f : ∀ c q, c ≠ 5 → c ≠ 10 → c ≠ 11 → (c ≠ 0 ∨ q = 3) → m'.1 c q = m.1 c q) (t : RT m' n' tx') (h : MI m a S hs n tx rf) : MI m' a S hs n' tx' rf := by
  obtain ⟨r1, ⟨p1, p2, p3⟩, -, q⟩ := h
  exact ⟨fun k hk => by rw [f _ _ (by omega) (by omega) (by omega) (by omega)]; exact r1 k hk, ⟨p1, by rw [f _ _ (by omega) (by omega) (by omega) (by omega)]; exact p2, fun t ht k hk => by rw [f _ _ (by omega) (by omega) (by omega) (by omega)]; exact p3 t ht k hk⟩, t, fun k hk => by rw [f _ _ (by omega) (by omega) (by omega) (by omega)]; exact q k hk⟩
theorem b_clear {F : Nat} {x m : HT} {B : Nat} (h : REL x m B) : BOTH B (fX6_clear F x) (fX7_clear F m) := by
  obtain ⟨a, S, hs, tp, n, tx, rf, X, M, O⟩ := h
  unfold fX6_clear fX3_empty fX7_clear
  rw [lts, lts, bdk, lts, lts, X.2.2.1.2.1, M.2.2.1.2.1]
  have X' := XI.txt (x := x) (x' := sI x 89 1 0) (n' := 0) (tx' := tx) O.1.1.1.2.1 rfl (fun c q hc => by rw [sI_r, if_neg (by omega)]) ⟨by omega, by rw [sI_r, if_pos ⟨rfl, rfl⟩]; rfl, fun k hk => absurd hk (Nat.not_lt_zero k)⟩ X
  have M' := M.txt (m' := sI m 0 6 0) (n' := 0) (tx' := tx) (fun c q _ _ _ hc => by rw [sI_r, if_neg (by omega)]) ⟨by omega, by rw [sI_r, if_pos ⟨rfl, rfl⟩]; rfl, fun k hk => absurd hk (Nat.not_lt_zero k)⟩
  exact BOTH.same X' M' O _
theorem b_type {F : Nat} {x m : HT} {B : Nat} (h : REL x m B) (c : Int32) : BOTH B (fX6_type F x c) (fX7_type F m c) := by
  obtain ⟨a, S, hs, tp, n, tx, rf, X, M, O⟩ := h
  have hX := X.2.2.1
  have hM := M.2.2.1
  have hn := hX.1
  have bad : BOTH B (fX6_type_10 F x) (bd (fX7_refuses F m (-2)) fun r15 x14 => some (r15, x14)) := BOTH.bad X M O
  unfold fX6_type fX7_type
  rcases two_in (F := F) (m := m) (N := 128) (by omega) (by omega) c with ⟨Q, hQ, rfl, e⟩ | ⟨cc, e⟩
  · have e' : fX7_in F m (nI Q) 0 127 = some (1, m) := e
    rw [if_neg (nI_pos (by omega)), if_pos (by rw [show (127 : Int32) = nI 127 from rfl, le_nI (by omega) (by omega)]; omega), bds e', i10]
    unfold fX3_add
    rw [hX.2.1, hM.2.1, show (120 : Int32) = nI 120 from rfl, ite_lt (by omega) (by omega), ite_eq (by omega) (by omega)]
    by_cases c1 : n = 120
    · rw [if_neg (by omega), bdk, i00, if_pos c1, bds (x_rFull x), bds (m_rFull m)]
      exact ⟨_, _, _, rfl, rfl, both_full X M O⟩
    · rw [if_pos (by omega), ckb (inb_nI (by omega) (by omega)), clamp_nI (by omega), lts, show (sI x 90 n (nI Q)).1 89 1 = nI n from by rw [sI_r, if_neg (by omega)]; exact hX.2.1, nI_1, lts, bdk, i10, if_neg c1, ckb (inb_nI (by omega) (by omega)), lts, show (sI m 5 n (nI Q)).1 0 6 = nI n from by rw [sI_r, if_neg (by omega)]; exact hM.2.1, nI_1, lts]
      unfold fX3_size
      rw [bdk, sI_r, if_pos ⟨rfl, rfl⟩, sI_r, if_pos ⟨rfl, rfl⟩]
      have X' := XI.txt (x := x) (x' := sI (sI x 90 n (nI Q)) 89 1 (nI (n + 1))) (n' := n + 1) (tx' := upN tx n Q) O.1.1.1.2.1 rfl (fun c q hc => by rw [sI_r, if_neg (by omega), sI_r, if_neg (by omega)]) ⟨by omega, by rw [sI_r, if_pos ⟨rfl, rfl⟩], fun k hk => by
        rw [sI_r, if_neg (by omega), sI_r, upN]
        by_cases ek : k = n
        · rw [if_pos ⟨rfl, ek⟩, if_pos ek]; exact ⟨rfl, hQ⟩
        · rw [if_neg (fun z => ek z.2), if_neg ek]; exact hX.2.2 k (by omega)⟩ X
      have M' := M.txt (m' := sI (sI m 5 n (nI Q)) 0 6 (nI (n + 1))) (n' := n + 1) (tx' := upN tx n Q) (fun c q _ _ _ hc => by rw [sI_r, if_neg (by omega), sI_r, if_neg (by omega)]) ⟨by omega, by rw [sI_r, if_pos ⟨rfl, rfl⟩], fun k hk => by
        rw [sI_r, if_neg (by omega), sI_r, upN]
        by_cases ek : k = n
        · rw [if_pos ⟨rfl, ek⟩, if_pos ek]; exact ⟨rfl, hQ⟩
        · rw [if_neg (fun z => ek z.2), if_neg ek]; exact hM.2.2 k (by omega)⟩
      exact BOTH.same X' M' O _
  · have e' : fX7_in F m c 0 127 = some (0, m) := e
    rw [bds e', i00]
    rcases cc with cc | ⟨cc, c2⟩
    · rw [if_pos cc]; exact bad
    · obtain ⟨Q, hQ, rfl⟩ := nI_of cc
      rw [lt_nI (by omega) (by omega)] at c2
      rw [if_neg cc, if_neg (by rw [show (127 : Int32) = nI 127 from rfl, le_nI (by omega) (by omega)]; omega)]
      exact bad
theorem b_back {F : Nat} (hF : 1000 ≤ F) {x m : HT} {B : Nat} (h : REL x m B) : BOTH B (fX6_back F x) (fX7_back F m) := by
  obtain ⟨a, S, hs, tp, n, tx, rf, X, M, O⟩ := h
  have hh := X.2.1
  have hp := M.2.1
  have hS := hh.2.1
  cases S with
  | zero =>
    unfold fX6_back
    rw [bds (x_pop_n hh), i00, bds (x_rNo x), m_back_n hp.2.1]
    exact ⟨_, _, _, rfl, rfl, both_no X M O⟩
  | succ S =>
    have kS := (O.2.2 S (by omega)).1
    obtain ⟨x1, tp', e1, h1, r1, f1⟩ := x_pop_y (F := F) hh kS.1.1.2.1
    have sg : SmG x x1 := fun c q g1 g2 => (f1 c q (by omega)).1
    obtain ⟨x2, e2, f2, c2⟩ := x_layAll hF kS.1.1 r1 O.1.1.1.1 (sg.gx X.1.2.1)
    obtain ⟨m1, e3, g1, g2, g3, g4⟩ := m_back_y hF (S := S) (by omega) hp.2.1
    have h2 : HX x2 S hs tp' := ⟨h1.1, h1.2.1, by rw [f2.2 _ _ (by omega)]; exact h1.2.2.1, by rw [f2.2 _ _ (by omega)]; exact h1.2.2.2.1, fun t ht => f2.rx (by omega) (h1.2.2.2.2 t ht)⟩
    obtain ⟨t1, t2, t3⟩ := X.2.2.1
    have X' : XI x2 (hs S) S hs tp' n tx rf := ⟨c2, h2, ⟨t1, by rw [f2.2 _ _ (by omega), (f1 _ _ (by omega)).1]; exact t2, fun k hk => by rw [f2.2 _ _ (by omega), (f1 _ _ (by omega)).1]; exact t3 k hk⟩, by rw [f2.2 _ _ (by omega), (f1 _ _ (by omega)).1]; exact X.2.2.2.1, by rw [f2.2 _ _ (by omega), (f1 _ _ (by omega)).1]; exact X.2.2.2.2.1, by rw [f2.2 _ _ (by omega), (f1 _ _ (by omega)).1]; exact X.2.2.2.2.2⟩
    obtain ⟨r9, ⟨p1, p2, p3⟩, ⟨s1, s2, s3⟩, q⟩ := M
    have M' : MI m1 (hs S) S hs n tx rf := ⟨fun k hk => by rw [g4 k hk]; exact p3 S (by omega) k hk, ⟨by omega, g3, fun t ht k hk => by rw [g2 _ _ (by omega) (by omega)]; exact p3 t (by omega) k hk⟩, ⟨s1, by rw [g2 _ _ (by omega) (by omega)]; exact s2, fun k hk => by rw [g2 _ _ (by omega) (by omega)]; exact s3 k hk⟩, fun k hk => by rw [g2 _ _ (by omega) (by omega)]; exact q k hk⟩
    unfold fX6_back fX1_size
    rw [bds e1, i10, bds e2, bdk, h2.2.2.2.1, e3]
    exact BOTH.same X' M' ⟨kS, (O.2.2 S (by omega)).2, fun t ht => O.2.2 t (by omega)⟩ _
