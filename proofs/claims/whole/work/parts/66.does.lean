-- ===== does: both alike =====
def DX (x : HT) (K : Nat) (L : Nat → Nat) (N : Nat → Nat → Nat) : Prop := x.1 89 4 = nI K ∧ ∀ k, k < K → x.1 91 k = nI (L k) ∧ ∀ i, i < due (L k) → x.1 92 (3 * k + i) = nI (N k i)
def DM (m : HT) (K : Nat) (L : Nat → Nat) (N : Nat → Nat → Nat) : Prop := m.1 0 13 = nI K ∧ ∀ k, k < K → m.1 10 k = nI (L k) ∧ ∀ i, i < due (L k) → m.1 11 (3 * k + i) = nI (N k i)
theorem DX.p {x x' : HT} {K : Nat} {L : Nat → Nat} {N : Nat → Nat → Nat} (f : FrP x x') (h : DX x K L N) : DX x' K L N := ⟨by rw [(f _ _ (by omega)).1]; exact h.1, fun k hk => ⟨by rw [(f _ _ (by omega)).1]; exact (h.2 k hk).1, fun i hi => by rw [(f _ _ (by omega)).1]; exact (h.2 k hk).2 i hi⟩⟩
theorem DM.c {m m' : HT} {K : Nat} {L : Nat → Nat} {N : Nat → Nat → Nat} (f : FrC m m') (h : DM m K L N) : DM m' K L N := ⟨by rw [f.2 _ _ (by omega) (by omega) (by omega) (by omega) (by omega)]; exact h.1, fun k hk => ⟨by rw [f.2 _ _ (by omega) (by omega) (by omega) (by omega) (by omega)]; exact (h.2 k hk).1, fun i hi => by rw [f.2 _ _ (by omega) (by omega) (by omega) (by omega) (by omega)]; exact (h.2 k hk).2 i hi⟩⟩
theorem PB.w {x m : HT} {a : Nat → Nat} {ox om : Option (Int32 × HT)} (h : PB x m a ox om) : PB x m a (bd ox fun r3 x2 => some (r3, x2)) (bd om fun r3 x2 => some (r3, x2)) := by
  obtain ⟨r, b, x', m', h1, h2, h3⟩ := h
  subst h1; subst h2
  exact ⟨r, b, x', m', rfl, rfl, h3⟩
theorem due_cs {L : Nat} (h : due L ≤ 3) : (L = 97 ∧ due L = 0) ∨ (L = 103 ∧ due L = 3) ∨ (L = 107 ∧ due L = 1) ∨ (L = 109 ∧ due L = 3) ∨ (L = 116 ∧ due L = 3) ∨ (L = 119 ∧ due L = 2) := by
  unfold due at h ⊢
  by_cases e1 : L = 97
  · rw [if_pos e1]; omega
  rw [if_neg e1] at h ⊢
  by_cases e2 : L = 103
  · rw [if_pos e2]; omega
  rw [if_neg e2] at h ⊢
  by_cases e3 : L = 107
  · rw [if_pos e3]; omega
  rw [if_neg e3] at h ⊢
  by_cases e4 : L = 109
  · rw [if_pos e4]; omega
  rw [if_neg e4] at h ⊢
  by_cases e5 : L = 116
  · rw [if_pos e5]; omega
  rw [if_neg e5] at h ⊢
  by_cases e6 : L = 119
  · rw [if_pos e6]; omega
  rw [if_neg e6] at h
  omega
theorem pb_order {F : Nat} (hF : 1000 ≤ F) {x m : HT} {a : Nat → Nat} (k : WF2 a) (C : CX x a) (R : RM m a) (hB : a 2 < 2147483648) {K T : Nat} {L : Nat → Nat} {N : Nat → Nat → Nat} (hT : T ≤ 60) (hK : K < T) (hd : due (L K) ≤ 3) (X : DX x T L N) (M : DM m T L N) : PB x m a (fX6_perform F x (nI (L K)) (x.1 92 (3 * K)) (x.1 92 (3 * K + 1)) (x.1 92 (3 * K + 2))) (fX7_doneOne F m (nI K)) := by
  obtain ⟨x1, x2⟩ := X.2 K hK
  obtain ⟨m1, m2⟩ := M.2 K hK
  have v : ∀ i, i < due (L K) → x.1 92 (3 * K + i) = m.1 11 (3 * K + i) := fun i hi => by rw [x2 i hi, m2 i hi]
  unfold fX7_doneOne
  rw [n3, pk_mul, ckb (inb_nI (by omega) (by omega)), clamp_nI (by omega), lts, nI_1, ckb (inb_nI (by omega) (by omega)), clamp_nI (by omega), lts, n2, nI_add, ckb (inb_nI (by omega) (by omega)), clamp_nI (by omega), lts, ckb (inb_nI (by omega) (by omega)), clamp_nI (by omega), lts, m1]
  unfold fX6_perform
  rcases due_cs hd with ⟨e, d⟩ | ⟨e, d⟩ | ⟨e, d⟩ | ⟨e, d⟩ | ⟨e, d⟩ | ⟨e, d⟩
  · rw [e, if_pos (by decide), if_neg (by decide), if_neg (by decide), if_neg (by decide), if_neg (by decide), if_neg (by decide)]
    exact (pb_again hF k C R hB).w
  · have v0 := v 0 (by omega)
    rw [Nat.add_zero] at v0
    rw [e, if_neg (show ¬ nI 103 = (97 : Int32) by decide), if_pos (show nI 103 = (103 : Int32) by decide), if_pos (show nI 103 = (103 : Int32) by decide), v0, v 1 (by omega), v 2 (by omega)]
    exact (pb_goal hF k C R _ _ _).w
  · have v0 := v 0 (by omega)
    rw [Nat.add_zero] at v0
    rw [e, if_neg (show ¬ nI 107 = (97 : Int32) by decide), if_neg (show ¬ nI 107 = (103 : Int32) by decide), if_pos (show nI 107 = (107 : Int32) by decide), if_neg (show ¬ nI 107 = (103 : Int32) by decide), if_pos (show nI 107 = (107 : Int32) by decide), v0]
    exact (pb_steps hF k C R _).w
  · have v0 := v 0 (by omega)
    rw [Nat.add_zero] at v0
    rw [e, if_neg (show ¬ nI 109 = (97 : Int32) by decide), if_neg (show ¬ nI 109 = (103 : Int32) by decide), if_neg (show ¬ nI 109 = (107 : Int32) by decide), if_pos (show nI 109 = (109 : Int32) by decide), if_neg (show ¬ nI 109 = (103 : Int32) by decide), if_neg (show ¬ nI 109 = (107 : Int32) by decide), if_pos (show nI 109 = (109 : Int32) by decide), v0, v 1 (by omega), v 2 (by omega)]
    exact (pb_message hF k C R _ _ _).w
  · have v0 := v 0 (by omega)
    rw [Nat.add_zero] at v0
    rw [e, if_neg (show ¬ nI 116 = (97 : Int32) by decide), if_neg (show ¬ nI 116 = (103 : Int32) by decide), if_neg (show ¬ nI 116 = (107 : Int32) by decide), if_neg (show ¬ nI 116 = (109 : Int32) by decide), if_pos (show nI 116 = (116 : Int32) by decide), if_neg (show ¬ nI 116 = (103 : Int32) by decide), if_neg (show ¬ nI 116 = (107 : Int32) by decide), if_neg (show ¬ nI 116 = (109 : Int32) by decide), if_pos (show nI 116 = (116 : Int32) by decide), v0, v 1 (by omega), v 2 (by omega)]
    exact (pb_turn k C R _ _ _).w
  · have v0 := v 0 (by omega)
    rw [Nat.add_zero] at v0
    rw [e, if_neg (show ¬ nI 119 = (97 : Int32) by decide), if_neg (show ¬ nI 119 = (103 : Int32) by decide), if_neg (show ¬ nI 119 = (107 : Int32) by decide), if_neg (show ¬ nI 119 = (109 : Int32) by decide), if_neg (show ¬ nI 119 = (116 : Int32) by decide), if_pos (show nI 119 = (119 : Int32) by decide), if_neg (show ¬ nI 119 = (103 : Int32) by decide), if_neg (show ¬ nI 119 = (107 : Int32) by decide), if_neg (show ¬ nI 119 = (109 : Int32) by decide), if_neg (show ¬ nI 119 = (116 : Int32) by decide), if_pos (show nI 119 = (119 : Int32) by decide), v0, v 1 (by omega)]
    exact (pb_mesh hF k C R _ _).w
theorem b_does_l {F : Nat} (hF : 1000 ≤ F) {B : Nat} (hB : B + 12000 < 2147483648) {a0 : Nat → Nat} {S tp n : Nat} {hs : Nat → Nat → Nat} {tx : Nat → Nat} {rf : Nat → Int32} {T : Nat} {L : Nat → Nat} {N : Nat → Nat → Nat} (hT : T ≤ 60) (hd : ∀ k, k < T → due (L k) ≤ 3) (O : OKA a0 S hs B) : ∀ d k n1 n2 x m (a : Nat → Nat), k + d = T → d < n1 → d < n2 → XA x a0 a S hs tp n tx rf → MA m a0 a S hs n tx rf → DX x T L N → DM m T L N → WF2 a → a 2 ≤ B + 200 * k → BOTH (B + 12000) (fX6_does_31 F n1 x (nI k)) (fX7_does_21 F n2 m (nI k)) := by
  have h50 := O.1.1.1.2.1
  intro d
  induction d with
  | zero =>
    intro k n1 n2 x m a hid h1 h2 X M D1 D2 ka hb
    obtain ⟨n1, rfl⟩ : ∃ n', n1 = n' + 1 := ⟨n1 - 1, by omega⟩
    obtain ⟨n2, rfl⟩ : ∃ n', n2 = n' + 1 := ⟨n2 - 1, by omega⟩
    obtain ⟨x1, tp1, e1, X1, f1⟩ := X.push (F := F) h50 ka.1.1.2.1
    obtain ⟨m1, e2, M1, e3⟩ := M.push hF
    show BOTH _ (fX6_does_31b F (fX6_does_31 F n1) x (nI k)) (fX7_does_21b F (fX7_does_21 F n2) m (nI k))
    unfold fX6_does_31b fX7_does_21b fX3_orders
    rw [bdk, D1.1, D2.1, if_pos (by rw [le_nI (by omega) (by omega)]; omega), if_pos (by rw [le_nI (by omega) (by omega)]; omega), bds e1, bds e2, bdk, (f1 89 4 (by omega)).1, D1.1, e3, D2.1]
    refine ⟨_, x1, m1, rfl, rfl, a, psS S, psH S hs a0, tp1, n, tx, rf, X1, M1, ka, by omega, ?_⟩
    exact psH_in (P := fun a => WF2 a ∧ a 2 ≤ B + 12000) ⟨O.1, by have := O.2.1; omega⟩ (fun t ht => ⟨(O.2.2 t ht).1, by have := (O.2.2 t ht).2; omega⟩) X.1.2.1.2.1
  | succ d ih =>
    intro k n1 n2 x m a hid h1 h2 X M D1 D2 ka hb
    obtain ⟨n1, rfl⟩ : ∃ n', n1 = n' + 1 := ⟨n1 - 1, by omega⟩
    obtain ⟨n2, rfl⟩ : ∃ n', n2 = n' + 1 := ⟨n2 - 1, by omega⟩
    obtain ⟨r, b, x2, m2, e3, e4, kb, C2, f2, R2, g2, hr⟩ := pb_order hF ka X.1.1 M.1.1 (by omega) hT (K := k) (by omega) (hd k (by omega)) D1 D2
    have X2 := X.put f2 C2
    have M2 := M.put g2 R2
    have o1 : fX3_letterOf F x (nI k) = some (nI (L k), x) := by
      unfold fX3_letterOf
      rw [ckb (inb_nI (by omega) (by omega)), clamp_nI (by omega), (D1.2 k (by omega)).1]
    have o2 : ∀ i, i < 3 → fX3_numberOf F x (nI k) (nI i) = some (x.1 92 (3 * k + i), x) := fun i hi => by
      unfold fX3_numberOf
      rw [n3, pk_mul, nI_add, Nat.mul_comm k 3, ckb (inb_nI (by omega) (by omega)), clamp_nI (by omega)]
    have q0 : fX3_numberOf F x (nI k) 0 = some (x.1 92 (3 * k), x) := o2 0 (by omega)
    have q1 : fX3_numberOf F x (nI k) 1 = some (x.1 92 (3 * k + 1), x) := o2 1 (by omega)
    have q2 : fX3_numberOf F x (nI k) 2 = some (x.1 92 (3 * k + 2), x) := o2 2 (by omega)
    show BOTH _ (fX6_does_31b F (fX6_does_31 F n1) x (nI k)) (fX7_does_21b F (fX7_does_21 F n2) m (nI k))
    unfold fX6_does_31b fX7_does_21b fX3_orders
    rw [bdk, D1.1, D2.1, if_neg (by rw [le_nI (by omega) (by omega)]; omega), if_neg (by rw [le_nI (by omega) (by omega)]; omega), bds o1, bds q0, bds q1, bds q2, bds e3, bds e4]
    rcases hr with ⟨h0, hb2⟩ | ⟨hr, rfl⟩
    · have hm : (-2 : Int32) < r := Int32.lt_of_lt_of_le (by decide) h0
      rw [if_pos h0, if_pos hm, lts, lts, nI_1]
      exact ih (k + 1) n1 n2 x2 m2 b (by omega) (by omega) (by omega) X2 M2 (D1.p f2) (D2.c g2) kb (by omega)
    · have h0 : ¬ (0 : Int32) ≤ r := by rcases hr with rfl | rfl | rfl <;> decide
      have hm : ¬ (-2 : Int32) < r := by rcases hr with rfl | rfl | rfl <;> decide
      obtain ⟨x3, e5, f5, r5⟩ := x_copyFrom (F := F) (j := 0) (j2 := 1) (by omega) x2
      have R5 := r5 a0 h50 X2.2
      obtain ⟨x4, e6, f6, c6⟩ := x_layAll hF O.1.1.1 R5 kb.1.1.1 (f5.gx (by omega) C2.2.1)
      obtain ⟨m3, e7, g7, g8, g9⟩ := m_takesBack hF m2
      rw [if_neg h0, if_neg hm, bds e5, bds e6, bds e7]
      have O' := O.le (show B ≤ B + 12000 by omega)
      have P : FrP x2 x4 := f5.p.tr f6.p
      have X4 := (X2.put P c6).1
      have M3 : MI m3 a0 S hs n tx rf := M2.1.fr (fun c q h1 _ _ _ _ _ => g8 c q h1) (fun q hq => by rw [g9 q hq]; exact M2.2 q hq)
      exact BOTH.same X4 M3 O' _
theorem rdA_le {tx : Nat → Nat} {n : Nat} : ∀ f K s L N, s ≤ n → (rdA tx n f K s L N).2.1 ≤ n := by
  intro f
  induction f with
  | zero => intro K s L N hs; rw [rdA]; dsimp only; omega
  | succ f ih =>
    intro K s L N hs
    rw [rdA]
    by_cases e : s < n
    · have hle := rdO_le (tx := tx) e
      rw [if_pos e]
      by_cases eo : (rdO tx n s).1 = true
      · rw [if_pos eo]
        exact ih _ _ _ _ ((skB_le (tx := tx) (n := n) 121 (rdO tx n s).2.1).2 hle.2.1)
      · rw [if_neg eo]; exact hle.2.1
    · rw [if_neg e]
      split
      · dsimp only; omega
      · dsimp only; omega
theorem rdT_le {tx : Nat → Nat} {n : Nat} (hn : n ≤ 120) : (rdT tx n).2.1 ≤ 120 := Nat.le_trans (rdA_le 61 0 (skp tx n 0) _ _ ((skB_le (tx := tx) (n := n) 121 0).2 (by omega))) hn
theorem b_does {F : Nat} (hF : 1000 ≤ F) {x m : HT} {B : Nat} (hB : B + 12000 < 2147483648) (h : REL x m B) : BOTH (B + 12000) (fX6_does F x) (fX7_does F m) := by
  obtain ⟨a, S, hs, tp, n, tx, rf, X, M, O⟩ := h
  have h5 := O.1.1.1.2.1
  obtain ⟨x1, e1, f1, d1⟩ := x_read hF X.2.2.1
  obtain ⟨m1, e2, f2, d2⟩ := m_isRead hF M.2.2.1
  have hok := rdT_ok (tx := tx) X.2.2.1.1
  have X1 : XI x1 a S hs tp n tx rf := XI.txt (x := x) h5 f1.1 (fun c q hc => f1.2 c q (by omega) (by omega) (by omega)) (f1.tx X.2.2.1) X
  have M1 : MI m1 a S hs n tx rf := M.txt (fun c q h1 h2 h3 h4 => f2.2 c q (by omega) h2 h3) (f2.rt M.2.2.1)
  unfold fX6_does fX7_does
  rw [bds e1, bds e2]
  unfold RDm at d2
  by_cases e : (rdT tx n).1 = true
  · rw [if_pos e] at d2
    rw [if_pos e, if_pos e, if_pos rfl, i10]
    obtain ⟨x2, e3, X2⟩ := x_aside (F := F) h5 X1
    obtain ⟨m2, e4, M2⟩ := m_aside hF M1
    obtain ⟨x2', e3', f3, -⟩ := x_copyFrom (F := F) (j := 1) (j2 := 0) (by omega) x1
    have ex : x2 = x2' := by rw [e3] at e3'; exact (Prod.mk.inj (Option.some.inj e3')).2
    obtain ⟨m2', e4', g2, g3, -⟩ := m_laysAside hF m1
    have em : m2 = m2' := by rw [e4] at e4'; exact (Prod.mk.inj (Option.some.inj e4')).2
    subst ex; subst em
    rw [bds e3, bds e4]
    have D1 : DX x2 (rdT tx n).2.2.1 (rdT tx n).2.2.2.1 (rdT tx n).2.2.2.2 := by
      obtain ⟨q1, q2⟩ := d1 e
      exact ⟨by rw [(f3 _ _ (by omega)).1]; exact q1, fun k hk => ⟨by rw [(f3 _ _ (by omega)).1]; exact (q2 k hk).1, fun i hi => by rw [(f3 _ _ (by omega)).1]; exact (q2 k hk).2 i hi⟩⟩
    have D2 : DM m2 (rdT tx n).2.2.1 (rdT tx n).2.2.2.1 (rdT tx n).2.2.2.2 := ⟨by rw [g3 _ _ (by omega)]; exact d2.1, fun k hk => ⟨by rw [g3 _ _ (by omega)]; exact (d2.2 k hk).1, fun i hi => by rw [g3 _ _ (by omega)]; exact (d2.2 k hk).2 i hi⟩⟩
    exact b_does_l hF hB hok.1 (fun k hk => (hok.2 k hk).1) O (rdT tx n).2.2.1 0 F F x2 m2 a (by omega) (by have := hok.1; omega) (by have := hok.1; omega) X2 M2 D1 D2 O.1 (by have := O.2.1; omega)
  · rw [if_neg e] at d2
    have hlt : (rdT tx n).2.1 < 2147483648 ∨ True := Or.inr trivial
    rw [if_neg e, if_neg e, i00, d2]
    by_cases c : nI (rdT tx n).2.1 = -1
    · exfalso
      have hle := rdT_le (tx := tx) (n := n) X.2.2.1.1
      exact m1_ne (by omega) c
    · rw [if_neg c]
      exact BOTH.same X1 M1 (O.le (by omega)) _
