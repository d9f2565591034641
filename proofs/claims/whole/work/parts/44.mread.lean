theorem n97 : (97 : Int32) = nI 97 := rfl
theorem n103 : (103 : Int32) = nI 103 := rfl
theorem n107 : (107 : Int32) = nI 107 := rfl
theorem n109 : (109 : Int32) = nI 109 := rfl
theorem n116 : (116 : Int32) = nI 116 := rfl
theorem n119 : (119 : Int32) = nI 119 := rfl
theorem due_le (c : Nat) : due c ≤ 3 ∨ due c = 9 := by
  unfold due
  split
  · omega
  split
  · omega
  split
  · omega
  split
  · omega
  split
  · omega
  split <;> omega
theorem m_manyOf {F : Nat} {m : HT} {c : Nat} (hc : c < 128) : fX7_manyOf F m (nI c) = some (if due c = 9 then -1 else nI (due c), m) := by
  unfold fX7_manyOf due
  rw [ite_n n97 (by omega) (by omega), ite_n n103 (by omega) (by omega), ite_n n107 (by omega) (by omega), ite_n n109 (by omega) (by omega), ite_n n116 (by omega) (by omega), ite_n n119 (by omega) (by omega)]
  by_cases e1 : c = 97
  · simp only [if_pos e1]; rfl
  simp only [if_neg e1]
  by_cases e2 : c = 103
  · simp only [if_pos e2]; rfl
  simp only [if_neg e2]
  by_cases e3 : c = 107
  · simp only [if_pos e3]; rfl
  simp only [if_neg e3]
  by_cases e4 : c = 109
  · simp only [if_pos e4]; rfl
  simp only [if_neg e4]
  by_cases e5 : c = 116
  · simp only [if_pos e5]; rfl
  simp only [if_neg e5]
  by_cases e6 : c = 119
  · simp only [if_pos e6]; rfl
  simp only [if_neg e6]; rfl
theorem m_ord_l {F : Nat} (hF : 1000 ≤ F) {n K D : Nat} {tx : Nat → Nat} {m0 : HT} (hK : K < 60) (hD : D ≤ 3) : ∀ r j s v n9 m, j + r = D → s ≤ n → r < n9 → RT m n tx → m.1 0 14 = nI s → m.1 0 13 = nI K → FrS m0 m → (∀ q, m.1 10 q = m0.1 10 q) → (∀ q, (q < 3 * K ∨ 3 * K + 3 ≤ q) → m.1 11 q = m0.1 11 q) → (∀ i, i < j → m.1 11 (3 * K + i) = nI (v i)) →
    ∃ m', fX7_takesOrder_53 F n9 m (nI D) (nI j) = some (if (rdK tx n r j s v).1 = true then 1 else 0, m') ∧ FrS m0 m' ∧ (∀ q, m'.1 10 q = m0.1 10 q) ∧ (∀ q, (q < 3 * K ∨ 3 * K + 3 ≤ q) → m'.1 11 q = m0.1 11 q) ∧ ((rdK tx n r j s v).1 = true → m'.1 0 14 = nI (rdK tx n r j s v).2.1 ∧ m'.1 0 13 = nI (K + 1) ∧ ∀ i, i < D → m'.1 11 (3 * K + i) = nI ((rdK tx n r j s v).2.2 i)) ∧ ((rdK tx n r j s v).1 = false → m'.1 0 15 = nI (rdK tx n r j s v).2.1) := by
  intro r
  induction r with
  | zero =>
    intro j s v n9 m hj hsn hn9 R hs hk f0 g1 g2 g3
    obtain ⟨n9, rfl⟩ : ∃ n', n9 = n' + 1 := ⟨n9 - 1, by omega⟩
    obtain ⟨m1, e1, s1, b1, b2⟩ := m_blanks hF R hs hsn
    have h1 := skB_le (tx := tx) (n := n) 121 s
    have f1 : FrS m0 m1 := f0.tr (fr14 b1 b2)
    have hat := m_isAt (F := F) (lo := 59) (hi := 59) ((fr14 b1 b2).rt R) s1 (h1.2 hsn) (by omega) (by omega)
    have hn := R.1
    have h2 : skp tx n s ≤ n := h1.2 hsn
    show ∃ m', fX7_takesOrder_53b F (fX7_takesOrder_53 F n9) m _ _ = _ ∧ _
    unfold fX7_takesOrder_53b
    rw [rdK, if_pos (by rw [le_nI (by omega) (by omega)]; omega), bds e1]
    by_cases e : skp tx n s < n ∧ tx (skp tx n s) = 59
    · have hat' : fX7_isAt F m1 59 59 = some (1, m1) := hat.1 (by omega)
      have k1 : m1.1 0 13 = nI K := by rw [b2 0 13 (by omega)]; exact hk
      rw [bds hat', if_neg (by decide), lts, lts, s1, nI_1, show (sI m1 0 14 (nI (skp tx n s + 1))).1 0 13 = nI K from by rw [sI_r, if_neg (by omega)]; exact k1, nI_1, if_pos e]
      refine ⟨_, rfl, (f1.tr (frS_0 (by omega))).tr (frS_0 (by omega)), fun q => ?_, fun q hq => ?_, fun _ => ⟨?_, ?_, fun i hi => ?_⟩, fun z => Bool.noConfusion z⟩
      · rw [sI_r, if_neg (by omega), sI_r, if_neg (by omega), b2 10 q (by omega)]; exact g1 q
      · rw [sI_r, if_neg (by omega), sI_r, if_neg (by omega), b2 11 q (by omega)]; exact g2 q hq
      · rw [sI_r, if_neg (by omega), sI_r, if_pos ⟨rfl, rfl⟩]
      · rw [sI_r, if_pos ⟨rfl, rfl⟩]
      · rw [sI_r, if_neg (by omega), sI_r, if_neg (by omega), b2 11 _ (by omega)]; exact g3 i (by omega)
    · have hat' : fX7_isAt F m1 59 59 = some (0, m1) := hat.2 (by omega)
      rw [bds hat', if_pos rfl, bds m_fails, ckb (by decide), if_neg e]
      refine ⟨_, rfl, f1.tr (frS_0 (by omega)), fun q => ?_, fun q hq => ?_, fun z => Bool.noConfusion z, fun _ => ?_⟩
      · rw [sI_r, if_neg (by omega), b2 10 q (by omega)]; exact g1 q
      · rw [sI_r, if_neg (by omega), b2 11 q (by omega)]; exact g2 q hq
      · rw [sI_r, if_pos ⟨rfl, rfl⟩]; exact s1
  | succ r ih =>
    intro j s v n9 m hj hsn hn9 R hs hk f0 g1 g2 g3
    obtain ⟨n9, rfl⟩ : ∃ n', n9 = n' + 1 := ⟨n9 - 1, by omega⟩
    obtain ⟨m1, e1, f1, q1, q2, q3, q4, q5⟩ := m_takesNumber hF (to := 3 * K + j) (by omega) R hs hsn
    have h1 := skB_le (tx := tx) (n := n) 121 s
    have h2 := rdN_le (tx := tx) (n := n) 3 0 (skp tx n s) 0
    show ∃ m', fX7_takesOrder_53b F (fX7_takesOrder_53 F n9) m _ _ = _ ∧ _
    unfold fX7_takesOrder_53b
    rw [rdK, if_neg (by rw [le_nI (by omega) (by omega)]; omega), hk, n3, pk_mul, nI_add, bds e1]
    by_cases e : (rdN tx n 3 0 (skp tx n s) 0).1 = true
    · obtain ⟨w1, w2⟩ := q4 e
      rw [if_pos e, if_neg (by decide), lts, nI_1, if_pos e]
      refine ih (j + 1) _ _ n9 m1 (by omega) (h2.2.1 (h1.2 hsn)) (by omega) (f1.rt R) w1 (by rw [q1]; exact hk) (f0.tr f1) (fun q => by rw [q2]; exact g1 q) (fun q hq => by rw [q3 q (by omega)]; exact g2 q hq) (fun i hi => ?_)
      by_cases ei : i = j
      · subst ei; rw [w2]; simp [upN]
      · rw [q3 _ (by omega), g3 i (by omega)]; simp [upN, ei]
    · have e' := Bool.eq_false_iff.mpr e
      rw [if_neg e, if_pos rfl, if_neg e]
      exact ⟨m1, rfl, f0.tr f1, fun q => by rw [q2]; exact g1 q, fun q hq => by rw [q3 q (by omega)]; exact g2 q hq, fun z => Bool.noConfusion z, fun _ => q5 e'⟩
theorem m_takesOrder {F : Nat} (hF : 1000 ≤ F) {n K s : Nat} {tx : Nat → Nat} {m : HT} (hK : K < 60) (R : RT m n tx) (hs : m.1 0 14 = nI s) (hsn : s < n) (hk : m.1 0 13 = nI K) :
    ∃ m', fX7_takesOrder F m = some (if (rdO tx n s).1 = true then 1 else 0, m') ∧ FrS m m' ∧ (∀ q, q ≠ K → m'.1 10 q = m.1 10 q) ∧ (∀ q, (q < 3 * K ∨ 3 * K + 3 ≤ q) → m'.1 11 q = m.1 11 q) ∧ ((rdO tx n s).1 = true → m'.1 0 14 = nI (rdO tx n s).2.1 ∧ m'.1 0 13 = nI (K + 1) ∧ m'.1 10 K = nI (tx s) ∧ ∀ i, i < due (tx s) → m'.1 11 (3 * K + i) = nI ((rdO tx n s).2.2 i)) ∧ ((rdO tx n s).1 = false → m'.1 0 15 = nI (rdO tx n s).2.1) := by
  have hn := R.1
  obtain ⟨t1, t2⟩ := R.2.2 s hsn
  have hd := due_le (tx s)
  unfold fX7_takesOrder rdO
  rw [hs, ckb (inb_nI (by omega) (by omega)), clamp_nI (by omega), t1, bds (m_manyOf t2)]
  by_cases e : due (tx s) = 9
  · rw [if_pos e, if_pos rfl, bds m_fails, ckb (by decide), if_pos e]
    refine ⟨_, rfl, frS_0 (by omega), fun q _ => by rw [sI_r, if_neg (by omega)], fun q _ => by rw [sI_r, if_neg (by omega)], fun z => Bool.noConfusion z, fun _ => by rw [sI_r, if_pos ⟨rfl, rfl⟩]; exact hs⟩
  · rw [if_neg e, if_neg (m1_ne (by omega)), hs, ckb (inb_nI (by omega) (by omega)), hk, ckb (inb_nI (by omega) (by omega)), clamp_nI (by omega), clamp_nI (by omega), t1, lts, lts, show (sI m 10 K (nI (tx s))).1 0 14 = nI s from by rw [sI_r, if_neg (by omega)]; exact hs, nI_1, if_neg e]
    have f1 : FrS m (sI (sI m 10 K (nI (tx s))) 0 14 (nI (s + 1))) := frS_10.tr (frS_0 (by omega))
    obtain ⟨m', e1, f2, q1, q2, q3, q4⟩ := m_ord_l hF (n := n) (K := K) (D := due (tx s)) (tx := tx) (m0 := sI (sI m 10 K (nI (tx s))) 0 14 (nI (s + 1))) hK (by omega) (due (tx s)) 0 (s + 1) (fun _ => 0) F (sI (sI m 10 K (nI (tx s))) 0 14 (nI (s + 1))) (by omega) (by omega) (by omega) (f1.rt R) (by rw [sI_r, if_pos ⟨rfl, rfl⟩]) (by rw [sI_r, if_neg (by omega), sI_r, if_neg (by omega)]; exact hk) FrS.rf (fun _ => rfl) (fun _ _ => rfl) (fun i hi => absurd hi (Nat.not_lt_zero i))
    refine ⟨m', e1, f1.tr f2, fun q hq => ?_, fun q hq => ?_, fun z => ?_, q4⟩
    · rw [q1, sI_r, if_neg (by omega), sI_r, if_neg (by omega)]
    · rw [q2 q hq, sI_r, if_neg (by omega), sI_r, if_neg (by omega)]
    · obtain ⟨z1, z2, z3⟩ := q3 z
      exact ⟨z1, z2, by rw [q1, sI_r, if_neg (by omega), sI_r, if_pos ⟨rfl, rfl⟩], z3⟩
/-- what the reading left -/
def RDm (m : HT) (R : RD) : Prop := if R.1 = true then (m.1 0 13 = nI R.2.2.1 ∧ ∀ k, k < R.2.2.1 → m.1 10 k = nI (R.2.2.2.1 k) ∧ ∀ i, i < due (R.2.2.2.1 k) → m.1 11 (3 * k + i) = nI (R.2.2.2.2 k i)) else m.1 0 15 = nI R.2.1
theorem m_read_l {F : Nat} (hF : 1000 ≤ F) {n : Nat} {tx : Nat → Nat} {m0 : HT} : ∀ f K s L N n9 m, K + f = 61 → 2 * K ≤ s → s ≤ n → f < n9 → RT m n tx → m.1 0 14 = nI s → m.1 0 13 = nI K → FrS m0 m → (∀ k, k < K → m.1 10 k = nI (L k) ∧ due (L k) ≤ 3 ∧ ∀ i, i < due (L k) → m.1 11 (3 * k + i) = nI (N k i)) →
    ∃ m', fX7_isRead_14 F n9 m = some (if (rdA tx n f K s L N).1 = true then 1 else 0, m') ∧ FrS m0 m' ∧ RDm m' (rdA tx n f K s L N) := by
  intro f
  induction f with
  | zero =>
    intro K s L N n9 m hf h2 hsn hn9 R hs hk f0 hL
    have := R.1
    omega
  | succ f ih =>
    intro K s L N n9 m hf h2 hsn hn9 R hs hk f0 hL
    obtain ⟨n9, rfl⟩ : ∃ n', n9 = n' + 1 := ⟨n9 - 1, by omega⟩
    have hn := R.1
    show ∃ m', fX7_isRead_14b F (fX7_isRead_14 F n9) m = _ ∧ _
    unfold fX7_isRead_14b fX7_isRead_55
    rw [rdA, R.2.1, hs, ite_le (by omega) (by omega)]
    by_cases e : s < n
    · obtain ⟨m1, e1, f1, q1, q2, q3, q4⟩ := m_takesOrder hF (K := K) (by omega) R hs e hk
      have hle := rdO_le (tx := tx) e
      rw [if_neg (by omega), bds e1, if_pos e]
      by_cases eo : (rdO tx n s).1 = true
      · obtain ⟨z1, z2, z3, z4⟩ := q3 eo
        obtain ⟨m2, e2, s2, b1, b2⟩ := m_blanks hF (f1.rt R) z1 hle.2.1
        have h3 := hle.2.2 eo
        have hsk := skB_le (tx := tx) (n := n) 121 (rdO tx n s).2.1
        have hsk1 : (rdO tx n s).2.1 ≤ skp tx n (rdO tx n s).2.1 := hsk.1
        have hdue : due (tx s) ≤ 3 := by
          rcases due_le (tx s) with q | q
          · exact q
          · unfold rdO at eo; rw [if_pos q] at eo; cases eo
        rw [if_pos eo, if_neg (by decide), bds e2, if_pos eo]
        refine ih (K + 1) _ _ _ n9 m2 (by omega) (by omega) (hsk.2 hle.2.1) (by omega) ((fr14 b1 b2).rt (f1.rt R)) s2 (by rw [b2 0 13 (by omega)]; exact z2) ((f0.tr f1).tr (fr14 b1 b2)) (fun k hk9 => ?_)
        by_cases ek : k = K
        · subst ek
          have eL : upN L k (tx s) k = tx s := by simp [upN]
          rw [eL, b2 10 k (by omega)]
          refine ⟨z3, hdue, fun i hi => ?_⟩
          rw [b2 11 _ (by omega), z4 i hi, if_pos rfl]
        · have eL : upN L K (tx s) k = L k := by simp [upN, ek]
          obtain ⟨y1, y2, y3⟩ := hL k (by omega)
          rw [eL, b2 10 k (by omega), q1 k ek]
          refine ⟨y1, y2, fun i hi => ?_⟩
          rw [b2 11 _ (by omega), q2 _ (by omega), y3 i hi, if_neg ek]
      · have eo' := Bool.eq_false_iff.mpr eo
        rw [if_neg eo, if_pos rfl, if_neg eo]
        refine ⟨m1, rfl, f0.tr f1, ?_⟩
        unfold RDm
        rw [if_neg (by simp)]
        exact q4 eo'
    · rw [if_pos (by omega), if_neg e, hk]
      by_cases eK : 0 < K
      · rw [if_pos (by rw [n0, lt_nI (by omega) (by omega)]; exact eK), if_pos eK]
        refine ⟨m, rfl, f0, ?_⟩
        unfold RDm
        rw [if_pos rfl]
        exact ⟨hk, fun k hk9 => ⟨(hL k hk9).1, (hL k hk9).2.2⟩⟩
      · rw [if_neg (by rw [n0, lt_nI (by omega) (by omega)]; exact eK), bds m_fails, if_pos rfl, if_neg eK]
        refine ⟨_, rfl, f0.tr (frS_0 (by omega)), ?_⟩
        unfold RDm
        rw [if_neg (by simp), sI_r, if_pos ⟨rfl, rfl⟩]
        exact hs
theorem m_isRead {F : Nat} (hF : 1000 ≤ F) {n : Nat} {tx : Nat → Nat} {m : HT} (R : RT m n tx) : ∃ m', fX7_isRead F m = some (if (rdT tx n).1 = true then 1 else 0, m') ∧ FrS m m' ∧ RDm m' (rdT tx n) := by
  have f1 : FrS m (sI (sI m 0 14 0) 0 13 0) := (frS_0 (by omega)).tr (frS_0 (by omega))
  obtain ⟨m1, e1, s1, b1, b2⟩ := m_blanks hF (m := sI (sI m 0 14 0) 0 13 0) (s := 0) (f1.rt R) (by rw [sI_r, if_neg (by omega), sI_r, if_pos ⟨rfl, rfl⟩]; rfl) (by omega)
  have hsk := skB_le (tx := tx) (n := n) 121 0
  have f2 := f1.tr (fr14 b1 b2)
  unfold fX7_isRead
  rw [lts, lts, bds e1]
  exact m_read_l hF (m0 := m) 61 0 (skp tx n 0) (fun _ => 0) (fun _ _ => 0) F m1 (by omega) (by omega) (hsk.2 (by omega)) (by omega) (f2.rt R) s1 (by rw [b2 0 13 (by omega), sI_r, if_pos ⟨rfl, rfl⟩]; rfl) f2 (fun k hk => absurd hk (Nat.not_lt_zero k))
/-- of the orders read: their letters are known, numbers have three figures at most -/
theorem rdN_v {tx : Nat → Nat} {n : Nat} : ∀ f k s v, k + f = 3 → v < 10 ^ k → (rdN tx n f k s v).2.2 < 1000 := by
  intro f
  induction f with
  | zero =>
    intro k s v hk hv
    have e3 : k = 3 := by omega
    subst e3
    rw [rdN]
    split <;> exact hv
  | succ f ih =>
    intro k s v hk hv
    rw [rdN]
    by_cases e : figB tx n s = true
    · rw [if_pos e]
      have e2 : s < n ∧ 48 ≤ tx s ∧ tx s ≤ 57 := by simpa [figB, and_assoc] using e
      exact ih (k + 1) _ _ (by omega) (by rw [Nat.pow_succ]; omega)
    · rw [if_neg e]
      have : (10 : Nat) ^ k ≤ 10 ^ 3 := Nat.pow_le_pow_right (by decide) (by omega)
      dsimp only
      omega
theorem rdK_v {tx : Nat → Nat} {n : Nat} : ∀ r j s v, (∀ i, v i < 1000) → ∀ i, (rdK tx n r j s v).2.2 i < 1000 := by
  intro r
  induction r with
  | zero =>
    intro j s v hv i
    rw [rdK]
    split <;> exact hv i
  | succ r ih =>
    intro j s v hv i
    rw [rdK]
    by_cases e : (rdN tx n 3 0 (skp tx n s) 0).1 = true
    · rw [if_pos e]
      refine ih (j + 1) _ _ (fun i' => ?_) i
      unfold upN
      split
      · exact rdN_v 3 0 _ _ (by omega) (by decide)
      · exact hv i'
    · rw [if_neg e]; exact hv i
def okR (R : RD) : Prop := R.2.2.1 ≤ 60 ∧ ∀ k, k < R.2.2.1 → due (R.2.2.2.1 k) ≤ 3 ∧ ∀ i, R.2.2.2.2 k i < 1000
theorem rdA_ok {tx : Nat → Nat} {n : Nat} (hn : n ≤ 120) : ∀ f K s L N, K + f = 61 → 2 * K ≤ s → s ≤ n → (∀ k, k < K → due (L k) ≤ 3 ∧ ∀ i, N k i < 1000) → okR (rdA tx n f K s L N) := by
  intro f
  induction f with
  | zero => intro K s L N hf h2 hs hL; omega
  | succ f ih =>
    intro K s L N hf h2 hs hL
    rw [rdA]
    by_cases e : s < n
    · have hle := rdO_le (tx := tx) e
      rw [if_pos e]
      by_cases eo : (rdO tx n s).1 = true
      · have h3 := hle.2.2 eo
        have hsk := skB_le (tx := tx) (n := n) 121 (rdO tx n s).2.1
        have hsk1 : (rdO tx n s).2.1 ≤ skp tx n (rdO tx n s).2.1 := hsk.1
        have hdue : due (tx s) ≤ 3 ∧ ∀ i, (rdO tx n s).2.2 i < 1000 := by
          unfold rdO at eo ⊢
          by_cases q : due (tx s) = 9
          · rw [if_pos q] at eo; cases eo
          · rw [if_neg q]
            exact ⟨(due_le _).resolve_right q, fun i => rdK_v _ _ _ _ (fun _ => by decide) i⟩
        rw [if_pos eo]
        refine ih (K + 1) _ _ _ (by omega) (by omega) (hsk.2 hle.2.1) (fun k hk => ?_)
        by_cases ek : k = K
        · subst ek
          have eL : upN L k (tx s) k = tx s := by simp [upN]
          rw [eL, if_pos rfl]
          exact hdue
        · have eL : upN L K (tx s) k = L k := by simp [upN, ek]
          rw [eL, if_neg ek]
          exact hL k (by omega)
      · rw [if_neg eo]
        exact ⟨by dsimp only; omega, hL⟩
    · rw [if_neg e]
      split
      · exact ⟨by dsimp only; omega, hL⟩
      · exact ⟨by dsimp only; omega, hL⟩
theorem rdT_ok {tx : Nat → Nat} {n : Nat} (hn : n ≤ 120) : okR (rdT tx n) := by
  have hsk := skB_le (tx := tx) (n := n) 121 0
  exact rdA_ok hn 61 0 (skp tx n 0) _ _ (by omega) (by omega) (hsk.2 (by omega)) (fun k hk => absurd hk (Nat.not_lt_zero k))
