-- ===== the reference: what is told in =====
def FrC (m m' : HT) : Prop := m'.2 = m.2 ∧ ∀ c q, c ≠ 1 → c ≠ 6 → c ≠ 7 → c ≠ 8 → c ≠ 9 → m'.1 c q = m.1 c q
theorem FrC.rf {m : HT} : FrC m m := ⟨rfl, fun _ _ _ _ _ _ _ => rfl⟩
theorem FrC.tr {m m' m'' : HT} (h : FrC m m') (g : FrC m' m'') : FrC m m'' := ⟨g.1.trans h.1, fun c q a b d e f => (g.2 c q a b d e f).trans (h.2 c q a b d e f)⟩
theorem Fr1.c {m m' : HT} (h : Fr1 m m') : FrC m m' := ⟨h.1, fun c q a _ _ _ _ => h.2 c q a⟩
theorem FrA.c {m m' : HT} (h : FrA m m') : FrC m m' := ⟨h.1, fun c q _ b d e f => h.2 c q b d e f⟩
theorem bdk {α β : Type} {r : α} {u : HT} {k : α → HT → Option β} : bd (some (r, u)) k = k r u := rfl
def gMesh (w h : Int32) : Prop := ∃ W H, okW W H ∧ w = nI W ∧ h = nI H
def gLn (l : Int32) : Prop := ∃ L, 1 ≤ L ∧ L ≤ 9 ∧ l = nI L
def gMsg (a : Nat → Nat) (i : Int32) : Prop := ∃ I, I < a 3 ∧ i = nI I
def gChn (a : Nat → Nat) (x y d : Int32) : Prop := ∃ X Y D, X < a 0 ∧ Y < a 1 ∧ D < 4 ∧ x = nI X ∧ y = nI Y ∧ d = nI D ∧ bes (a 0) (a 1) (lab (a 0) X Y) D ≠ 99
def gSt (n : Int32) : Prop := ∃ N, 1 ≤ N ∧ N ≤ 200 ∧ n = nI N
theorem m_inR {F : Nat} {m : HT} {x : Int32} {lo hi : Nat} (hh : hi < 2147483648) (hl : lo ≤ hi) : (fX7_in F m x (nI lo) (nI hi) = some (1, m) ∧ ∃ n, lo ≤ n ∧ n ≤ hi ∧ x = nI n) ∨ (fX7_in F m x (nI lo) (nI hi) = some (0, m) ∧ ¬ ∃ n, lo ≤ n ∧ n ≤ hi ∧ x = nI n) := by
  by_cases h1 : x < nI lo
  · refine Or.inr ⟨m_in0 (Or.inl h1), fun ⟨n, a1, a2, a3⟩ => ?_⟩
    rw [a3, lt_nI (by omega) (by omega)] at h1
    omega
  · by_cases h2 : nI hi < x
    · refine Or.inr ⟨m_in0 (Or.inr h2), fun ⟨n, a1, a2, a3⟩ => ?_⟩
      rw [a3, lt_nI (by omega) (by omega)] at h2
      omega
    · have h0 : ¬ x < 0 := fun q => h1 (Int32.lt_of_lt_of_le q (by rw [n0, le_nI (by omega) (by omega)]; omega))
      obtain ⟨j, hj, rfl⟩ := nI_of h0
      refine Or.inl ⟨m_in1 h1 h2, j, ?_, ?_, rfl⟩
      · rw [lt_nI (by omega) (by omega)] at h1; omega
      · rw [lt_nI (by omega) (by omega)] at h2; omega
def rMesh (W H : Nat) : Nat → Nat := fun k => if k = 0 then W else if k = 1 then H else 0
theorem m_putMesh_l {F : Nat} {m0 : HT} {W H : Nat} {r : Int32} : ∀ d i n m, i + d = 80 → d < n → Fr1 m0 m → (∀ k, k < i → m.1 1 k = 0) → ∃ m', fX7_putMesh_40 F n m (nI W) (nI H) r (nI i) = some (r, m') ∧ RM m' (rMesh W H) ∧ Fr1 m0 m' := by
  intro d
  induction d with
  | zero =>
    intro i n m hid hd h1 h2
    obtain ⟨n, rfl⟩ : ∃ n', n = n' + 1 := ⟨n - 1, by omega⟩
    show ∃ m', fX7_putMesh_40b F (fX7_putMesh_40 F n) m _ _ _ _ = _ ∧ _
    unfold fX7_putMesh_40b
    rw [if_pos (by rw [n80, le_nI (by omega) (by omega)]; omega), ckb (by decide), lts, ckb (by decide), lts, c0, c1]
    refine ⟨_, rfl, fun k hk => ?_, (h1.tr (fr1_up _ _)).tr (fr1_up _ _)⟩
    rw [sI_r, sI_r, rMesh]
    by_cases e1 : k = 1
    · rw [if_pos ⟨rfl, e1⟩, if_neg (by omega), if_pos e1]
    · by_cases e0 : k = 0
      · rw [if_neg (by omega), if_pos ⟨rfl, e0⟩, if_pos e0]
      · rw [if_neg (by omega), if_neg (by omega), if_neg e0, if_neg e1]; exact h2 k (by omega)
  | succ d ih =>
    intro i n m hid hd h1 h2
    obtain ⟨n, rfl⟩ : ∃ n', n = n' + 1 := ⟨n - 1, by omega⟩
    show ∃ m', fX7_putMesh_40b F (fX7_putMesh_40 F n) m _ _ _ _ = _ ∧ _
    unfold fX7_putMesh_40b
    rw [if_neg (by rw [n80, le_nI (by omega) (by omega)]; omega), ckb (inb_nI (by omega) (by omega)), clamp_nI (by omega), lts, lts, nI_1]
    refine ih (i + 1) n _ (by omega) (by omega) (h1.tr (fr1_up _ _)) (fun k hk => ?_)
    rw [sI_r]
    by_cases e : k = i
    · rw [if_pos ⟨rfl, e⟩]
    · rw [if_neg (fun z => e z.2)]; exact h2 k (by omega)
theorem m_putMesh_y {F : Nat} (hF : 1000 ≤ F) {m : HT} {a : Nat → Nat} (h : RM m a) {W H : Nat} (k : okW W H) : ∃ m', fX7_putMesh F m (nI W) (nI H) = some (nI (a 0 * a 1), m') ∧ RM m' (rMesh W H) ∧ Fr1 m m' := by
  obtain ⟨k1, k2, k3, k4⟩ := k
  have e1 : fX7_in F m (nI W) 2 6 = some (1, m) := m_in1 (by rw [n2, lt_nI (by omega) (by omega)]; omega) (by rw [n6, lt_nI (by omega) (by omega)]; omega)
  have e2 : fX7_in F m (nI H) 2 6 = some (1, m) := m_in1 (by rw [n2, lt_nI (by omega) (by omega)]; omega) (by rw [n6, lt_nI (by omega) (by omega)]; omega)
  unfold fX7_putMesh
  rw [bds e1, if_neg (by decide), bds e2, if_neg (by decide), ckb (by decide), ckb (by decide), c0, c1, h 0 (by omega), h 1 (by omega), pk_mul, lts]
  exact m_putMesh_l 80 0 F m (by omega) (by omega) ⟨rfl, fun _ _ _ => rfl⟩ (fun k hk => absurd hk (Nat.not_lt_zero k))
theorem m_putMesh_n {F : Nat} {m : HT} {w h : Int32} (hg : ¬ gMesh w h) : fX7_putMesh F m w h = some (-2, m) := by
  unfold fX7_putMesh fX7_putMesh_20
  rcases m_inR (F := F) (m := m) (x := w) (lo := 2) (hi := 6) (by omega) (by omega) with ⟨e1, W, a1, a2, a3⟩ | ⟨e1, -⟩
  · have e1' : fX7_in F m w 2 6 = some (1, m) := e1
    rw [bds e1', if_neg (by decide)]
    rcases m_inR (F := F) (m := m) (x := h) (lo := 2) (hi := 6) (by omega) (by omega) with ⟨e2, H, b1, b2, b3⟩ | ⟨e2, -⟩
    · exact absurd ⟨W, H, ⟨a1, a2, b1, b2⟩, a3, b3⟩ hg
    · have e2' : fX7_in F m h 2 6 = some (0, m) := e2
      rw [bds e2', if_pos rfl]
  · have e1' : fX7_in F m w 2 6 = some (0, m) := e1
    rw [bds e1', if_pos rfl]
theorem m_isMessage_y {F : Nat} {m : HT} {a : Nat → Nat} (h : RM m a) (h5 : a 3 ≤ 5) {i : Nat} (hi : i < a 3) : fX7_isMessage F m (nI i) = some (1, m) := by
  unfold fX7_isMessage
  rw [ckb (by decide), c3, h 3 (by omega), bds (m_inW hi (by omega)), ckb (by decide)]
theorem m_isMessage_n {F : Nat} {m : HT} {a : Nat → Nat} (h : RM m a) (h5 : a 3 ≤ 5) {i : Int32} (hi : ¬ gMsg a i) : fX7_isMessage F m i = some (0, m) := by
  unfold fX7_isMessage
  rw [ckb (by decide), c3, h 3 (by omega)]
  have e : fX7_in F m i 0 (nI (a 3) - 1) = some (0, m) := by
    by_cases h1 : i < 0
    · exact m_in0 (Or.inl h1)
    · by_cases h2 : nI (a 3) - 1 < i
      · exact m_in0 (Or.inr h2)
      · exfalso
        by_cases h3 : a 3 = 0
        · rw [h3] at h2
          exact h2 (Int32.lt_of_lt_of_le (by decide : nI 0 - 1 < 0) (Int32.not_lt.mp h1))
        · obtain ⟨px, q1, q2⟩ := le_pred (by omega) (by omega) h1 h2
          exact hi ⟨px, q1, q2⟩
  rw [bds e, ckb (by decide)]
/-- a new message -/
def rMsg (a : Nat → Nat) (lb l : Nat) : Nat → Nat := fun k => if k = 3 then a 3 + 1 else if 4 + 8 * a 3 ≤ k ∧ k < 12 + 8 * a 3 then (if k = 4 + 8 * a 3 then lb else if k = 5 + 8 * a 3 then l else 0) else a k
theorem m_putMessage_l {F : Nat} {m0 : HT} {a : Nat → Nat} (kk : okW (a 0) (a 1)) (h5 : a 3 < 5) (h0 : RM m0 a) {X Y L : Nat} (hX : X < a 0) (hY : Y < a 1) : ∀ d j n m, j + d = 8 → d < n → Fr1 m0 m → (∀ k, (k < 4 + 8 * a 3 ∨ 4 + 8 * a 3 + j ≤ k) → m.1 1 k = m0.1 1 k) → (∀ k, k < j → m.1 1 (4 + 8 * a 3 + k) = 0) →
    ∃ m', fX7_putMessage_46 F n m (nI X) (nI Y) (nI L) (nI (a 3)) (nI j) = some (nI (a 3), m') ∧ RM m' (rMsg a (lab (a 0) X Y) L) ∧ Fr1 m0 m' := by
  intro d
  induction d with
  | zero =>
    intro j n m hid hd h1 h2 h3
    obtain ⟨n, rfl⟩ : ∃ n', n = n' + 1 := ⟨n - 1, by omega⟩
    have hjj : j = 8 := by omega
    subst hjj
    have hR0 : m.1 1 0 = nI (a 0) := by rw [h2 0 (by omega), h0 0 (by omega)]
    have hR3 : m.1 1 3 = nI (a 3) := by rw [h2 3 (by omega), h0 3 (by omega)]
    have eL : fX7_labelOf F m (nI X) (nI Y) = some (nI (lab (a 0) X Y), m) := by
      obtain ⟨k1, k2, k3, k4⟩ := kk
      unfold fX7_labelOf fX7_labelOf_28
      rw [ckb (by decide), n2, rem_nI (by omega) (by omega) (by omega), c0, hR0]
      have e1 : nI Y * nI (a 0) = nI (Y * a 0) := pk_mul _ _
      by_cases hp : Y % 2 = 0
      · rw [hp, if_pos (by decide), e1, nI_add, lab, if_pos hp]
      · rw [if_neg (by rw [n0, eq_nI (by omega) (by omega)]; exact hp), ckb (by decide), e1, n1, sub_nI (by omega), sub_nI (by omega), nI_add, lab, if_neg hp]
    show ∃ m', fX7_putMessage_46b F (fX7_putMessage_46 F n) m _ _ _ _ _ = _ ∧ _
    unfold fX7_putMessage_46b fX7_spotOf
    have es0 : (4 : Int32) + 8 * nI (a 3) + 0 = nI (4 + 8 * a 3) := by rw [n4, n8, n0, pk_mul, nI_add, nI_add, Nat.add_zero]
    have es1 : (4 : Int32) + 8 * nI (a 3) + 1 = nI (5 + 8 * a 3) := by rw [n4, n8, n1, pk_mul, nI_add, nI_add, show 4 + 8 * a 3 + 1 = 5 + 8 * a 3 by omega]
    rw [if_pos (by decide), es0, es1]
    rw [bdk, bds eL, ckb (inb_nI (by omega) (by omega)), clamp_nI (by omega), lts, bdk, ckb (inb_nI (by omega) (by omega)), clamp_nI (by omega), lts, ckb (by decide), ckb (by decide), c3, lts, sI_r, if_neg (by omega), sI_r, if_neg (by omega), hR3, nI_1]
    refine ⟨_, rfl, fun k hk => ?_, ((h1.tr (fr1_up _ _)).tr (fr1_up _ _)).tr (fr1_up _ _)⟩
    rw [sI_r, sI_r, sI_r, rMsg]
    by_cases e3 : k = 3
    · rw [if_pos ⟨rfl, e3⟩, if_pos e3]
    · rw [if_neg (by omega), if_neg e3]
      by_cases e5 : k = 5 + 8 * a 3
      · rw [if_pos ⟨rfl, e5⟩, if_pos (by omega), if_neg (by omega), if_pos e5]
      · rw [if_neg (by omega)]
        by_cases e4 : k = 4 + 8 * a 3
        · rw [if_pos ⟨rfl, e4⟩, if_pos (by omega), if_pos e4]
        · rw [if_neg (by omega)]
          by_cases e6 : 4 + 8 * a 3 ≤ k ∧ k < 12 + 8 * a 3
          · rw [if_pos e6, if_neg e4, if_neg e5, show k = 4 + 8 * a 3 + (k - (4 + 8 * a 3)) by omega, h3 _ (by omega)]
            rfl
          · rw [if_neg e6, h2 k (by omega), h0 k hk]
  | succ d ih =>
    intro j n m hid hd h1 h2 h3
    obtain ⟨n, rfl⟩ : ∃ n', n = n' + 1 := ⟨n - 1, by omega⟩
    show ∃ m', fX7_putMessage_46b F (fX7_putMessage_46 F n) m _ _ _ _ _ = _ ∧ _
    unfold fX7_putMessage_46b fX7_spotOf
    rw [if_neg (by rw [n8, le_nI (by omega) (by omega)]; omega), n4, n8, pk_mul, nI_add, nI_add, bdk, ckb (inb_nI (by omega) (by omega)), clamp_nI (by omega), lts, lts, nI_1]
    refine ih (j + 1) n _ (by omega) (by omega) (h1.tr (fr1_up _ _)) (fun k hk => ?_) (fun k hk => ?_)
    · rw [sI_r, if_neg (by omega)]; exact h2 k (by omega)
    · rw [sI_r]
      by_cases e : k = j
      · rw [if_pos ⟨rfl, by omega⟩]
      · rw [if_neg (by omega)]; exact h3 k (by omega)
theorem m_putMessage_y {F : Nat} (hF : 1000 ≤ F) {m : HT} {a : Nat → Nat} (h : RM m a) (kk : okW (a 0) (a 1)) (h5 : a 3 < 5) {X Y L : Nat} (hX : X < a 0) (hY : Y < a 1) (hL1 : 1 ≤ L) (hL : L ≤ 9) : ∃ m', fX7_putMessage F m (nI X) (nI Y) (nI L) = some (nI (a 3), m') ∧ RM m' (rMsg a (lab (a 0) X Y) L) ∧ Fr1 m m' := by
  have e2 : fX7_in F m (nI L) 1 9 = some (1, m) := m_in1 (by rw [n1, lt_nI (by omega) (by omega)]; omega) (by rw [n9, lt_nI (by omega) (by omega)]; omega)
  unfold fX7_putMessage
  rw [bds (m_isPlace_y h kk hX hY), if_neg (by decide), bds e2, if_neg (by decide), ckb (by decide), c3, h 3 (by omega), n5, ite_eq (by omega) (by omega), if_neg (by omega), ckb (by decide), lts]
  exact m_putMessage_l kk h5 h hX hY 8 0 F m (by omega) (by omega) ⟨rfl, fun _ _ _ => rfl⟩ (fun _ _ => rfl) (fun k hk => absurd hk (Nat.not_lt_zero k))
theorem m_putMessage_f {F : Nat} {m : HT} {a : Nat → Nat} (h : RM m a) (kk : okW (a 0) (a 1)) (h5 : a 3 = 5) {X Y L : Nat} (hX : X < a 0) (hY : Y < a 1) (hL1 : 1 ≤ L) (hL : L ≤ 9) : fX7_putMessage F m (nI X) (nI Y) (nI L) = some (-4, m) := by
  have e2 : fX7_in F m (nI L) 1 9 = some (1, m) := m_in1 (by rw [n1, lt_nI (by omega) (by omega)]; omega) (by rw [n9, lt_nI (by omega) (by omega)]; omega)
  unfold fX7_putMessage
  rw [bds (m_isPlace_y h kk hX hY), if_neg (by decide), bds e2, if_neg (by decide), ckb (by decide), c3, h 3 (by omega), h5, if_pos (by decide)]
theorem m_putMessage_n {F : Nat} {m : HT} {a : Nat → Nat} (h : RM m a) (kk : okW (a 0) (a 1)) {x y l : Int32} (hg : ¬ (plc (a 0) (a 1) x y ∧ gLn l)) : fX7_putMessage F m x y l = some (-2, m) := by
  unfold fX7_putMessage fX7_putMessage_19
  by_cases hp : plc (a 0) (a 1) x y
  · obtain ⟨X, Y, hX, hY, rfl, rfl⟩ := id hp
    rw [bds (m_isPlace_y h kk hX hY), if_neg (by decide)]
    rcases m_inR (F := F) (m := m) (x := l) (lo := 1) (hi := 9) (by omega) (by omega) with ⟨e2, L, b1, b2, b3⟩ | ⟨e2, -⟩
    · exact absurd ⟨hp, L, b1, b2, b3⟩ hg
    · have e2' : fX7_in F m l 1 9 = some (0, m) := e2
      rw [bds e2', if_pos rfl]
  · rw [bds (m_isPlace_n h kk hp), if_pos rfl]
