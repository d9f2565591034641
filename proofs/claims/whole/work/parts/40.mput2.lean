theorem m_goalsOf_l {F : Nat} {m : HT} {a : Nat → Nat} (h : RM m a) {i : Nat} (hi : i < 5) (hlo : a (6 + 8 * i) < 262144) (hhi : a (7 + 8 * i) < 262144) : ∀ d l n, l + d = 36 → d < n → fX7_goalsOf_4 F n m (nI i) (nI (cntB (aG a i) l)) (nI l) = some (nI (cntB (aG a i) 36), m) := by
  intro d
  induction d with
  | zero =>
    intro l n hid hd
    obtain ⟨n, rfl⟩ : ∃ n', n = n' + 1 := ⟨n - 1, by omega⟩
    show fX7_goalsOf_4b F (fX7_goalsOf_4 F n) m _ _ _ = _
    unfold fX7_goalsOf_4b
    rw [if_pos (by rw [n36, le_nI (by omega) (by omega)]; omega), show l = 36 by omega]
  | succ d ih =>
    intro l n hid hd
    obtain ⟨n, rfl⟩ : ∃ n', n = n' + 1 := ⟨n - 1, by omega⟩
    have ih1 := ih (l + 1) n (by omega) (by omega)
    rw [cntB] at ih1
    show fX7_goalsOf_4b F (fX7_goalsOf_4 F n) m _ _ _ = _
    unfold fX7_goalsOf_4b fX7_goalsOf_25
    rw [if_neg (by rw [n36, le_nI (by omega) (by omega)]; omega), bds (m_isGoal h hi (by omega) hlo hhi)]
    by_cases e : aG a i l = true
    · rw [if_pos e, if_neg (by decide), lts, lts, nI_1, nI_1]
      rw [if_pos e] at ih1
      exact ih1
    · rw [if_neg e, if_pos rfl, lts, lts, nI_1, n0, nI_add]
      rw [if_neg e] at ih1
      exact ih1
theorem m_goalsOf {F : Nat} (hF : 1000 ≤ F) {m : HT} {a : Nat → Nat} (h : RM m a) {i : Nat} (hi : i < 5) (hlo : a (6 + 8 * i) < 262144) (hhi : a (7 + 8 * i) < 262144) : fX7_goalsOf F m (nI i) = some (nI (cntB (aG a i) 36), m) := m_goalsOf_l h hi hlo hhi 36 0 F (by omega) (by omega)
def rGoal (a : Nat → Nat) (i lb : Nat) : Nat → Nat := upN a (6 + 8 * i + lb / 18) (a (6 + 8 * i + lb / 18) ^^^ 2 ^ (lb % 18))
theorem xor_lt {n j k : Nat} (hn : n < 2 ^ k) (hj : j < k) : n ^^^ 2 ^ j < 2 ^ k := Nat.xor_lt_two_pow hn (Nat.pow_lt_pow_right (by decide) hj)
theorem rGoal_b {a : Nat → Nat} {i lb : Nat} (hlo : a (6 + 8 * i) < 262144) (hhi : a (7 + 8 * i) < 262144) (hlb : lb < 36) : rGoal a i lb (6 + 8 * i) < 262144 ∧ rGoal a i lb (7 + 8 * i) < 262144 := by
  have h18 : lb % 18 < 18 := Nat.mod_lt _ (by omega)
  have hc : lb / 18 = 0 ∨ lb / 18 = 1 := by omega
  unfold rGoal upN
  rcases hc with e | e
  · rw [e]
    refine ⟨?_, ?_⟩
    · rw [if_pos (by omega)]; exact xor_lt (k := 18) hlo h18
    · rw [if_neg (by omega)]; exact hhi
  · rw [e]
    refine ⟨?_, ?_⟩
    · rw [if_neg (by omega)]; exact hlo
    · rw [if_pos (by omega), show 6 + 8 * i + 1 = 7 + 8 * i by omega]; exact xor_lt (k := 18) hhi h18
theorem m_putGoal_n {F : Nat} {m : HT} {a : Nat → Nat} (h : RM m a) (k : WF0 a) {i x y : Int32} (hg : ¬ (gMsg a i ∧ plc (a 0) (a 1) x y)) : fX7_putGoal F m i x y = some (-2, m) := by
  unfold fX7_putGoal fX7_putGoal_32
  by_cases hm : gMsg a i
  · obtain ⟨I, hI, rfl⟩ := id hm
    rw [bds (m_isMessage_y h k.2.1 hI), if_neg (by decide)]
    have hp : ¬ plc (a 0) (a 1) x y := fun q => hg ⟨hm, q⟩
    rw [bds (m_isPlace_n h k.1 hp), if_pos rfl]
  · rw [bds (m_isMessage_n h k.2.1 hm), if_pos rfl]
theorem m_of00 {F : Nat} {m : HT} {a : Nat → Nat} (h : RM m a) {i : Nat} (hi : i < 5) : fX7_of0 F m (nI i) 0 = some (nI (a (4 + 8 * i)), m) := m_of0 (k := 0) h hi (by omega)
theorem m_putGoal_s {F : Nat} {m : HT} {a : Nat → Nat} (h : RM m a) (k : WF0 a) {I X Y : Nat} (hI : I < a 3) (hX : X < a 0) (hY : Y < a 1) (e : lab (a 0) X Y = a (4 + 8 * I)) : fX7_putGoal F m (nI I) (nI X) (nI Y) = some (-2, m) := by
  have h5 := k.2.1
  unfold fX7_putGoal fX7_putGoal_32
  rw [bds (m_isMessage_y h k.2.1 hI), if_neg (by decide), bds (m_isPlace_y h k.1 hX hY), if_neg (by decide), bds (m_labelOf h k.1 hX hY), bds (m_of00 h (by omega)), if_pos (by rw [e])]
theorem m_putGoal_no {F : Nat} {m : HT} {a : Nat → Nat} (h : RM m a) (k : WF1 a) {I X Y : Nat} (hI : I < a 3) (hX : X < a 0) (hY : Y < a 1) (e : lab (a 0) X Y ≠ a (4 + 8 * I)) (hmv : 0 < mvw a (2 * I) ∨ 0 < mvw a (2 * I + 1)) : fX7_putGoal F m (nI I) (nI X) (nI Y) = some (-3, m) := by
  have h5 := k.1.2.1
  have h36 := okW_36 k.1.1
  have hl := (fin_lab k.1.1 hX hY).1
  have hs := (k.1.2.2 I hI).1
  have b0 := (k.b (w := 2 * I) (by omega)).2.2.2.2.2
  have b1 := (k.b (w := 2 * I + 1) (by omega)).2.2.2.2.2
  have em0 : mvw a (2 * I) = a (8 + 8 * I) := by unfold mvw; rw [show (2 * I) / 2 = I by omega, show (2 * I) % 2 = 0 by omega, Nat.add_zero]
  have em1 : mvw a (2 * I + 1) = a (9 + 8 * I) := by unfold mvw; rw [show (2 * I + 1) / 2 = I by omega, show (2 * I + 1) % 2 = 1 by omega, show 8 + 8 * I + 1 = 9 + 8 * I by omega]
  have o4 : fX7_of0 F m (nI I) 4 = some (nI (a (8 + 8 * I)), m) := by rw [n4, m_of0 h (by omega) (by omega), show 4 + 8 * I + 4 = 8 + 8 * I by omega]
  have o5 : fX7_of0 F m (nI I) 5 = some (nI (a (9 + 8 * I)), m) := by rw [n5, m_of0 h (by omega) (by omega), show 4 + 8 * I + 5 = 9 + 8 * I by omega]
  unfold fX7_putGoal fX7_putGoal_53
  rw [bds (m_isMessage_y h k.1.2.1 hI), if_neg (by decide), bds (m_isPlace_y h k.1.1 hX hY), if_neg (by decide), bds (m_labelOf h k.1.1 hX hY), bds (m_of00 h (by omega)), if_neg (by rw [eq_nI (by omega) (by omega)]; exact e), bds o4]
  by_cases q : 0 < a (8 + 8 * I)
  · rw [if_pos (by rw [n0, lt_nI (by omega) (by omega)]; exact q)]
  · rw [if_neg (by rw [n0, lt_nI (by omega) (by omega)]; exact q), bds o5, if_neg (by rw [n0, le_nI (by omega) (by omega)]; omega)]
theorem m_putGoal_y {F : Nat} (hF : 1000 ≤ F) {m : HT} {a : Nat → Nat} (h : RM m a) (k : WF1 a) {I X Y : Nat} (hI : I < a 3) (hX : X < a 0) (hY : Y < a 1) (e : lab (a 0) X Y ≠ a (4 + 8 * I)) (hmv : ¬ (0 < mvw a (2 * I) ∨ 0 < mvw a (2 * I + 1))) : ∃ m', fX7_putGoal F m (nI I) (nI X) (nI Y) = some (nI (cntB (aG (rGoal a I (lab (a 0) X Y)) I) 36), m') ∧ RM m' (rGoal a I (lab (a 0) X Y)) ∧ Fr1 m m' := by
  have h5 := k.1.2.1
  have h36 := okW_36 k.1.1
  have hl := (fin_lab k.1.1 hX hY).1
  obtain ⟨hs, -, -, hlo, hhi, -⟩ := k.1.2.2 I hI
  have b0 := (k.b (w := 2 * I) (by omega)).2.2.2.2.2
  have b1 := (k.b (w := 2 * I + 1) (by omega)).2.2.2.2.2
  have em0 : mvw a (2 * I) = a (8 + 8 * I) := by unfold mvw; rw [show (2 * I) / 2 = I by omega, show (2 * I) % 2 = 0 by omega, Nat.add_zero]
  have em1 : mvw a (2 * I + 1) = a (9 + 8 * I) := by unfold mvw; rw [show (2 * I + 1) / 2 = I by omega, show (2 * I + 1) % 2 = 1 by omega, show 8 + 8 * I + 1 = 9 + 8 * I by omega]
  have o4 : fX7_of0 F m (nI I) 4 = some (nI (a (8 + 8 * I)), m) := by rw [n4, m_of0 h (by omega) (by omega), show 4 + 8 * I + 4 = 8 + 8 * I by omega]
  have o5 : fX7_of0 F m (nI I) 5 = some (nI (a (9 + 8 * I)), m) := by rw [n5, m_of0 h (by omega) (by omega), show 4 + 8 * I + 5 = 9 + 8 * I by omega]
  have hb := rGoal_b (i := I) hlo hhi (lb := lab (a 0) X Y) (by omega)
  unfold fX7_putGoal fX7_putGoal_53
  rw [bds (m_isMessage_y h k.1.2.1 hI), if_neg (by decide), bds (m_isPlace_y h k.1.1 hX hY), if_neg (by decide), bds (m_labelOf h k.1.1 hX hY), bds (m_of00 h (by omega)), if_neg (by rw [eq_nI (by omega) (by omega)]; exact e), bds o4]
  rw [if_neg (by rw [n0, lt_nI (by omega) (by omega)]; omega), bds o5, if_pos (by rw [n0, le_nI (by omega) (by omega)]; omega), bds (m_labelOf h k.1.1 hX hY)]
  generalize hq : lab (a 0) X Y = lb at *
  unfold fX7_spotOf
  have hc : lb / 18 ≤ 1 := by omega
  have hm9 : lb % 18 < 18 := Nat.mod_lt _ (by omega)
  rw [bdk, n18, rem_nI (by omega) (by omega) (by omega), div_nI (by omega) (by omega) (by omega), n2, n4, n8, pk_mul, nI_add, nI_add, nI_add, show 4 + 8 * I + (2 + lb / 18) = 6 + 8 * I + lb / 18 by omega, ckb (inb_nI (by omega) (by omega)), ckb (inb_nI (by omega) (by omega)), clamp_nI (by omega), h _ (by omega), shl_nI (by omega), xor_nI, lts]
  have hR := rm_up h (6 + 8 * I + lb / 18) (a (6 + 8 * I + lb / 18) ^^^ 2 ^ (lb % 18))
  have hR' : RM (sI m 1 (6 + 8 * I + lb / 18) (nI (a (6 + 8 * I + lb / 18) ^^^ 2 ^ (lb % 18)))) (rGoal a I lb) := hR
  rw [bds (m_goalsOf hF hR' (by omega) hb.1 hb.2)]
  exact ⟨_, rfl, hR', fr1_up _ _⟩
theorem m_isChannel {F : Nat} {m : HT} {a : Nat → Nat} (h : RM m a) (k : okW (a 0) (a 1)) (x y d : Int32) : (gChn a x y d → fX7_isChannel F m x y d = some (1, m)) ∧ (¬ gChn a x y d → fX7_isChannel F m x y d = some (0, m)) := by
  have h36 := okW_36 k
  unfold fX7_isChannel fX7_isChannel_37
  by_cases hp : plc (a 0) (a 1) x y
  · obtain ⟨X, Y, hX, hY, rfl, rfl⟩ := id hp
    have hl := (fin_lab k hX hY).1
    rw [bds (m_isPlace_y h k hX hY), if_neg (by decide)]
    rcases m_inR (F := F) (m := m) (x := d) (lo := 0) (hi := 3) (by omega) (by omega) with ⟨e2, D, b1, b2, rfl⟩ | ⟨e2, hn⟩
    · have e2' : fX7_in F m (nI D) 0 3 = some (1, m) := e2
      have hb := bes_lt k hl (d := D) (by omega)
      rw [bds e2', if_neg (by decide), bds (m_labelOf h k hX hY), bds (m_beside h k hl (by omega)), ite_m1 (by omega)]
      refine ⟨fun ⟨X', Y', D', q1, q2, q3, q4, q5, q6, q7⟩ => ?_, fun hg => ?_⟩
      · obtain ⟨k1, k2, k3, k4⟩ := id k
        rw [eq_nI (by omega) (by omega)] at q4 q5 q6
        subst q4; subst q5; subst q6
        rw [if_neg q7]
      · by_cases e : bes (a 0) (a 1) (lab (a 0) X Y) D = 99
        · rw [if_pos e]
        · exact absurd ⟨X, Y, D, hX, hY, by omega, rfl, rfl, rfl, e⟩ hg
    · have e2' : fX7_in F m d 0 3 = some (0, m) := e2
      rw [bds e2', if_pos rfl]
      refine ⟨fun ⟨X', Y', D', q1, q2, q3, q4, q5, q6, q7⟩ => absurd ⟨D', by omega, by omega, q6⟩ hn, fun _ => rfl⟩
  · rw [bds (m_isPlace_n h k hp), if_pos rfl]
    exact ⟨fun ⟨X', Y', D', q1, q2, q3, q4, q5, q6, q7⟩ => absurd ⟨X', Y', q1, q2, q4, q5⟩ hp, fun _ => rfl⟩
def rTurn (a : Nat → Nat) (lb d : Nat) : Nat → Nat := upN a (44 + lb) (a (44 + lb) ^^^ 2 ^ d)
theorem flip_tb (n j i : Nat) : (n ^^^ 2 ^ j).testBit i = (n.testBit i ^^ decide (i = j)) := by
  rw [Nat.testBit_xor]
  by_cases h : j = i
  · subst h; simp
  · have h2 : ¬ i = j := fun e => h e.symm
    first | (simp [Nat.testBit_two_pow, h, h2]; done) | (simp [Nat.testBit_two_pow_of_ne h, h2]; done)
theorem rTurn_D {a : Nat → Nat} (k : okD a) {lb d : Nat} (hl : lb < a 0 * a 1) (hl36 : lb < 36) (hd : d < 4) (hb : bes (a 0) (a 1) lb d ≠ 99) : okD (rTurn a lb d) := by
  intro l hl'
  have e0 : rTurn a lb d 0 = a 0 := by unfold rTurn upN; rw [if_neg (by omega)]
  have e1 : rTurn a lb d 1 = a 1 := by unfold rTurn upN; rw [if_neg (by omega)]
  unfold dnB
  rw [e0, e1]
  by_cases e : l = lb
  · subst e
    have e2 : rTurn a l d (44 + l) = a (44 + l) ^^^ 2 ^ d := by unfold rTurn upN; rw [if_pos rfl]
    rw [e2]
    refine ⟨xor_lt (k := 4) (k l hl').1 (by omega), fun d' hd' => ?_⟩
    rw [flip_tb] at hd'
    by_cases q : d' = d
    · subst q; exact ⟨hd, hl, hb⟩
    · have : dnB a l d' = true := by simpa [dnB, q] using hd'
      exact (k l hl').2 d' this
  · have e2 : rTurn a lb d (44 + l) = a (44 + l) := by unfold rTurn upN; rw [if_neg (by omega)]
    rw [e2]
    exact k l hl'
theorem m_putTurn_n {F : Nat} {m : HT} {a : Nat → Nat} (h : RM m a) (k : okW (a 0) (a 1)) {x y d : Int32} (hg : ¬ gChn a x y d) : fX7_putTurn F m x y d = some (-2, m) := by
  unfold fX7_putTurn
  rw [bds ((m_isChannel h k x y d).2 hg), if_pos rfl]
theorem m_putTurn_y {F : Nat} {m : HT} {a : Nat → Nat} (h : RM m a) (k : okW (a 0) (a 1)) (hD : okD a) {X Y D : Nat} (hX : X < a 0) (hY : Y < a 1) (hd : D < 4) (hb : bes (a 0) (a 1) (lab (a 0) X Y) D ≠ 99) : ∃ m', fX7_putTurn F m (nI X) (nI Y) (nI D) = some (if dnB (rTurn a (lab (a 0) X Y) D) (lab (a 0) X Y) D = true then 0 else 1, m') ∧ RM m' (rTurn a (lab (a 0) X Y) D) ∧ Fr1 m m' := by
  have h36 := okW_36 k
  have hl := (fin_lab k hX hY).1
  have hg : gChn a (nI X) (nI Y) (nI D) := ⟨X, Y, D, hX, hY, hd, rfl, rfl, rfl, hb⟩
  have hD' := rTurn_D hD hl (by omega) hd hb
  unfold fX7_putTurn
  rw [bds ((m_isChannel h k _ _ _).1 hg), if_neg (by decide), bds (m_labelOf h k hX hY)]
  have hR : RM (sI m 1 (44 + lab (a 0) X Y) (nI (a (44 + lab (a 0) X Y) ^^^ 2 ^ D))) (rTurn a (lab (a 0) X Y) D) := rm_up h _ _
  have e0 : rTurn a (lab (a 0) X Y) D 0 = a 0 := by unfold rTurn upN; rw [if_neg (by omega)]
  have e1 : rTurn a (lab (a 0) X Y) D 1 = a 1 := by unfold rTurn upN; rw [if_neg (by omega)]
  rw [n44, nI_add, ckb (inb_nI (by omega) (by omega)), ckb (inb_nI (by omega) (by omega)), clamp_nI (by omega), h _ (by omega), shl_nI (by omega), xor_nI, lts]
  have eL := m_labelOf (F := F) hR (by rw [e0, e1]; exact k) (px := X) (py := Y) (by rw [e0]; exact hX) (by rw [e1]; exact hY)
  rw [e0] at eL
  rw [bds eL, bds (m_isDown hR hD' (by omega) hd)]
  by_cases e : dnB (rTurn a (lab (a 0) X Y) D) (lab (a 0) X Y) D = true
  · rw [if_pos e, if_neg (by decide), if_pos e]
    exact ⟨_, rfl, hR, fr1_up _ _⟩
  · rw [if_neg e, if_pos rfl, if_neg e]
    exact ⟨_, rfl, hR, fr1_up _ _⟩
-- ===== steps =====
def undo (a : Nat → Nat) : Nat := cntB (fun w => !dnW a w) (2 * a 3)
theorem m_notDone_l {F : Nat} {m : HT} {a : Nat → Nat} (h : RM m a) (k : WF1 a) (hW : WM m a) : ∀ d w n, w + d = 2 * a 3 → d < n → fX7_notDone_4 F n m (nI (cntB (fun w => !dnW a w) w)) (nI w) = some (nI (undo a), m) := by
  have h5 := k.1.2.1
  intro d
  induction d with
  | zero =>
    intro w n hid hd
    obtain ⟨n, rfl⟩ : ∃ n', n = n' + 1 := ⟨n - 1, by omega⟩
    show fX7_notDone_4b F (fX7_notDone_4 F n) m _ _ = _
    unfold fX7_notDone_4b
    rw [ckb (by decide), c3, h 3 (by omega), n2, pk_mul, if_pos (by rw [le_nI (by omega) (by omega)]; omega), undo, show w = 2 * a 3 by omega]
  | succ d ih =>
    intro w n hid hd
    obtain ⟨n, rfl⟩ : ∃ n', n = n' + 1 := ⟨n - 1, by omega⟩
    have ih1 := ih (w + 1) n (by omega) (by omega)
    rw [cntB] at ih1
    show fX7_notDone_4b F (fX7_notDone_4 F n) m _ _ = _
    unfold fX7_notDone_4b fX7_notDone_30
    rw [ckb (by decide), c3, h 3 (by omega), n2, pk_mul, if_neg (by rw [le_nI (by omega) (by omega)]; omega), bds (m_isDone h k hW (by omega))]
    by_cases e : dnW a w = true
    · rw [if_pos e, if_neg (by decide), lts, lts, nI_1, n0, nI_add]
      rw [e] at ih1
      exact ih1
    · have e' : dnW a w = false := Bool.eq_false_iff.mpr e
      rw [if_neg e, if_pos rfl, lts, lts, nI_1, nI_1]
      rw [e'] at ih1
      exact ih1
theorem m_notDone {F : Nat} (hF : 1000 ≤ F) {m : HT} {a : Nat → Nat} (h : RM m a) (k : WF1 a) (hW : WM m a) : fX7_notDone F m = some (nI (undo a), m) := by
  have h5 := k.1.2.1
  exact m_notDone_l h k hW (2 * a 3) 0 F (by omega) (by omega)
theorem itS_ok {a : Nat → Nat} (k : WF1 a) : ∀ t, WF1 (itS a t) ∧ smR a (itS a t)
  | 0 => ⟨k, smR.rf⟩
  | t + 1 => by
    obtain ⟨h1, h2⟩ := itS_ok k t
    obtain ⟨h3, h4⟩ := stp_ok h1
    exact ⟨h3, h2.tr h4⟩
theorem m_putSteps_l {F : Nat} (hF : 1000 ≤ F) {m0 : HT} {a : Nat → Nat} (k : WF1 a) {N : Nat} (hN : N ≤ 200) : ∀ d t n m, t + d = N → d < n → RM m (itS a t) → WM m (itS a t) → Fr1 m0 m → ∃ m', fX7_putSteps_20 F n m (nI N) (nI t) = some (nI (undo (itS a N)), m') ∧ RM m' (itS a N) ∧ Fr1 m0 m' := by
  intro d
  induction d with
  | zero =>
    intro t n m hid hd hR hW hFr
    obtain ⟨n, rfl⟩ : ∃ n', n = n' + 1 := ⟨n - 1, by omega⟩
    have et : t = N := by omega
    subst et
    show ∃ m', fX7_putSteps_20b F (fX7_putSteps_20 F n) m _ _ = _ ∧ _
    unfold fX7_putSteps_20b
    rw [if_pos (by rw [le_nI (by omega) (by omega)]; omega), bds (m_notDone hF hR (itS_ok k t).1 hW)]
    exact ⟨m, rfl, hR, hFr⟩
  | succ d ih =>
    intro t n m hid hd hR hW hFr
    obtain ⟨n, rfl⟩ : ∃ n', n = n' + 1 := ⟨n - 1, by omega⟩
    obtain ⟨m1, e1, r1, w1, f1⟩ := m_step hF (itS_ok k t).1 hR hW
    show ∃ m', fX7_putSteps_20b F (fX7_putSteps_20 F n) m _ _ = _ ∧ _
    unfold fX7_putSteps_20b
    rw [if_neg (by rw [le_nI (by omega) (by omega)]; omega), bds e1, lts, nI_1]
    exact ih (t + 1) n m1 (by omega) (by omega) r1 w1 (hFr.tr f1)
theorem m_putSteps_y {F : Nat} (hF : 1000 ≤ F) {m : HT} {a : Nat → Nat} (h : RM m a) (k : WF1 a) {N : Nat} (h1 : 1 ≤ N) (hN : N ≤ 200) : ∃ m', fX7_putSteps F m (nI N) = some (nI (undo (itS a N)), m') ∧ RM m' (itS a N) ∧ FrC m m' := by
  have e1 : fX7_in F m (nI N) 1 200 = some (1, m) := m_in1 (by rw [n1, lt_nI (by omega) (by omega)]; omega) (by rw [show (200 : Int32) = nI 200 from rfl, lt_nI (by omega) (by omega)]; omega)
  obtain ⟨m1, e2, f2, w2⟩ := m_laysWays hF k.1 h
  obtain ⟨m', e3, r3, f3⟩ := m_putSteps_l hF (m0 := m1) k hN N 0 F m1 (by omega) (by omega) (f2.rm h) w2 ⟨rfl, fun _ _ _ => rfl⟩
  unfold fX7_putSteps
  rw [bds e1, if_neg (by decide), bds e2]
  exact ⟨m', e3, r3, f2.c.tr f3.c⟩
theorem m_putSteps_n {F : Nat} {m : HT} {n : Int32} (hg : ¬ gSt n) : fX7_putSteps F m n = some (-2, m) := by
  unfold fX7_putSteps
  rcases m_inR (F := F) (m := m) (x := n) (lo := 1) (hi := 200) (by omega) (by omega) with ⟨e2, L, b1, b2, b3⟩ | ⟨e2, -⟩
  · exact absurd ⟨L, b1, b2, b3⟩ hg
  · have e2' : fX7_in F m n 1 200 = some (0, m) := e2
    rw [bds e2', if_pos rfl]
def rAgn (a : Nat → Nat) (M : Nat) : Nat → Nat := fun k => if k = 2 ∨ (8 ≤ k ∧ k < 4 + 8 * M ∧ k % 8 < 4) then 0 else a k
theorem m_again28 {F : Nat} {m0 : HT} {a : Nat → Nat} {i : Nat} (hi : i < 5) {r : Int32} (rec16 : HT → Int32 → Int32 → Option (Int32 × HT)) : ∀ d j n m, j + d = 8 → 4 ≤ j → d < n → Fr1 m0 m → (∀ k, k < 80 → m.1 1 k = nI (if 8 + 8 * i ≤ k ∧ k < 4 + 8 * i + j then 0 else rAgn a i k)) →
    ∃ m', fX7_putAgain_28 F rec16 n m r (nI i) (nI j) = rec16 m' r (nI (i + 1)) ∧ RM m' (rAgn a (i + 1)) ∧ Fr1 m0 m' := by
  intro d
  induction d with
  | zero =>
    intro j n m hid hj hd h1 h2
    obtain ⟨n, rfl⟩ : ∃ n', n = n' + 1 := ⟨n - 1, by omega⟩
    show ∃ m', fX7_putAgain_28b F rec16 (fX7_putAgain_28 F rec16 n) m _ _ _ = _ ∧ _
    unfold fX7_putAgain_28b
    rw [if_pos (by rw [n8, le_nI (by omega) (by omega)]; omega), lts, nI_1]
    refine ⟨m, rfl, fun k hk => ?_, h1⟩
    rw [h2 k hk]
    congr 1
    unfold rAgn
    by_cases e : 8 + 8 * i ≤ k ∧ k < 4 + 8 * i + j
    · rw [if_pos e, if_pos (by omega)]
    · rw [if_neg e]
      by_cases e2 : k = 2 ∨ (8 ≤ k ∧ k < 4 + 8 * i ∧ k % 8 < 4)
      · rw [if_pos e2, if_pos (by omega)]
      · rw [if_neg e2, if_neg (by omega)]
  | succ d ih =>
    intro j n m hid hj hd h1 h2
    obtain ⟨n, rfl⟩ : ∃ n', n = n' + 1 := ⟨n - 1, by omega⟩
    show ∃ m', fX7_putAgain_28b F rec16 (fX7_putAgain_28 F rec16 n) m _ _ _ = _ ∧ _
    unfold fX7_putAgain_28b fX7_spotOf
    rw [if_neg (by rw [n8, le_nI (by omega) (by omega)]; omega), bdk, n4, n8, pk_mul, nI_add, nI_add, ckb (inb_nI (by omega) (by omega)), clamp_nI (by omega), lts, lts, nI_1]
    refine ih (j + 1) n _ (by omega) (by omega) (by omega) (h1.tr (fr1_up _ _)) (fun k hk => ?_)
    rw [sI_r]
    by_cases e : k = 4 + 8 * i + j
    · rw [if_pos ⟨rfl, e⟩, if_pos (by omega)]; rfl
    · rw [if_neg (fun z => e z.2), h2 k hk]
      congr 1
      by_cases e2 : 8 + 8 * i ≤ k ∧ k < 4 + 8 * i + j
      · rw [if_pos e2, if_pos (by omega)]
      · rw [if_neg e2, if_neg (by omega)]
theorem m_again16 {F : Nat} (hF : 1000 ≤ F) {m0 : HT} {a : Nat → Nat} (h5 : a 3 ≤ 5) {r : Int32} : ∀ d i n m, i + d = a 3 → d < n → Fr1 m0 m → RM m (rAgn a i) → ∃ m', fX7_putAgain_16 F n m r (nI i) = some (r, m') ∧ RM m' (rAgn a (a 3)) ∧ Fr1 m0 m' := by
  intro d
  have e3 : ∀ i, rAgn a i 3 = a 3 := fun i => by unfold rAgn; rw [if_neg (by omega)]
  induction d with
  | zero =>
    intro i n m hid hd h1 h2
    obtain ⟨n, rfl⟩ : ∃ n', n = n' + 1 := ⟨n - 1, by omega⟩
    have ei : i = a 3 := by omega
    subst ei
    show ∃ m', fX7_putAgain_16b F (fX7_putAgain_16 F n) m _ _ = _ ∧ _
    unfold fX7_putAgain_16b
    rw [ckb (by decide), c3, h2 3 (by omega), e3, if_pos (by rw [le_nI (by omega) (by omega)]; omega)]
    exact ⟨m, rfl, h2, h1⟩
  | succ d ih =>
    intro i n m hid hd h1 h2
    obtain ⟨n, rfl⟩ : ∃ n', n = n' + 1 := ⟨n - 1, by omega⟩
    obtain ⟨m1, e1, r1, f1⟩ := m_again28 (F := F) (m0 := m0) (a := a) (i := i) (by omega) (r := r) (fX7_putAgain_16 F n) 4 4 F m (by omega) (by omega) (by omega) h1 (fun k hk => by rw [if_neg (by omega)]; exact h2 k hk)
    obtain ⟨m', e2, r2, f2⟩ := ih (i + 1) n m1 (by omega) (by omega) f1 r1
    refine ⟨m', ?_, r2, f2⟩
    show fX7_putAgain_16b F (fX7_putAgain_16 F n) m _ _ = _
    unfold fX7_putAgain_16b
    rw [ckb (by decide), c3, h2 3 (by omega), e3, if_neg (by rw [le_nI (by omega) (by omega)]; omega)]
    have e1' : fX7_putAgain_28 F (fX7_putAgain_16 F n) F m r (nI i) 4 = _ := e1
    rw [e1', e2]
theorem m_putAgain {F : Nat} (hF : 1000 ≤ F) {m : HT} {a : Nat → Nat} (h : RM m a) (h5 : a 3 ≤ 5) : ∃ m', fX7_putAgain F m = some (nI (a 2), m') ∧ RM m' (rAgn a (a 3)) ∧ Fr1 m m' := by
  unfold fX7_putAgain
  rw [ckb (by decide), c2, h 2 (by omega), lts, ckb (by decide), lts]
  refine m_again16 hF (m0 := m) h5 (a 3) 0 F _ (by omega) (by omega) (fr1_up _ _) (fun k hk => ?_)
  rw [sI_r]
  unfold rAgn
  by_cases e : k = 2
  · rw [if_pos ⟨rfl, e⟩, if_pos (Or.inl e)]; rfl
  · rw [if_neg (fun z => e z.2), if_neg (by omega), h k hk]
