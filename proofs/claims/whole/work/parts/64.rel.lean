-- ===== class and reference side by side =====
def XI (x : HT) (a : Nat → Nat) (S : Nat) (hs : Nat → Nat → Nat) (tp n : Nat) (tx : Nat → Nat) (rf : Nat → Int32) : Prop := CX x a ∧ HX x S hs tp ∧ TX x n tx ∧ x.1 0 8 = rf 0 ∧ x.1 0 9 = rf 1 ∧ x.1 0 10 = rf 2
def MI (m : HT) (a : Nat → Nat) (S : Nat) (hs : Nat → Nat → Nat) (n : Nat) (tx : Nat → Nat) (rf : Nat → Int32) : Prop := RM m a ∧ RP m S hs ∧ RT m n tx ∧ ∀ q, q < 3 → m.1 4 q = rf q
def OKA (a : Nat → Nat) (S : Nat) (hs : Nat → Nat → Nat) (B : Nat) : Prop := WF2 a ∧ a 2 ≤ B ∧ ∀ t, t < S → WF2 (hs t) ∧ hs t 2 ≤ B
def REL (x m : HT) (B : Nat) : Prop := ∃ a S hs tp n tx rf, XI x a S hs tp n tx rf ∧ MI m a S hs n tx rf ∧ OKA a S hs B
def BOTH {α : Type} (B : Nat) (ox om : Option (α × HT)) : Prop := ∃ r x' m', ox = some (r, x') ∧ om = some (r, m') ∧ REL x' m' B
theorem OKA.le {a : Nat → Nat} {S : Nat} {hs : Nat → Nat → Nat} {B B' : Nat} (h : OKA a S hs B) (hB : B ≤ B') : OKA a S hs B' := ⟨h.1, by have := h.2.1; omega, fun t ht => ⟨(h.2.2 t ht).1, by have := (h.2.2 t ht).2; omega⟩⟩
-- what keeps the class's part
theorem Fr2.rx {j : Nat} (hj : j < 8) (h2 : j ≠ 2) {x x' : HT} {a : Nat → Nat} (h : Fr2 x x') (r : RX x j a) : RX x' j a := by
  obtain ⟨r1, r2, r3, r4, r5, r6, r7⟩ := r
  refine ⟨?_, ?_, ?_, ?_, fun l hl => ?_, fun q hq => ?_, fun v hv => ?_⟩
  · rw [(h _ _ (by omega)).1 (by omega)]; exact r1
  · rw [(h _ _ (by omega)).1 (by omega)]; exact r2
  · rw [(h _ _ (by omega)).1 (by omega)]; exact r3
  · rw [(h _ _ (by omega)).1 (by omega)]; exact r4
  · rw [(h _ _ (by omega)).1 (by omega)]; exact r5 l hl
  · rw [(h _ _ (by omega)).1 (by omega), (h _ _ (by omega)).1 (by omega), (h _ _ (by omega)).2]; exact r6 q hq
  · rw [(h _ _ (by omega)).1 (by omega), (h _ _ (by omega)).1 (by omega)]; exact r7 v hv
/-- the cells of grid and ways are as they were -/
def SmG (x x' : HT) : Prop := ∀ c q, 59 ≤ c → c ≤ 86 → x'.1 c q = x.1 c q
theorem SmG.gx {x x' : HT} {W H : Nat} (h : SmG x x') (g : GX x W H) : GX x' W H := by
  obtain ⟨g0, g1, g2⟩ := g
  refine ⟨by rw [h _ _ (by omega) (by omega)]; exact g0, by rw [h _ _ (by omega) (by omega)]; exact g1, fun l hl => ?_⟩
  obtain ⟨a1, a2, a3⟩ := g2 l hl
  exact ⟨by rw [h _ _ (by omega) (by omega)]; exact a1, by rw [h _ _ (by omega) (by omega)]; exact a2, fun d hd => by rw [h _ _ (by omega) (by omega)]; exact a3 d hd⟩
theorem SmG.wx {x x' : HT} {a : Nat → Nat} (h5 : a 3 ≤ 5) (h : SmG x x') (r : WX x a) : WX x' a := by
  intro w hw
  obtain ⟨r1, r2, r3⟩ := r w hw
  exact ⟨by rw [h _ _ (by omega) (by omega)]; exact r1, fun i hi => by rw [h _ _ (by omega) (by omega)]; exact r2 i hi, fun i hi => by rw [h _ _ (by omega) (by omega)]; exact r3 i hi⟩
theorem XI.f2 {x x' : HT} {a : Nat → Nat} {S tp n : Nat} {hs : Nat → Nat → Nat} {tx : Nat → Nat} {rf : Nat → Int32} (h5 : a 3 ≤ 5) (f : Fr2 x x') (h : XI x a S hs tp n tx rf) : XI x' a S hs tp n tx rf := by
  obtain ⟨⟨c1, c2, c3⟩, ⟨d1, d2, d3, d4, d5⟩, ⟨t1, t2, t3⟩, q0, q1, q2⟩ := h
  have sg : SmG x x' := fun c q h1 h2 => (f c q (by omega)).1 (by omega)
  exact ⟨⟨f.rx (by omega) (by omega) c1, sg.gx c2, sg.wx h5 c3⟩, ⟨d1, d2, by rw [(f _ _ (by omega)).1 (by omega)]; exact d3, by rw [(f _ _ (by omega)).1 (by omega)]; exact d4, fun t ht => f.rx (by omega) (by omega) (d5 t ht)⟩, ⟨t1, by rw [(f _ _ (by omega)).1 (by omega)]; exact t2, fun k hk => by rw [(f _ _ (by omega)).1 (by omega)]; exact t3 k hk⟩, by rw [(f _ _ (by omega)).1 (by omega)]; exact q0, by rw [(f _ _ (by omega)).1 (by omega)]; exact q1, by rw [(f _ _ (by omega)).1 (by omega)]; exact q2⟩
theorem s0_rx {x : HT} {j q : Nat} {v : Int32} {a : Nat → Nat} (r : RX x j a) : RX (sI x 0 q v) j a := by
  obtain ⟨r1, r2, r3, r4, r5, r6, r7⟩ := r
  refine ⟨?_, ?_, ?_, ?_, fun l hl => ?_, fun i hi => ?_, fun v hv => ?_⟩
  · rw [sI_r, if_neg (by omega)]; exact r1
  · rw [sI_r, if_neg (by omega)]; exact r2
  · rw [sI_r, if_neg (by omega)]; exact r3
  · rw [sI_r, if_neg (by omega)]; exact r4
  · rw [sI_r, if_neg (by omega)]; exact r5 l hl
  · rw [sI_r, if_neg (by omega), sI_r, if_neg (by omega)]; exact r6 i hi
  · rw [sI_r, if_neg (by omega), sI_r, if_neg (by omega)]; exact r7 v hv
def rfU (rf : Nat → Int32) (k : Nat) : Nat → Int32 := fun q => if q = k then rf k + 1 else rf q
theorem XI.ref {x : HT} {a : Nat → Nat} {S tp n k : Nat} {hs : Nat → Nat → Nat} {tx : Nat → Nat} {rf : Nat → Int32} (hk : k < 3) (h5 : a 3 ≤ 5) (h : XI x a S hs tp n tx rf) : XI (sI x 0 (8 + k) (x.1 0 (8 + k) + 1)) a S hs tp n tx (rfU rf k) := by
  obtain ⟨⟨c1, c2, c3⟩, ⟨d1, d2, d3, d4, d5⟩, ⟨t1, t2, t3⟩, q0, q1, q2⟩ := h
  have sg : SmG x (sI x 0 (8 + k) (x.1 0 (8 + k) + 1)) := fun c q h1 h2 => by rw [sI_r, if_neg (by omega)]
  refine ⟨⟨s0_rx c1, sg.gx c2, sg.wx h5 c3⟩, ⟨d1, d2, by rw [sI_r, if_neg (by omega)]; exact d3, by rw [sI_r, if_neg (by omega)]; exact d4, fun t ht => s0_rx (d5 t ht)⟩, ⟨t1, by rw [sI_r, if_neg (by omega)]; exact t2, fun k hk => by rw [sI_r, if_neg (by omega)]; exact t3 k hk⟩, ?_, ?_, ?_⟩
  · rw [sI_r, rfU]
    by_cases e : k = 0
    · subst e; rw [if_pos ⟨rfl, rfl⟩, if_pos rfl, q0]
    · rw [if_neg (by omega), if_neg (by omega)]; exact q0
  · rw [sI_r, rfU]
    by_cases e : k = 1
    · subst e; rw [if_pos ⟨rfl, rfl⟩, if_pos rfl, q1]
    · rw [if_neg (by omega), if_neg (by omega)]; exact q1
  · rw [sI_r, rfU]
    by_cases e : k = 2
    · subst e; rw [if_pos ⟨rfl, rfl⟩, if_pos rfl, q2]
    · rw [if_neg (by omega), if_neg (by omega)]; exact q2
-- what keeps the reference's part
theorem MI.fr {m m' : HT} {a : Nat → Nat} {S n : Nat} {hs : Nat → Nat → Nat} {tx : Nat → Nat} {rf : Nat → Int32} (f : ∀ c q, c ≠ 1 → c ≠ 2 → c ≠ 6 → c ≠ 7 → c ≠ 8 → c ≠ 9 → m'.1 c q = m.1 c q) {b : Nat → Nat} (r : RM m' b) (h : MI m a S hs n tx rf) : MI m' b S hs n tx rf := by
  obtain ⟨r1, ⟨p1, p2, p3⟩, ⟨t1, t2, t3⟩, q⟩ := h
  exact ⟨r, ⟨p1, by rw [f _ _ (by omega) (by omega) (by omega) (by omega) (by omega) (by omega)]; exact p2, fun t ht k hk => by rw [f _ _ (by omega) (by omega) (by omega) (by omega) (by omega) (by omega)]; exact p3 t ht k hk⟩, ⟨t1, by rw [f _ _ (by omega) (by omega) (by omega) (by omega) (by omega) (by omega)]; exact t2, fun k hk => by rw [f _ _ (by omega) (by omega) (by omega) (by omega) (by omega) (by omega)]; exact t3 k hk⟩, fun k hk => by rw [f _ _ (by omega) (by omega) (by omega) (by omega) (by omega) (by omega)]; exact q k hk⟩
theorem MI.fa {m m' : HT} {a : Nat → Nat} {S n : Nat} {hs : Nat → Nat → Nat} {tx : Nat → Nat} {rf : Nat → Int32} (f : FrA m m') (h : MI m a S hs n tx rf) : MI m' a S hs n tx rf := h.fr (fun c q _ _ h6 h7 h8 h9 => f.2 c q h6 h7 h8 h9) (f.rm h.1)
theorem MI.ref {m : HT} {a : Nat → Nat} {S n k : Nat} {hs : Nat → Nat → Nat} {tx : Nat → Nat} {rf : Nat → Int32} (hk : k < 3) (h : MI m a S hs n tx rf) : MI (sI m 4 k (m.1 4 k + 1)) a S hs n tx (rfU rf k) := by
  obtain ⟨r1, ⟨p1, p2, p3⟩, ⟨t1, t2, t3⟩, q⟩ := h
  refine ⟨fun i hi => by rw [sI_r, if_neg (by omega)]; exact r1 i hi, ⟨p1, by rw [sI_r, if_neg (by omega)]; exact p2, fun t ht k hk => by rw [sI_r, if_neg (by omega)]; exact p3 t ht k hk⟩, ⟨t1, by rw [sI_r, if_neg (by omega)]; exact t2, fun k hk => by rw [sI_r, if_neg (by omega)]; exact t3 k hk⟩, fun i hi => ?_⟩
  rw [sI_r, rfU]
  by_cases e : i = k
  · subst e; rw [if_pos ⟨rfl, rfl⟩, if_pos rfl, q i hi]
  · rw [if_neg (fun z => e z.2), if_neg e]; exact q i hi
-- a refusal
theorem both_bad {x m : HT} {a : Nat → Nat} {S tp n : Nat} {hs : Nat → Nat → Nat} {tx : Nat → Nat} {rf : Nat → Int32} {B : Nat} (X : XI x a S hs tp n tx rf) (M : MI m a S hs n tx rf) (O : OKA a S hs B) : REL (sI x 0 8 (x.1 0 8 + 1)) (sI m 4 0 (m.1 4 0 + 1)) B := ⟨a, S, hs, tp, n, tx, rfU rf 0, X.ref (k := 0) (by omega) O.1.1.1.2.1, M.ref (by omega), O⟩
theorem both_no {x m : HT} {a : Nat → Nat} {S tp n : Nat} {hs : Nat → Nat → Nat} {tx : Nat → Nat} {rf : Nat → Int32} {B : Nat} (X : XI x a S hs tp n tx rf) (M : MI m a S hs n tx rf) (O : OKA a S hs B) : REL (sI x 0 9 (x.1 0 9 + 1)) (sI m 4 1 (m.1 4 1 + 1)) B := ⟨a, S, hs, tp, n, tx, rfU rf 1, X.ref (k := 1) (by omega) O.1.1.1.2.1, M.ref (by omega), O⟩
theorem both_full {x m : HT} {a : Nat → Nat} {S tp n : Nat} {hs : Nat → Nat → Nat} {tx : Nat → Nat} {rf : Nat → Int32} {B : Nat} (X : XI x a S hs tp n tx rf) (M : MI m a S hs n tx rf) (O : OKA a S hs B) : REL (sI x 0 10 (x.1 0 10 + 1)) (sI m 4 2 (m.1 4 2 + 1)) B := ⟨a, S, hs, tp, n, tx, rfU rf 2, X.ref (k := 2) (by omega) O.1.1.1.2.1, M.ref (by omega), O⟩
-- ===== what is told in: both alike =====
def PB (x m : HT) (a : Nat → Nat) (ox om : Option (Int32 × HT)) : Prop := ∃ r b x' m', ox = some (r, x') ∧ om = some (r, m') ∧ WF2 b ∧ CX x' b ∧ FrP x x' ∧ RM m' b ∧ FrC m m' ∧ ((0 ≤ r ∧ b 2 ≤ a 2 + 200) ∨ ((r = -2 ∨ r = -3 ∨ r = -4) ∧ b = a))
theorem PB.no {x m : HT} {a : Nat → Nat} {ox om : Option (Int32 × HT)} (k : WF2 a) (C : CX x a) (R : RM m a) {r : Int32} (hr : r = -2 ∨ r = -3 ∨ r = -4) (h1 : ox = some (r, x)) (h2 : om = some (r, m)) : PB x m a ox om := ⟨r, a, x, m, h1, h2, k, C, FrP.rf, R, FrC.rf, Or.inr ⟨hr, rfl⟩⟩
theorem pb_mesh {F : Nat} (hF : 1000 ≤ F) {x m : HT} {a : Nat → Nat} (k : WF2 a) (C : CX x a) (R : RM m a) (w h : Int32) : PB x m a (fX6_makeMesh F x w h) (fX7_putMesh F m w h) := by
  by_cases g : gMesh w h
  · obtain ⟨W, H, kw, rfl, rfl⟩ := g
    have h36 := okW_36 k.1.1.1
    obtain ⟨x', e1, c1, f1⟩ := x_makeMesh_y hF k.1.1.1 C kw
    obtain ⟨m', e2, r2, f2⟩ := m_putMesh_y hF R kw
    exact ⟨_, _, x', m', e1, e2, rMesh_ok kw, c1, f1, r2, f2.c, Or.inl ⟨nI_ge0 (by omega), by show 0 ≤ _; omega⟩⟩
  · exact PB.no k C R (Or.inl rfl) (x_makeMesh_n g) (m_putMesh_n g)
theorem pb_message {F : Nat} (hF : 1000 ≤ F) {x m : HT} {a : Nat → Nat} (k : WF2 a) (C : CX x a) (R : RM m a) (p q l : Int32) : PB x m a (fX6_addMessage F x p q l) (fX7_putMessage F m p q l) := by
  have h5 := k.1.1.2.1
  by_cases g : plc (a 0) (a 1) p q ∧ gLn l
  · obtain ⟨⟨X, Y, hX, hY, rfl, rfl⟩, L, hL1, hL, rfl⟩ := g
    by_cases e : a 3 = 5
    · exact PB.no k C R (Or.inr (Or.inr rfl)) (x_addMessage_f k.1.1.1 C e hX hY hL1 hL) (m_putMessage_f R k.1.1.1 e hX hY hL1 hL)
    · have hl := (fin_lab k.1.1.1 hX hY).1
      obtain ⟨x', e1, c1, f1⟩ := x_addMessage_y hF k C (by omega) hX hY hL1 hL
      obtain ⟨m', e2, r2, f2⟩ := m_putMessage_y hF R k.1.1.1 (by omega) hX hY hL1 hL
      exact ⟨_, _, x', m', e1, e2, rMsg_ok k (by omega) hl hL1 hL, c1, f1, r2, f2.c, Or.inl ⟨nI_ge0 (by omega), by rw [rMsg_lo (by omega) (by omega)]; omega⟩⟩
  · exact PB.no k C R (Or.inl rfl) (x_addMessage_n k.1.1.1 C g) (m_putMessage_n R k.1.1.1 g)
theorem pb_goal {F : Nat} (hF : 1000 ≤ F) {x m : HT} {a : Nat → Nat} (k : WF2 a) (C : CX x a) (R : RM m a) (i p q : Int32) : PB x m a (fX6_turnGoal F x i p q) (fX7_putGoal F m i p q) := by
  have h5 := k.1.1.2.1
  have h36 := okW_36 k.1.1.1
  by_cases g : gMsg a i ∧ plc (a 0) (a 1) p q
  · obtain ⟨⟨I, hI, rfl⟩, X, Y, hX, hY, rfl, rfl⟩ := g
    have hl := (fin_lab k.1.1.1 hX hY).1
    by_cases e : lab (a 0) X Y = a (4 + 8 * I)
    · exact PB.no k C R (Or.inl rfl) (x_turnGoal_s k.1.1 C hI hX hY e) (m_putGoal_s R k.1.1 hI hX hY e)
    · by_cases hmv : 0 < mvw a (2 * I) ∨ 0 < mvw a (2 * I + 1)
      · exact PB.no k C R (Or.inr (Or.inl rfl)) (x_turnGoal_no k.1 C hI hX hY e hmv) (m_putGoal_no R k.1 hI hX hY e hmv)
      · obtain ⟨x', e1, c1, f1⟩ := x_turnGoal_y hF k C hI hX hY e hmv
        obtain ⟨m', e2, r2, f2⟩ := m_putGoal_y hF R k.1 hI hX hY e hmv
        have hc := cntB_le (p := aG (rGoal a I (lab (a 0) X Y)) I) (n := 36)
        exact ⟨_, _, x', m', e1, e2, rGoal_ok k hI hl e hmv, c1, f1, r2, f2.c, Or.inl ⟨nI_ge0 (by omega), by rw [rGoal_r (by omega) (by omega) (by omega)]; omega⟩⟩
  · exact PB.no k C R (Or.inl rfl) (x_turnGoal_n k.1.1 C g) (m_putGoal_n R k.1.1 g)
theorem pb_turn {F : Nat} {x m : HT} {a : Nat → Nat} (k : WF2 a) (C : CX x a) (R : RM m a) (p q d : Int32) : PB x m a (fX6_turnChannel F x p q d) (fX7_putTurn F m p q d) := by
  by_cases g : gChn a p q d
  · obtain ⟨X, Y, D, hX, hY, hD, rfl, rfl, rfl, hb⟩ := g
    have hl := (fin_lab k.1.1.1 hX hY).1
    obtain ⟨x', e1, c1, f1⟩ := x_turnChannel_y (F := F) k C hX hY hD hb
    obtain ⟨m', e2, r2, f2⟩ := m_putTurn_y (F := F) R k.1.1.1 k.1.2.2 hX hY hD hb
    exact ⟨_, _, x', m', e1, e2, rTurn_ok k hl hD hb, c1, f1, r2, f2.c, Or.inl ⟨by split <;> decide, by rw [rTurn_r (by omega)]; omega⟩⟩
  · exact PB.no k C R (Or.inl rfl) (x_turnChannel_n k.1.1.1 C g) (m_putTurn_n R k.1.1.1 g)
theorem stp_2 {a : Nat → Nat} : stp a 2 = a 2 + 1 := by unfold stp upN; rw [if_pos rfl]
theorem itS_2 {a : Nat → Nat} : ∀ n, itS a n 2 = a 2 + n
  | 0 => rfl
  | n + 1 => by show stp (itS a n) 2 = _; rw [stp_2, itS_2 n]; omega
theorem pb_steps {F : Nat} (hF : 1000 ≤ F) {x m : HT} {a : Nat → Nat} (k : WF2 a) (C : CX x a) (R : RM m a) (n : Int32) : PB x m a (fX6_goSteps F x n) (fX7_putSteps F m n) := by
  by_cases g : gSt n
  · obtain ⟨N, h1, hN, rfl⟩ := g
    obtain ⟨x', e1, f1, r1, w1⟩ := x_goSteps_y hF k.1 k.2 C.1 C.2.2 h1 hN
    obtain ⟨m', e2, r2, f2⟩ := m_putSteps_y hF R k.1 h1 hN
    have s := (itS_ok k.1 N).2
    have h5 := k.1.1.2.1
    have hc := cntB_le (p := fun w => !dnW (itS a N) w) (n := 2 * itS a N 3)
    rw [s.2.2.1] at hc
    refine ⟨_, _, x', m', e1, e2, itS_ok2 k N, ⟨r1, by rw [s.1, s.2.1]; exact f1.gx (by omega) C.2.1, w1⟩, f1.p, r2, f2, Or.inl ⟨nI_ge0 (by unfold undo; rw [s.2.2.1]; omega), by rw [itS_2]; omega⟩⟩
  · exact PB.no k C R (Or.inl rfl) (x_goSteps_n g) (m_putSteps_n g)
theorem pb_again {F : Nat} (hF : 1000 ≤ F) {x m : HT} {a : Nat → Nat} (k : WF2 a) (C : CX x a) (R : RM m a) (hB : a 2 < 2147483648) : PB x m a (fX6_startAgain F x) (fX7_putAgain F m) := by
  obtain ⟨x', e1, c1, f1⟩ := x_startAgain (F := F) k C
  obtain ⟨m', e2, r2, f2⟩ := m_putAgain hF R k.1.1.2.1
  exact ⟨_, _, x', m', e1, e2, rAgn_ok k, c1, f1, r2, f2.c, Or.inl ⟨nI_ge0 hB, by unfold rAgn; rw [if_pos (by omega)]; omega⟩⟩
-- a call that tells in
theorem psH_in {S : Nat} {hs : Nat → Nat → Nat} {b : Nat → Nat} {P : (Nat → Nat) → Prop} (hb : P b) (h : ∀ t, t < S → P (hs t)) (hS : S ≤ 5) : ∀ t, t < psS S → P (psH S hs b t) := by
  intro t ht
  unfold psS at ht
  unfold psH
  by_cases e : S = 5
  · rw [if_pos e] at ht ⊢
    by_cases c : t < 4
    · show P (if t < 4 then hs (t + 1) else b)
      rw [if_pos c]; exact h (t + 1) (by omega)
    · show P (if t < 4 then hs (t + 1) else b)
      rw [if_neg c]; exact hb
  · rw [if_neg e] at ht ⊢
    by_cases c : t = S
    · show P (if t = S then b else hs t)
      rw [if_pos c]; exact hb
    · show P (if t = S then b else hs t)
      rw [if_neg c]; exact h t (by omega)
/-- the class's part, the state put aside with it -/
def XA (x : HT) (a0 a : Nat → Nat) (S : Nat) (hs : Nat → Nat → Nat) (tp n : Nat) (tx : Nat → Nat) (rf : Nat → Int32) : Prop := XI x a S hs tp n tx rf ∧ RX x 1 a0
def MA (m : HT) (a0 a : Nat → Nat) (S : Nat) (hs : Nat → Nat → Nat) (n : Nat) (tx : Nat → Nat) (rf : Nat → Int32) : Prop := MI m a S hs n tx rf ∧ ∀ k, k < 80 → m.1 2 k = nI (a0 k)
theorem x_aside {F : Nat} {x : HT} {a : Nat → Nat} {S tp n : Nat} {hs : Nat → Nat → Nat} {tx : Nat → Nat} {rf : Nat → Int32} (h5 : a 3 ≤ 5) (h : XI x a S hs tp n tx rf) : ∃ x', fX2_copyFrom F 1 0 x = some ((), x') ∧ XA x' a a S hs tp n tx rf := by
  obtain ⟨⟨c1, c2, c3⟩, ⟨d1, d2, d3, d4, d5⟩, ⟨t1, t2, t3⟩, q0, q1, q2⟩ := h
  obtain ⟨x', e1, f1, r1⟩ := x_copyFrom (F := F) (j := 1) (j2 := 0) (by omega) x
  exact ⟨x', e1, ⟨⟨f1.rx (by omega) c1, f1.gx (by omega) c2, f1.wx (by omega) c3⟩, ⟨d1, d2, by rw [(f1 _ _ (by omega)).1]; exact d3, by rw [(f1 _ _ (by omega)).1]; exact d4, fun t ht => f1.rx (by omega) (d5 t ht)⟩, ⟨t1, by rw [(f1 _ _ (by omega)).1]; exact t2, fun k hk => by rw [(f1 _ _ (by omega)).1]; exact t3 k hk⟩, by rw [(f1 _ _ (by omega)).1]; exact q0, by rw [(f1 _ _ (by omega)).1]; exact q1, by rw [(f1 _ _ (by omega)).1]; exact q2⟩, r1 a h5 c1⟩
theorem m_aside {F : Nat} (hF : 1000 ≤ F) {m : HT} {a : Nat → Nat} {S n : Nat} {hs : Nat → Nat → Nat} {tx : Nat → Nat} {rf : Nat → Int32} (h : MI m a S hs n tx rf) : ∃ m', fX7_laysAside F m = some ((), m') ∧ MA m' a a S hs n tx rf := by
  obtain ⟨m', e1, f1, f2, f3⟩ := m_laysAside hF m
  exact ⟨m', e1, h.fr (fun c q _ h2 _ _ _ _ => f2 c q h2) (fun k hk => by rw [f2 1 k (by omega)]; exact h.1 k hk), fun k hk => by rw [f3 k hk]; exact h.1 k hk⟩
theorem XA.put {x x' : HT} {a0 a b : Nat → Nat} {S tp n : Nat} {hs : Nat → Nat → Nat} {tx : Nat → Nat} {rf : Nat → Int32} (f : FrP x x') (c : CX x' b) (h : XA x a0 a S hs tp n tx rf) : XA x' a0 b S hs tp n tx rf := by
  obtain ⟨⟨c0, ⟨d1, d2, d3, d4, d5⟩, ⟨t1, t2, t3⟩, q0, q1, q2⟩, r⟩ := h
  exact ⟨⟨c, ⟨d1, d2, by rw [(f _ _ (by omega)).1]; exact d3, by rw [(f _ _ (by omega)).1]; exact d4, fun t ht => f.rx (by omega) (by omega) (d5 t ht)⟩, ⟨t1, by rw [(f _ _ (by omega)).1]; exact t2, fun k hk => by rw [(f _ _ (by omega)).1]; exact t3 k hk⟩, by rw [(f _ _ (by omega)).1]; exact q0, by rw [(f _ _ (by omega)).1]; exact q1, by rw [(f _ _ (by omega)).1]; exact q2⟩, f.rx (by omega) (by omega) r⟩
theorem MA.put {m m' : HT} {a0 a b : Nat → Nat} {S n : Nat} {hs : Nat → Nat → Nat} {tx : Nat → Nat} {rf : Nat → Int32} (f : FrC m m') (r : RM m' b) (h : MA m a0 a S hs n tx rf) : MA m' a0 b S hs n tx rf := ⟨h.1.fr (fun c q h1 _ h6 h7 h8 h9 => f.2 c q h1 h6 h7 h8 h9) r, fun k hk => by rw [f.2 2 k (by omega) (by omega) (by omega) (by omega) (by omega)]; exact h.2 k hk⟩
theorem XA.push {F : Nat} {x : HT} {a0 a : Nat → Nat} {S tp n : Nat} {hs : Nat → Nat → Nat} {tx : Nat → Nat} {rf : Nat → Int32} (h5 : a0 3 ≤ 5) (ha : a 3 ≤ 5) (h : XA x a0 a S hs tp n tx rf) : ∃ x' tp', fX1_push F 1 x = some ((), x') ∧ XI x' a (psS S) (psH S hs a0) tp' n tx rf ∧ FrK x x' := by
  obtain ⟨⟨⟨c1, c2, c3⟩, hh, ⟨t1, t2, t3⟩, q0, q1, q2⟩, r⟩ := h
  obtain ⟨x', tp', e1, h1, f1⟩ := x_push (F := F) hh r h5
  have sg : SmG x x' := fun c q h1 h2 => (f1 c q (by omega)).1
  have rx : RX x' 0 a := by
    obtain ⟨r1, r2, r3, r4, r5, r6, r7⟩ := c1
    exact ⟨by rw [(f1 _ _ (by omega)).1]; exact r1, by rw [(f1 _ _ (by omega)).1]; exact r2, by rw [(f1 _ _ (by omega)).1]; exact r3, by rw [(f1 _ _ (by omega)).1]; exact r4, fun l hl => by rw [(f1 _ _ (by omega)).1]; exact r5 l hl, fun i hi => by rw [(f1 _ _ (by omega)).1, (f1 _ _ (by omega)).1, (f1 _ _ (by omega)).2]; exact r6 i hi, fun w hw => by rw [(f1 _ _ (by omega)).1, (f1 _ _ (by omega)).1]; exact r7 w hw⟩
  exact ⟨x', tp', e1, ⟨⟨rx, sg.gx c2, sg.wx ha c3⟩, h1, ⟨t1, by rw [(f1 _ _ (by omega)).1]; exact t2, fun k hk => by rw [(f1 _ _ (by omega)).1]; exact t3 k hk⟩, by rw [(f1 _ _ (by omega)).1]; exact q0, by rw [(f1 _ _ (by omega)).1]; exact q1, by rw [(f1 _ _ (by omega)).1]; exact q2⟩, f1⟩
theorem MA.push {F : Nat} (hF : 1000 ≤ F) {m : HT} {a0 a : Nat → Nat} {S n : Nat} {hs : Nat → Nat → Nat} {tx : Nat → Nat} {rf : Nat → Int32} (h : MA m a0 a S hs n tx rf) : ∃ m', fX7_remembers F m = some ((), m') ∧ MI m' a (psS S) (psH S hs a0) n tx rf ∧ m'.1 0 13 = m.1 0 13 := by
  obtain ⟨⟨r1, rp, ⟨t1, t2, t3⟩, q⟩, ha⟩ := h
  obtain ⟨m', e1, f1, f2, p1⟩ := m_remembers hF rp ha
  exact ⟨m', e1, ⟨fun k hk => by rw [f2 _ _ (by omega) (by omega)]; exact r1 k hk, p1, ⟨t1, by rw [f2 _ _ (by omega) (by omega)]; exact t2, fun k hk => by rw [f2 _ _ (by omega) (by omega)]; exact t3 k hk⟩, fun k hk => by rw [f2 _ _ (by omega) (by omega)]; exact q k hk⟩, f2 0 13 (by omega) (by omega)⟩
theorem both_put {F : Nat} (hF : 1000 ≤ F) {x m : HT} {B : Nat} (h : REL x m B) (ox om : HT → Option (Int32 × HT)) (hp : ∀ x1 m1 a, WF2 a → CX x1 a → RM m1 a → a 2 ≤ B → PB x1 m1 a (ox x1) (om m1)) : BOTH (B + 200) (bd (fX2_copyFrom F 1 0 x) fun _ x1 => bd (ox x1) fun r5 x4 => bd (fX6_settle F x4 r5) fun r8 x7 => some (r8, x7)) (bd (fX7_laysAside F m) fun _ x1 => bd (om x1) fun r5 x4 => bd (fX7_finished F x4 r5) fun r8 x7 => some (r8, x7)) := by
  obtain ⟨a, S, hs, tp, n, tx, rf, X, M, O⟩ := h
  have h5 := O.1.1.1.2.1
  obtain ⟨x1, e1, X1⟩ := x_aside (F := F) h5 X
  obtain ⟨m1, e2, M1⟩ := m_aside hF M
  obtain ⟨r, b, x2, m2, e3, e4, kb, C2, f2, R2, g2, hr⟩ := hp x1 m1 a O.1 X1.1.1 M1.1.1 O.2.1
  have X2 := X1.put f2 C2
  have M2 := M1.put g2 R2
  rw [bds e1, bds e2, bds e3, bds e4]
  rcases hr with ⟨h0, hb⟩ | ⟨hr, rfl⟩
  · obtain ⟨x3, tp3, e5, X3, -⟩ := X2.push (F := F) h5 kb.1.1.2.1
    obtain ⟨m3, e6, M3, -⟩ := M2.push hF
    have hm : (-2 : Int32) < r := Int32.lt_of_lt_of_le (by decide) h0
    unfold fX6_settle fX7_finished
    rw [if_pos h0, if_pos hm, bds e5, bdk, bds e6, bdk]
    refine ⟨r, x3, m3, rfl, rfl, b, psS S, psH S hs a, tp3, n, tx, rf, X3, M3, kb, by have := O.2.1; omega, ?_⟩
    exact psH_in (P := fun a => WF2 a ∧ a 2 ≤ B + 200) ⟨O.1, by have := O.2.1; omega⟩ (fun t ht => ⟨(O.2.2 t ht).1, by have := (O.2.2 t ht).2; omega⟩) X.2.1.2.1
  · have O' := O.le (show B ≤ B + 200 by omega)
    rcases hr with rfl | rfl | rfl
    · unfold fX6_settle fX7_finished
      rw [if_neg (by decide), if_neg (by decide), bds (x_rBad x2), bdk, bds (m_rBad m2), bdk]
      exact ⟨_, _, _, rfl, rfl, both_bad X2.1 M2.1 O'⟩
    · unfold fX6_settle fX7_finished
      rw [if_neg (by decide), if_neg (by decide), bds (x_rNo x2), bdk, bds (m_rNo m2), bdk]
      exact ⟨_, _, _, rfl, rfl, both_no X2.1 M2.1 O'⟩
    · unfold fX6_settle fX7_finished
      rw [if_neg (by decide), if_neg (by decide), bds (x_rFull x2), bdk, bds (m_rFull m2), bdk]
      exact ⟨_, _, _, rfl, rfl, both_full X2.1 M2.1 O'⟩
theorem b_mesh {F : Nat} (hF : 1000 ≤ F) {x m : HT} {B : Nat} (h : REL x m B) (w h9 : Int32) : BOTH (B + 200) (fX6_mesh F x w h9) (fX7_mesh F m w h9) := both_put hF h (fun x1 => fX6_makeMesh F x1 w h9) (fun m1 => fX7_putMesh F m1 w h9) (fun x1 m1 a k C R _ => pb_mesh hF k C R w h9)
theorem b_message {F : Nat} (hF : 1000 ≤ F) {x m : HT} {B : Nat} (h : REL x m B) (p q l : Int32) : BOTH (B + 200) (fX6_message F x p q l) (fX7_message F m p q l) := both_put hF h (fun x1 => fX6_addMessage F x1 p q l) (fun m1 => fX7_putMessage F m1 p q l) (fun x1 m1 a k C R _ => pb_message hF k C R p q l)
theorem b_goal {F : Nat} (hF : 1000 ≤ F) {x m : HT} {B : Nat} (h : REL x m B) (i p q : Int32) : BOTH (B + 200) (fX6_goal F x i p q) (fX7_goal F m i p q) := both_put hF h (fun x1 => fX6_turnGoal F x1 i p q) (fun m1 => fX7_putGoal F m1 i p q) (fun x1 m1 a k C R _ => pb_goal hF k C R i p q)
theorem b_turns {F : Nat} (hF : 1000 ≤ F) {x m : HT} {B : Nat} (h : REL x m B) (p q d : Int32) : BOTH (B + 200) (fX6_turns F x p q d) (fX7_turns F m p q d) := both_put hF h (fun x1 => fX6_turnChannel F x1 p q d) (fun m1 => fX7_putTurn F m1 p q d) (fun x1 m1 a k C R _ => pb_turn k C R p q d)
theorem b_steps {F : Nat} (hF : 1000 ≤ F) {x m : HT} {B : Nat} (h : REL x m B) (n : Int32) : BOTH (B + 200) (fX6_steps F x n) (fX7_steps F m n) := both_put hF h (fun x1 => fX6_goSteps F x1 n) (fun m1 => fX7_putSteps F m1 n) (fun x1 m1 a k C R _ => pb_steps hF k C R n)
theorem b_again {F : Nat} (hF : 1000 ≤ F) {x m : HT} {B : Nat} (hB : B < 2147483648) (h : REL x m B) : BOTH (B + 200) (fX6_again F x) (fX7_again F m) := both_put hF h (fun x1 => fX6_startAgain F x1) (fun m1 => fX7_putAgain F m1) (fun x1 m1 a k C R hb => pb_again hF k C R (by omega))
