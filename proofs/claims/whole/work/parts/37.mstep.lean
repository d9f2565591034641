theorem ite_oI {α : Type} {b t : Nat} {p q : α} (hb : b < 2147483648) (ht : t < 2147483648) (h9 : t ≠ 99) : (if oI b = nI t then p else q) = (if b = t then p else q) := by
  by_cases h : b = 99
  · subst h
    rw [if_neg (show ¬ oI 99 = nI t from m1_ne' ht), if_neg (by omega)]
  · rw [oI_ne h, ite_eq hb ht]
theorem bes_lt {W H l d : Nat} (k : okW W H) (hl : l < W * H) (hd : d < 4) : bes W H l d < 100 := by
  have := okW_36 k
  rcases fin_bes k hl hd with h | h <;> omega
theorem m_wayTo_s {F n : Nat} {m : HT} {a : Nat → Nat} (h : RM m a) (k : okW (a 0) (a 1)) {f t d : Nat} (hf : f < a 0 * a 1) (ht : t < 36) (hd : d < 4) : fX7_wayTo_2 F (n + 1) m (nI f) (nI t) (nI d) = if bes (a 0) (a 1) f d = t then some (nI d, m) else fX7_wayTo_2 F n m (nI f) (nI t) (nI (d + 1)) := by
  have hb := bes_lt k hf hd
  show fX7_wayTo_2b F (fX7_wayTo_2 F n) m _ _ _ = _
  unfold fX7_wayTo_2b
  rw [bds (m_beside h k hf hd), ite_oI (by omega) (by omega) (by omega), lts, nI_1]
theorem m_wayTo {F : Nat} (hF : 1000 ≤ F) {m : HT} {a : Nat → Nat} (h : RM m a) (k : okW (a 0) (a 1)) {f t : Nat} (hf : f < a 0 * a 1) (ht : t < 36) (hadj : bes (a 0) (a 1) f (dirOf (a 0) (a 1) f t) = t) : fX7_wayTo F m (nI f) (nI t) = some (nI (dirOf (a 0) (a 1) f t), m) := by
  obtain ⟨F', rfl⟩ : ∃ F', F = F' + 4 := ⟨F - 4, by omega⟩
  unfold fX7_wayTo
  have e0 := m_wayTo_s (F := F' + 4) (n := F' + 3) h k hf ht (d := 0) (by omega)
  have e1 := m_wayTo_s (F := F' + 4) (n := F' + 2) h k hf ht (d := 1) (by omega)
  have e2 := m_wayTo_s (F := F' + 4) (n := F' + 1) h k hf ht (d := 2) (by omega)
  have e3 := m_wayTo_s (F := F' + 4) (n := F') h k hf ht (d := 3) (by omega)
  have e0' : fX7_wayTo_2 (F' + 4) (F' + 4) m (nI f) (nI t) 0 = _ := e0
  rw [e0', e1, e2, e3]
  unfold dirOf at hadj ⊢
  by_cases q0 : bes (a 0) (a 1) f 0 = t
  · rw [if_pos q0, if_pos q0]
  · rw [if_neg q0, if_neg q0]
    rw [if_neg q0] at hadj
    by_cases q1 : bes (a 0) (a 1) f 1 = t
    · rw [if_pos q1, if_pos q1]
    · rw [if_neg q1, if_neg q1]
      rw [if_neg q1] at hadj
      by_cases q2 : bes (a 0) (a 1) f 2 = t
      · rw [if_pos q2, if_pos q2]
      · rw [if_neg q2, if_neg q2]
        rw [if_neg q2] at hadj
        rw [if_pos hadj]
theorem m_isDown {F : Nat} {m : HT} {a : Nat → Nat} (h : RM m a) (hD : okD a) {l d : Nat} (hl : l < 36) (hd : d < 4) : fX7_isDown F m (nI l) (nI d) = some (if dnB a l d = true then 1 else 0, m) := by
  have h16 := (hD l hl).1
  unfold fX7_isDown
  rw [n44, nI_add, ckb (inb_nI (by omega) (by omega)), clamp_nI (by omega), h _ (by omega)]
  by_cases e : dnB a l d = true
  · rw [if_pos e, if_pos (by rw [bit_nI (by omega) (by omega)]; exact e)]
  · rw [if_neg e, if_neg (by rw [bit_nI (by omega) (by omega)]; exact e)]
theorem dirOf_lt {W H u b : Nat} : dirOf W H u b < 4 := by
  unfold dirOf
  split
  · omega
  · split
    · omega
    · split <;> omega
-- ===== a step, in plain numbers =====
def blk (a : Nat → Nat) (w : Nat) : Bool := decide (mvw a w < wN a w) && (dnB a (wP a w (mvw a w)) (dirOf (a 0) (a 1) (wP a w (mvw a w)) (wP a w (mvw a w + 1))) || decide (hdr a (wP a w (mvw a w)) (wP a w (mvw a w + 1)) ≠ 99))
def gos (a : Nat → Nat) (w : Nat) : Nat → Nat := if dnW a w = true then a else if blk a w = true then upN a (10 + 8 * (w / 2) + w % 2) (wtw a w + 1) else upN a (8 + 8 * (w / 2) + w % 2) (mvw a w + 1)
def gosN (a : Nat → Nat) : Nat → (Nat → Nat)
  | 0 => a
  | n + 1 => gos (gosN a n) n
def stp (a : Nat → Nat) : Nat → Nat := upN (gosN a (2 * a 3)) 2 (a 2 + 1)
def itS (a : Nat → Nat) : Nat → (Nat → Nat)
  | 0 => a
  | t + 1 => stp (itS a t)
/-- rows that tell the same of mesh and messages -/
def smR (a b : Nat → Nat) : Prop := b 0 = a 0 ∧ b 1 = a 1 ∧ b 3 = a 3 ∧ (∀ i, b (4 + 8 * i) = a (4 + 8 * i) ∧ b (5 + 8 * i) = a (5 + 8 * i) ∧ b (6 + 8 * i) = a (6 + 8 * i) ∧ b (7 + 8 * i) = a (7 + 8 * i)) ∧ ∀ l, b (44 + l) = a (44 + l)
theorem smR.rf {a : Nat → Nat} : smR a a := ⟨rfl, rfl, rfl, fun _ => ⟨rfl, rfl, rfl, rfl⟩, fun _ => rfl⟩
theorem smR.tr {a b c : Nat → Nat} (h : smR a b) (g : smR b c) : smR a c := ⟨g.1.trans h.1, g.2.1.trans h.2.1, g.2.2.1.trans h.2.2.1, fun i => ⟨((g.2.2.2.1 i).1).trans (h.2.2.2.1 i).1, ((g.2.2.2.1 i).2.1).trans (h.2.2.2.1 i).2.1, ((g.2.2.2.1 i).2.2.1).trans (h.2.2.2.1 i).2.2.1, ((g.2.2.2.1 i).2.2.2).trans (h.2.2.2.1 i).2.2.2⟩, fun l => (g.2.2.2.2 l).trans (h.2.2.2.2 l)⟩
theorem smR.up {a : Nat → Nat} {i s v : Nat} (hs : s < 4) (hi : i < 5) : smR a (upN a (8 + 8 * i + s) v) := by
  refine ⟨?_, ?_, ?_, fun j => ⟨?_, ?_, ?_, ?_⟩, fun l => ?_⟩ <;> (unfold upN; rw [if_neg (by omega)])
theorem smR.up2 {a : Nat → Nat} {v : Nat} : smR a (upN a 2 v) := by
  refine ⟨?_, ?_, ?_, fun j => ⟨?_, ?_, ?_, ?_⟩, fun l => ?_⟩ <;> (unfold upN; rw [if_neg (by omega)])
theorem smR.e_g {a b : Nat → Nat} (h : smR a b) (i : Nat) : aG b i = aG a i := by
  funext l
  unfold aG
  rw [(h.2.2.2.1 i).2.2.1, (h.2.2.2.1 i).2.2.2]
theorem smR.e_y {a b : Nat → Nat} (h : smR a b) (w : Nat) : wy b w = wy a w := by
  unfold wy
  rw [h.1, h.2.1, h.e_g, (h.2.2.2.1 (w / 2)).1]
theorem smR.e_n {a b : Nat → Nat} (h : smR a b) (w : Nat) : wN b w = wN a w := by unfold wN; rw [h.e_y]
theorem smR.e_p {a b : Nat → Nat} (h : smR a b) (w j : Nat) : wP b w j = wP a w j := by unfold wP; rw [h.e_y]
theorem smR.ln {a b : Nat → Nat} (h : smR a b) (w : Nat) : lnw b w = lnw a w := (h.2.2.2.1 (w / 2)).2.1
theorem smR.e_m {a b : Nat → Nat} (h : smR a b) {i : Nat} (k : okM a i) : okM b i := by
  obtain ⟨h0, h1, h3, hm, hd⟩ := h
  obtain ⟨e1, e2, e3, e4⟩ := hm i
  unfold okM
  rw [e1, e2, e3, e4, h0, h1, smR.e_g ⟨h0, h1, h3, hm, hd⟩]
  exact k
theorem smR.wf0 {a b : Nat → Nat} (h : smR a b) (k : WF0 a) : WF0 b := by
  obtain ⟨k1, k2, k3⟩ := k
  refine ⟨by rw [h.1, h.2.1]; exact k1, by rw [h.2.2.1]; exact k2, fun i hi => h.e_m (k3 i (by rw [← h.2.2.1]; exact hi))⟩
theorem smR.e_d {a b : Nat → Nat} (h : smR a b) (k : okD a) : okD b := by
  intro l hl
  have := k l hl
  unfold dnB at *
  rw [h.1, h.2.1, h.2.2.2.2 l]
  exact this
theorem gos_sm {a : Nat → Nat} {w : Nat} (hw : w < 10) : smR a (gos a w) := by
  unfold gos
  split
  · exact smR.rf
  · split
    · rw [show 10 + 8 * (w / 2) + w % 2 = 8 + 8 * (w / 2) + (2 + w % 2) by omega]; exact smR.up (by omega) (by omega)
    · exact smR.up (by omega) (by omega)
theorem mvw_upW {a : Nat → Nat} {w v x : Nat} : mvw (upN a (10 + 8 * (w / 2) + w % 2) x) v = mvw a v := by
  unfold mvw upN
  rw [if_neg (by omega)]
theorem mvw_upM {a : Nat → Nat} {w v x : Nat} : mvw (upN a (8 + 8 * (w / 2) + w % 2) x) v = if v = w then x else mvw a v := by
  unfold mvw upN
  by_cases e : v = w
  · subst e; rw [if_pos rfl, if_pos rfl]
  · rw [if_neg (by omega), if_neg e]
theorem wtw_upM {a : Nat → Nat} {w v x : Nat} : wtw (upN a (8 + 8 * (w / 2) + w % 2) x) v = wtw a v := by
  unfold wtw upN
  rw [if_neg (by omega)]
theorem wtw_upW {a : Nat → Nat} {w v x : Nat} : wtw (upN a (10 + 8 * (w / 2) + w % 2) x) v = if v = w then x else wtw a v := by
  unfold wtw upN
  by_cases e : v = w
  · subst e; rw [if_pos rfl, if_pos rfl]
  · rw [if_neg (by omega), if_neg e]
theorem gos_mv {a : Nat → Nat} {w v : Nat} : mvw (gos a w) v = if v = w ∧ dnW a w = false ∧ blk a w = false then mvw a w + 1 else mvw a v := by
  unfold gos
  by_cases e : dnW a w = true
  · rw [if_pos e, if_neg (by simp [e])]
  · rw [if_neg e]
    have e' : dnW a w = false := Bool.eq_false_iff.mpr e
    by_cases e2 : blk a w = true
    · rw [if_pos e2, mvw_upW, if_neg (by simp [e2])]
    · have e2' : blk a w = false := Bool.eq_false_iff.mpr e2
      rw [if_neg e2, mvw_upM]
      by_cases e3 : v = w
      · rw [if_pos e3, if_pos ⟨e3, e', e2'⟩]
      · rw [if_neg e3, if_neg (fun q => e3 q.1)]
theorem gos_wf {a : Nat → Nat} (k : WF1 a) {w : Nat} (hw : w < 2 * a 3) : WF1 (gos a w) := by
  obtain ⟨b1, -⟩ := k.b hw
  have hs := gos_sm (a := a) b1
  refine ⟨hs.wf0 k.1, fun v hv => ?_, hs.e_d k.2.2⟩
  have hv' : v < 2 * a 3 := by rw [← hs.2.2.1]; exact hv
  have hk := k.2.1 v hv'
  unfold okV at hk ⊢
  rw [hs.e_n, hs.ln, gos_mv]
  by_cases e : v = w ∧ dnW a w = false ∧ blk a w = false
  · rw [if_pos e]
    obtain ⟨rfl, e2, -⟩ := e
    simp only [dnW, Bool.or_eq_false_iff, decide_eq_false_iff_not] at e2
    exact ⟨by omega, fun q => absurd q e2.1⟩
  · rw [if_neg e]; exact hk
theorem gosN_ok {a : Nat → Nat} (k : WF1 a) : ∀ n, n ≤ 2 * a 3 → WF1 (gosN a n) ∧ smR a (gosN a n) ∧ gosN a n 2 = a 2 := by
  intro n
  induction n with
  | zero => intro _; exact ⟨k, smR.rf, rfl⟩
  | succ n ih =>
    intro hn
    obtain ⟨i1, i2, i3⟩ := ih (by omega)
    have hw : n < 2 * gosN a n 3 := by rw [i2.2.2.1]; omega
    have h5 := k.1.2.1
    refine ⟨gos_wf i1 hw, i2.tr (gos_sm (by omega)), ?_⟩
    show gos (gosN a n) n 2 = a 2
    rw [← i3]
    unfold gos
    split
    · rfl
    · split <;> (unfold upN; rw [if_neg (by omega)])
theorem wf_up2 {a : Nat → Nat} {v : Nat} (k : WF1 a) : WF1 (upN a 2 v) := by
  have hs := smR.up2 (a := a) (v := v)
  refine ⟨hs.wf0 k.1, fun w hw => ?_, hs.e_d k.2.2⟩
  have := k.2.1 w (by rw [← hs.2.2.1]; exact hw)
  unfold okV at this ⊢
  rw [hs.e_n, hs.ln, show mvw (upN a 2 v) w = mvw a w by unfold mvw upN; rw [if_neg (by omega)]]
  exact this
theorem stp_ok {a : Nat → Nat} (k : WF1 a) : WF1 (stp a) ∧ smR a (stp a) := by
  obtain ⟨h1, h2, -⟩ := gosN_ok k (2 * a 3) (Nat.le_refl _)
  exact ⟨wf_up2 h1, h2.tr smR.up2⟩
def Fr1 (m m' : HT) : Prop := m'.2 = m.2 ∧ ∀ c q, c ≠ 1 → m'.1 c q = m.1 c q
theorem Fr1.tr {m m' m'' : HT} (h : Fr1 m m') (g : Fr1 m' m'') : Fr1 m m'' := ⟨g.1.trans h.1, fun c q hc => (g.2 c q hc).trans (h.2 c q hc)⟩
theorem Fr1.wm {m m' : HT} {a b : Nat → Nat} (h : Fr1 m m') (hs : smR a b) (hW : WM m a) : WM m' b := by
  intro w hw
  obtain ⟨⟨q1, q2, q3⟩, q4⟩ := hW w (by rw [← hs.2.2.1]; exact hw)
  rw [hs.e_y, hs.e_n]
  exact ⟨⟨fun j hj => by rw [h.2 6 _ (by decide)]; exact q1 j hj, by rw [h.2 8 _ (by decide)]; exact q2, fun c hc => by rw [h.2 9 _ (by decide)]; exact q3 c hc⟩, by rw [h.2 7 _ (by decide)]; exact q4⟩
theorem rm_up {m : HT} {a : Nat → Nat} (h : RM m a) (i v : Nat) : RM (sI m 1 i (nI v)) (upN a i v) := by
  intro k hk
  rw [sI_r, upN]
  by_cases e : k = i
  · rw [if_pos ⟨rfl, e⟩, if_pos e]
  · rw [if_neg (fun q => e q.2), if_neg e]; exact h k hk
theorem fr1_up {m : HT} (i : Nat) (v : Int32) : Fr1 m (sI m 1 i v) := ⟨rfl, fun c q hc => by rw [sI_r, if_neg (fun z => hc z.1)]⟩
theorem m_goes92 {F : Nat} {m : HT} {a : Nat → Nat} (h : RM m a) {w : Nat} (hw : w < 10) : fX7_goes_92 F m (nI w) = some ((), sI m 1 (8 + 8 * (w / 2) + w % 2) (nI (mvw a w + 1))) := by
  unfold fX7_goes_92 fX7_spotOf
  rw [n2, rem_nI (by omega) (by omega) (by omega), div_nI (by omega) (by omega) (by omega), n4, n8, pk_mul, nI_add, nI_add, nI_add]
  show ck _ (ck _ _) = _
  rw [show 4 + 8 * (w / 2) + (4 + w % 2) = 8 + 8 * (w / 2) + w % 2 by omega, ckb (inb_nI (by omega) (by omega)), ckb (inb_nI (by omega) (by omega)), clamp_nI (by omega), h _ (by omega), nI_1]
  rfl
theorem m_goes69 {F : Nat} {m : HT} {a : Nat → Nat} (h : RM m a) {w : Nat} (hw : w < 10) : fX7_goes_69 F m (nI w) = some ((), sI m 1 (10 + 8 * (w / 2) + w % 2) (nI (wtw a w + 1))) := by
  unfold fX7_goes_69 fX7_spotOf
  rw [n2, rem_nI (by omega) (by omega) (by omega), div_nI (by omega) (by omega) (by omega), n4, n6, n8, pk_mul, nI_add, nI_add, nI_add]
  show ck _ (ck _ _) = _
  rw [show 4 + 8 * (w / 2) + (6 + w % 2) = 10 + 8 * (w / 2) + w % 2 by omega, ckb (inb_nI (by omega) (by omega)), ckb (inb_nI (by omega) (by omega)), clamp_nI (by omega), h _ (by omega), nI_1]
  rfl
theorem wP_adj {a : Nat → Nat} (k : WF0 a) {w : Nat} (hw : w < 2 * a 3) {j : Nat} (hj : j < wN a w) : bes (a 0) (a 1) (wP a w j) (dirOf (a 0) (a 1) (wP a w j) (wP a w (j + 1))) = wP a w (j + 1) := by
  obtain ⟨hok, -, -⟩ := wyB k hw
  exact (hok.2.2.2.1 j hj).2
theorem m_goes {F : Nat} (hF : 1000 ≤ F) {m : HT} {a : Nat → Nat} (h : RM m a) (k : WF1 a) (hW : WM m a) {w : Nat} (hw : w < 2 * a 3) (hnd : dnW a w = false) : ∃ m', fX7_goes F m (nI w) = some ((), m') ∧ RM m' (gos a w) ∧ Fr1 m m' := by
  obtain ⟨b1, b2, b3, b4, b5, b6⟩ := k.b hw
  obtain ⟨-, q4⟩ := hW w hw
  have hnd' : ¬ dnW a w = true := by rw [hnd]; decide
  unfold fX7_goes
  rw [bds (m_moves h b1), ckb (inb_nI (by omega) (by omega)), clamp_nI (by omega), q4, ite_le (by omega) (by omega)]
  by_cases e : wN a w ≤ mvw a w
  · rw [if_pos e, m_goes92 h b1]
    refine ⟨_, rfl, ?_, fr1_up _ _⟩
    have eb : blk a w = false := by simp [blk, show ¬ mvw a w < wN a w by omega]
    rw [gos, if_neg hnd', if_neg (by rw [eb]; decide)]
    exact rm_up h _ _
  · have hlt : mvw a w < wN a w := by omega
    have p1 := wP_lt k.1 hw (j := mvw a w) (by omega)
    have p2 := wP_lt k.1 hw (j := mvw a w + 1) (by omega)
    have hadj := wP_adj k.1 hw hlt
    rw [if_neg e, n37, pk_mul, nI_add, ckb (inb_nI (by omega) (by omega)), clamp_nI (by omega), m_way hW hw (by omega), lts, nI_1, ckb (inb_nI (by omega) (by omega)), clamp_nI (by omega), show 37 * w + mvw a w + 1 = 37 * w + (mvw a w + 1) by omega, m_way hW hw (by omega), lts, bds (m_wayTo hF h k.1.1 p1.1 p2.2 hadj), bds (m_isDown h k.2.2 p1.2 dirOf_lt)]
    by_cases ed : dnB a (wP a w (mvw a w)) (dirOf (a 0) (a 1) (wP a w (mvw a w)) (wP a w (mvw a w + 1))) = true
    · rw [if_pos ed, if_neg (by decide), m_goes69 h b1]
      refine ⟨_, rfl, ?_, fr1_up _ _⟩
      have eb : blk a w = true := by simp [blk, hlt, ed]
      rw [gos, if_neg hnd', if_pos eb]
      exact rm_up h _ _
    · rw [if_neg ed, if_pos rfl, bds (m_holder hF h k hW p1.2 p2.2)]
      have hr : hdr a (wP a w (mvw a w)) (wP a w (mvw a w + 1)) < 100 := by
        have h5 := k.1.2.1
        rcases fstK_le (p := fun w9 => hldB a w9 (wP a w (mvw a w)) (wP a w (mvw a w + 1))) (n := 2 * a 3) with q | q <;> (unfold hdr; omega)
      rw [ite_m1 (by omega)]
      by_cases eh : hdr a (wP a w (mvw a w)) (wP a w (mvw a w + 1)) = 99
      · rw [if_pos eh, m_goes92 h b1]
        refine ⟨_, rfl, ?_, fr1_up _ _⟩
        have eb : blk a w = false := by simp [blk, ed, eh]
        rw [gos, if_neg hnd', if_neg (by rw [eb]; decide)]
        exact rm_up h _ _
      · rw [if_neg eh, m_goes69 h b1]
        refine ⟨_, rfl, ?_, fr1_up _ _⟩
        have eb : blk a w = true := by simp [blk, hlt, eh]
        rw [gos, if_neg hnd', if_pos eb]
        exact rm_up h _ _
theorem m_step_l {F : Nat} (hF : 1000 ≤ F) {m0 : HT} {a : Nat → Nat} (k : WF1 a) : ∀ d w n m, w + d = 2 * a 3 → d < n → RM m (gosN a w) → WM m (gosN a w) → Fr1 m0 m → ∃ m', fX7_step_2 F n m (nI w) = some ((), m') ∧ RM m' (stp a) ∧ WM m' (stp a) ∧ Fr1 m0 m' := by
  have h5 := k.1.2.1
  intro d
  induction d with
  | zero =>
    intro w n m hid hd hR hW hFr
    obtain ⟨n, rfl⟩ : ∃ n', n = n' + 1 := ⟨n - 1, by omega⟩
    obtain ⟨i1, i2, i3⟩ := gosN_ok k w (by omega)
    have ew : w = 2 * a 3 := by omega
    show ∃ m', fX7_step_2b F (fX7_step_2 F n) m _ = _ ∧ _
    unfold fX7_step_2b
    rw [ckb (by decide), c3, hR 3 (by omega), i2.2.2.1, n2, pk_mul, if_pos (by rw [le_nI (by omega) (by omega)]; omega), ckb (by decide), ckb (by decide), clamp_nI (by omega), hR 2 (by omega), i3, nI_1, lts]
    refine ⟨_, rfl, ?_, ?_, hFr.tr (fr1_up _ _)⟩
    · rw [stp, ← ew]; exact rm_up hR _ _
    · rw [stp, ← ew]; exact (fr1_up _ _).wm smR.up2 hW
  | succ d ih =>
    intro w n m hid hd hR hW hFr
    obtain ⟨n, rfl⟩ : ∃ n', n = n' + 1 := ⟨n - 1, by omega⟩
    obtain ⟨i1, i2, i3⟩ := gosN_ok k w (by omega)
    have hw : w < 2 * gosN a w 3 := by rw [i2.2.2.1]; omega
    show ∃ m', fX7_step_2b F (fX7_step_2 F n) m _ = _ ∧ _
    unfold fX7_step_2b fX7_step_27
    rw [ckb (by decide), c3, hR 3 (by omega), i2.2.2.1, n2, pk_mul, if_neg (by rw [le_nI (by omega) (by omega)]; omega), bds (m_isDone hR i1 hW hw)]
    by_cases e : dnW (gosN a w) w = true
    · rw [if_pos e, if_neg (by decide), lts, nI_1]
      have eg : gosN a (w + 1) = gosN a w := by show gos (gosN a w) w = _; rw [gos, if_pos e]
      exact ih (w + 1) n m (by omega) (by omega) (by rw [eg]; exact hR) (by rw [eg]; exact hW) hFr
    · rw [if_neg e, if_pos rfl]
      obtain ⟨m1, e1, r1, f1⟩ := m_goes hF hR i1 hW hw (Bool.eq_false_iff.mpr e)
      rw [bds e1, lts, nI_1]
      exact ih (w + 1) n m1 (by omega) (by omega) r1 (f1.wm (gos_sm (by omega)) hW) (hFr.tr f1)
theorem m_step {F : Nat} (hF : 1000 ≤ F) {m : HT} {a : Nat → Nat} (k : WF1 a) (hR : RM m a) (hW : WM m a) : ∃ m', fX7_step F m = some ((), m') ∧ RM m' (stp a) ∧ WM m' (stp a) ∧ Fr1 m m' := by
  have h5 := k.1.2.1
  exact m_step_l hF k (2 * a 3) 0 F m (by omega) (by omega) hR hW ⟨rfl, fun _ _ _ => rfl⟩
