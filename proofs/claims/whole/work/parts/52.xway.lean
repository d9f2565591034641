-- ===== the class: states, ways =====
def gMk (a : Nat → Nat) (i : Nat) : Nat := a (6 + 8 * i) + 2 ^ 18 * a (7 + 8 * i)
def RX (x : HT) (j : Nat) (a : Nat → Nat) : Prop := x.1 (7 * j + 1) 0 = nI (a 0) ∧ x.1 (7 * j + 1) 1 = nI (a 1) ∧ x.1 (7 * j + 1) 2 = nI (a 2) ∧ x.1 (7 * j + 1) 3 = nI (a 3) ∧ (∀ l, l < 36 → x.1 (7 * j + 2) l = nI (a (44 + l))) ∧ (∀ i, i < a 3 → x.1 (7 * j + 3) i = nI (a (4 + 8 * i)) ∧ x.1 (7 * j + 4) i = nI (a (5 + 8 * i)) ∧ x.2 (7 * j + 5) i = lN (gMk a i)) ∧ (∀ w, w < 2 * a 3 → x.1 (7 * j + 6) w = nI (mvw a w) ∧ x.1 (7 * j + 7) w = nI (wtw a w))
theorem shr1_nI {w : Nat} (hw : w < 2147483648) : nI w >>> ((1 : Int32) &&& 31) = nI (w / 2) := shr_nI (j := 1) hw (by omega)
theorem shr2_nI {w : Nat} (hw : w < 2147483648) : nI w >>> ((2 : Int32) &&& 31) = nI (w / 4) := shr_nI (j := 2) hw (by omega)
theorem x_sourceOf {F j : Nat} {x : HT} {a : Nat → Nat} (h : RX x j a) (h5 : a 3 ≤ 5) {w : Nat} (hw : w < 2 * a 3) : fX2_sourceOf F j x (nI w) = some (nI (a (4 + 8 * (w / 2))), x) := by
  unfold fX2_sourceOf
  rw [shr1_nI (by omega), ckb (inb_nI (by omega) (by omega)), clamp_nI (by omega), (h.2.2.2.2.2.1 (w / 2) (by omega)).1]
theorem x_lengthOf {F j : Nat} {x : HT} {a : Nat → Nat} (h : RX x j a) (h5 : a 3 ≤ 5) {w : Nat} (hw : w < 2 * a 3) : fX2_lengthOf F j x (nI w) = some (nI (lnw a w), x) := by
  unfold fX2_lengthOf
  rw [shr1_nI (by omega), ckb (inb_nI (by omega) (by omega)), clamp_nI (by omega), (h.2.2.2.2.2.1 (w / 2) (by omega)).2.1, lnw]
theorem x_rises {F j : Nat} {x : HT} {w : Nat} (hw : w < 100) : fX2_rises F j x (nI w) = some (if w % 2 = 0 then 1 else 0, x) := by
  unfold fX2_rises
  rw [and1_nI (by omega), ite_e0 (by omega)]
  split <;> rfl
theorem x_worms {F j : Nat} {x : HT} {a : Nat → Nat} (h : RX x j a) : fX2_worms F j x = some (nI (2 * a 3), x) := by
  unfold fX2_worms
  rw [h.2.2.2.1, n2, pk_mul, Nat.mul_comm]
def gW (a : Nat → Nat) (w : Nat) : Nat := if w % 2 = 0 then gMk a (w / 2) &&& ((2 ^ a (4 + 8 * (w / 2)) - 1) ^^^ (2 ^ 64 - 1)) else gMk a (w / 2) &&& (2 ^ a (4 + 8 * (w / 2)) - 1)
theorem gMk_lt {a : Nat → Nat} {i : Nat} (h : okM a i) : gMk a i < 68719476736 := by
  obtain ⟨-, -, -, h1, h2, -⟩ := h
  unfold gMk
  omega
theorem gW_lt {a : Nat → Nat} {w : Nat} (h : okM a (w / 2)) : gW a w < 68719476736 := by
  have := gMk_lt h
  unfold gW
  split
  · exact Nat.lt_of_le_of_lt Nat.and_le_left this
  · exact Nat.lt_of_le_of_lt Nat.and_le_left this
theorem gW_tb {a : Nat → Nat} {w l : Nat} (hl : l < 64) : (gW a w).testBit l = (aG a (w / 2) l && (if w % 2 = 0 then decide (a (4 + 8 * (w / 2)) ≤ l) else decide (l < a (4 + 8 * (w / 2))))) := by
  unfold gW aG gMk
  by_cases e : w % 2 = 0
  · rw [if_pos e, if_pos e, Nat.testBit_and, Nat.testBit_xor, Nat.testBit_two_pow_sub_one, Nat.testBit_two_pow_sub_one]
    by_cases q : l < a (4 + 8 * (w / 2))
    · simp [q, hl]
    · simp [q, hl, Nat.not_lt.mp q]
  · rw [if_neg e, if_neg e, Nat.testBit_and, Nat.testBit_two_pow_sub_one]
theorem x_goalsOfWorm {F j : Nat} {x : HT} {a : Nat → Nat} (h : RX x j a) (k : WF0 a) {w : Nat} (hw : w < 2 * a 3) : fX2_goalsOfWorm F j x (nI w) = some (lN (gW a w), x) := by
  have h5 := k.2.1
  have h36 := okW_36 k.1
  have hM := k.2.2 (w / 2) (by omega)
  have hs := hM.1
  obtain ⟨-, -, e3⟩ := h.2.2.2.2.2.1 (w / 2) (by omega)
  unfold fX2_goalsOfWorm fX2_goalsOfWorm_35
  rw [bds (x_sourceOf h h5 hw), lts, show (1 : Int64) <<< ((nI (a (4 + 8 * (w / 2)))).toInt64 &&& 63) = lN (1 * 2 ^ a (4 + 8 * (w / 2))) from shl_lN 1 (by omega), Nat.one_mul, show (1 : Int64) = lN 1 from rfl, lN_sub (Nat.one_le_two_pow), shr1_nI (by omega), ckb (inb_nI (by omega) (by omega)), clamp_nI (by omega), e3, bds (x_rises (by omega)), gW]
  by_cases e : w % 2 = 0
  · rw [if_pos e, if_neg (by decide), if_pos e, show -lN 1 = lN (2 ^ 64 - 1) from rfl, xor_lN, and_lN]
  · rw [if_neg e, if_pos rfl, if_neg e, and_lN]
theorem bitL {n l : Nat} (hn : n < 68719476736) (hl : l < 64) : (lg_cmp ((lN n >>> ((nI l).toInt64 &&& 63)) &&& 1) 0 = 0) = (n.testBit l = false) := by
  have hd : n / 2 ^ l ≤ n := Nat.div_le_self _ _
  rw [shr_lN (by omega) hl, show (1 : Int64) = lN 1 from rfl, and_lN, Nat.and_one_is_mod]
  have h2 := tb_dm n l
  by_cases e : n / 2 ^ l % 2 = 1
  · rw [e]
    have e1 : n.testBit l = true := by rw [h2]; exact e
    rw [e1]
    simp only [eq_iff_iff]
    exact ⟨fun q => absurd q (by decide), fun q => by cases q⟩
  · have e0 : n / 2 ^ l % 2 = 0 := by omega
    rw [e0]
    have e1 : n.testBit l = false := by
      rw [Bool.eq_false_iff, Ne, h2]; exact e
    rw [e1]
    simp only [eq_iff_iff]
    exact ⟨fun _ => trivial, fun _ => by decide⟩
def FrW (x x' : HT) (w : Nat) : Prop := x'.2 = x.2 ∧ (∀ c q, c ≠ 64 → c ≠ 67 + w → c ≠ 77 + w → x'.1 c q = x.1 c q) ∧ ∀ q, q ≠ w → x'.1 64 q = x.1 64 q
theorem FrW.rf {x : HT} {w : Nat} : FrW x x w := ⟨rfl, fun _ _ _ _ _ => rfl, fun _ _ => rfl⟩
theorem FrW.tr {x y z : HT} {w : Nat} (h : FrW x y w) (g : FrW y z w) : FrW x z w := ⟨g.1.trans h.1, fun c q a b d => (g.2.1 c q a b d).trans (h.2.1 c q a b d), fun q hq => (g.2.2 q hq).trans (h.2.2 q hq)⟩
theorem frW_64 {x : HT} {w : Nat} {v : Int32} : FrW x (sI x 64 w v) w := ⟨rfl, fun c q a b d => by rw [sI_r, if_neg (by omega)], fun q hq => by rw [sI_r, if_neg (by omega)]⟩
theorem frW_67 {x : HT} {w p : Nat} {v : Int32} (hw : w < 10) : FrW x (sI x (67 + w) p v) w := ⟨rfl, fun c q a b d => by rw [sI_r, if_neg (by omega)], fun q hq => by rw [sI_r, if_neg (by omega)]⟩
theorem frW_77 {x : HT} {w p : Nat} {v : Int32} (hw : w < 10) : FrW x (sI x (77 + w) p v) w := ⟨rfl, fun c q a b d => by rw [sI_r, if_neg (by omega)], fun q hq => by rw [sI_r, if_neg (by omega)]⟩
theorem FrW.gx {x x' : HT} {w W H : Nat} (hw : w < 10) (h : FrW x x' w) (g : GX x W H) : GX x' W H := by
  obtain ⟨g0, g1, g2⟩ := g
  refine ⟨by rw [h.2.1 _ _ (by omega) (by omega) (by omega)]; exact g0, by rw [h.2.1 _ _ (by omega) (by omega) (by omega)]; exact g1, fun l hl => ?_⟩
  obtain ⟨a1, a2, a3⟩ := g2 l hl
  exact ⟨by rw [h.2.1 _ _ (by omega) (by omega) (by omega)]; exact a1, by rw [h.2.1 _ _ (by omega) (by omega) (by omega)]; exact a2, fun d hd => by rw [h.2.1 _ _ (by omega) (by omega) (by omega)]; exact a3 d hd⟩
theorem FrW.rx {x x' : HT} {w j : Nat} {a : Nat → Nat} (hw : w < 10) (hj : j < 8) (h : FrW x x' w) (r : RX x j a) : RX x' j a := by
  obtain ⟨r1, r2, r3, r4, r5, r6, r7⟩ := r
  refine ⟨?_, ?_, ?_, ?_, fun l hl => ?_, fun i hi => ?_, fun v hv => ?_⟩
  · rw [h.2.1 _ _ (by omega) (by omega) (by omega)]; exact r1
  · rw [h.2.1 _ _ (by omega) (by omega) (by omega)]; exact r2
  · rw [h.2.1 _ _ (by omega) (by omega) (by omega)]; exact r3
  · rw [h.2.1 _ _ (by omega) (by omega) (by omega)]; exact r4
  · rw [h.2.1 _ _ (by omega) (by omega) (by omega)]; exact r5 l hl
  · rw [h.2.1 _ _ (by omega) (by omega) (by omega), h.2.1 _ _ (by omega) (by omega) (by omega), h.1]; exact r6 i hi
  · rw [h.2.1 _ _ (by omega) (by omega) (by omega), h.2.1 _ _ (by omega) (by omega) (by omega)]; exact r7 v hv
/-- places and channels of a way -/
def CtX (x : HT) (W H w : Nat) (s : WY) : Prop := (∀ j, j ≤ s.2.1 → x.1 (67 + w) j = nI (s.2.2.1 j)) ∧ ∀ j, j < s.2.1 → x.1 (77 + w) j = nI (4 * s.2.2.1 j + dirOf W H (s.2.2.1 j) (s.2.2.1 (j + 1)))
theorem x_walk {F : Nat} (hF : 1000 ≤ F) {x0 : HT} {W H : Nat} (k : okW W H) {w n0 at0 goal : Nat} {P : Nat → Nat} (hw : w < 10) (hat : at0 < W * H) (hgo : goal < W * H) (hn : n0 + far W H at0 goal ≤ 35) (hP0 : P n0 = at0) :
    ∀ d t n x, t + d = far W H at0 goal → d < n → GX x W H → FrW x0 x w → (∀ j, j ≤ n0 → x.1 (67 + w) j = nI (P j)) → (∀ u, u ≤ t → x.1 (67 + w) (n0 + u) = nI (itr W H goal at0 u)) → (∀ j, j < n0 → x.1 (77 + w) j = nI (4 * P j + dirOf W H (P j) (P (j + 1)))) → (∀ u, u < t → x.1 (77 + w) (n0 + u) = nI (4 * itr W H goal at0 u + dirOf W H (itr W H goal at0 u) (itr W H goal at0 (u + 1)))) →
    ∃ x', fX5_layTo_8 F n x (nI w) (nI goal) (nI (n0 + t)) = some ((), x') ∧ FrW x0 x' w ∧ x'.1 64 w = nI (n0 + far W H at0 goal) ∧ (∀ j, j ≤ n0 → x'.1 (67 + w) j = nI (P j)) ∧ (∀ u, u ≤ far W H at0 goal → x'.1 (67 + w) (n0 + u) = nI (itr W H goal at0 u)) ∧ (∀ j, j < n0 → x'.1 (77 + w) j = nI (4 * P j + dirOf W H (P j) (P (j + 1)))) ∧ (∀ u, u < far W H at0 goal → x'.1 (77 + w) (n0 + u) = nI (4 * itr W H goal at0 u + dirOf W H (itr W H goal at0 u) (itr W H goal at0 (u + 1)))) := by
  have h36 := okW_36 k
  have hI : ∀ t, t ≤ far W H at0 goal → itr W H goal at0 t < W * H ∧ (t < far W H at0 goal → itr W H goal at0 t ≠ goal) := by
    intro t ht
    rcases Nat.le_total at0 goal with q | q
    · obtain ⟨u1, u2, u3, u4⟩ := itr_up k hat hgo q t ht
      exact ⟨by omega, fun h => by have := (u4 h).1; omega⟩
    · obtain ⟨u1, u2, u3, u4⟩ := itr_dn k hat hgo q t ht
      exact ⟨by omega, fun h => by have := (u4 h).1; omega⟩
  have hend := itr_far k hat hgo
  intro d
  induction d with
  | zero =>
    intro t n x ht hd hG hFr h6 h6' h7 h7'
    obtain ⟨n, rfl⟩ : ∃ n', n = n' + 1 := ⟨n - 1, by omega⟩
    have et : t = far W H at0 goal := by omega
    subst et
    have h89 : ∃ x', fX5_layTo_89 F x (nI w) (nI (n0 + far W H at0 goal)) = some ((), x') ∧ FrW x0 x' w ∧ x'.1 64 w = nI (n0 + far W H at0 goal) ∧ (∀ j, j ≤ n0 → x'.1 (67 + w) j = nI (P j)) ∧ (∀ u, u ≤ far W H at0 goal → x'.1 (67 + w) (n0 + u) = nI (itr W H goal at0 u)) ∧ (∀ j, j < n0 → x'.1 (77 + w) j = nI (4 * P j + dirOf W H (P j) (P (j + 1)))) ∧ (∀ u, u < far W H at0 goal → x'.1 (77 + w) (n0 + u) = nI (4 * itr W H goal at0 u + dirOf W H (itr W H goal at0 u) (itr W H goal at0 (u + 1)))) := by
      unfold fX5_layTo_89
      rw [ckb (inb_nI (by omega) (by omega)), clamp_nI (by omega), lts]
      refine ⟨_, rfl, hFr.tr frW_64, by rw [sI_r, if_pos ⟨rfl, rfl⟩], fun j hj => ?_, fun u hu => ?_, fun j hj => ?_, fun u hu => ?_⟩
      · rw [sI_r, if_neg (by omega)]; exact h6 j hj
      · rw [sI_r, if_neg (by omega)]; exact h6' u hu
      · rw [sI_r, if_neg (by omega)]; exact h7 j hj
      · rw [sI_r, if_neg (by omega)]; exact h7' u hu
    show ∃ x', fX5_layTo_8b F (fX5_layTo_8 F n) x _ _ _ = _ ∧ _
    unfold fX5_layTo_8b
    by_cases e : 36 ≤ n0 + far W H at0 goal + 1
    · rw [if_pos (by rw [nI_1, n36, le_nI (by omega) (by omega)]; exact e)]
      exact h89
    · rw [if_neg (by rw [nI_1, n36, le_nI (by omega) (by omega)]; exact e), ckb (inb_nI (by omega) (by omega)), ckb (inb_nI (by omega) (by omega)), clamp_nI (by omega), clamp_nI (by omega), h6' _ (Nat.le_refl _), hend, if_pos rfl]
      exact h89
  | succ d ih =>
    intro t n x ht hd hG hFr h6 h6' h7 h7'
    obtain ⟨n, rfl⟩ : ∃ n', n = n' + 1 := ⟨n - 1, by omega⟩
    obtain ⟨i1, i2⟩ := hI t (by omega)
    have i3 := i2 (by omega)
    have hx1 := (fin_nxt k i1 hgo i3).1
    show ∃ x', fX5_layTo_8b F (fX5_layTo_8 F n) x _ _ _ = _ ∧ _
    have hstep : fX5_layTo_8b F (fX5_layTo_8 F n) x (nI w) (nI goal) (nI (n0 + t)) = fX5_layTo_8 F n (sI (sI x (77 + w) (n0 + t) (nI (4 * itr W H goal at0 t + dirOf W H (itr W H goal at0 t) (itr W H goal at0 (t + 1))))) (67 + w) (n0 + (t + 1)) (nI (itr W H goal at0 (t + 1)))) (nI w) (nI goal) (nI (n0 + (t + 1))) := by
      unfold fX5_layTo_8b
      have hd4 : dirOf W H (itr W H goal at0 t) (nxt W H (itr W H goal at0 t) goal) < 4 := dirOf_lt
      rw [if_neg (by rw [nI_1, n36, le_nI (by omega) (by omega)]; omega), ckb (inb_nI (by omega) (by omega)), ckb (inb_nI (by omega) (by omega)), clamp_nI (by omega), clamp_nI (by omega), h6' t (Nat.le_refl _), if_neg (by rw [eq_nI (by omega) (by omega)]; exact i3), ckb (inb_nI (by omega) (by omega)), ckb (inb_nI (by omega) (by omega)), bds (x_channelTowards hF k hG i1 hgo i3), if_neg (m1_ne (by omega)), ckb (inb_nI (by omega) (by omega)), ckb (inb_nI (by omega) (by omega)), lts, ckb (inb_nI (by omega) (by omega)), bds (x_next k ((frW_77 hw).gx hw hG) i1 hgo i3), nI_1, ckb (inb_nI (by omega) (by omega)), clamp_nI (by omega), lts, lts]
      rfl
    rw [hstep]
    refine ih (t + 1) n _ (by omega) (by omega) ((frW_67 hw).gx hw ((frW_77 hw).gx hw hG)) ((hFr.tr (frW_77 hw)).tr (frW_67 hw)) (fun j hj => ?_) (fun u hu => ?_) (fun j hj => ?_) (fun u hu => ?_)
    · rw [sI_r, if_neg (by omega), sI_r, if_neg (by omega)]; exact h6 j hj
    · rw [sI_r]
      by_cases e : u = t + 1
      · subst e; rw [if_pos ⟨rfl, rfl⟩]
      · rw [if_neg (by omega), sI_r, if_neg (by omega)]; exact h6' u (by omega)
    · rw [sI_r, if_neg (by omega), sI_r, if_neg (by omega)]; exact h7 j hj
    · rw [sI_r, if_neg (by omega), sI_r]
      by_cases e : u = t
      · subst e; rw [if_pos ⟨rfl, rfl⟩]
      · rw [if_neg (by omega)]; exact h7' u (by omega)
theorem x_layTo {F : Nat} (hF : 1000 ≤ F) {x : HT} {W H : Nat} (k : okW W H) {w goal : Nat} {q : WY} (hw : w < 10) (hG : GX x W H) (hq : q.1 = q.2.2.1 q.2.1) (hat : q.1 < W * H) (hgo : goal < W * H) (hn : q.2.1 + far W H q.1 goal ≤ 35) (h64 : x.1 64 w = nI q.2.1) (hC : CtX x W H w q) :
    ∃ x', fX5_layTo F x (nI w) (nI goal) = some ((), x') ∧ FrW x x' w ∧ x'.1 64 w = nI (q.2.1 + far W H q.1 goal) ∧ ∀ c G, CtX x' W H w (goal, q.2.1 + far W H q.1 goal, (fun j => if j ≤ q.2.1 then q.2.2.1 j else itr W H goal q.1 (j - q.2.1)), c, G) := by
  obtain ⟨x', e1, f1, s1, p1, p2, p3, p4⟩ := x_walk hF (x0 := x) k (w := w) (n0 := q.2.1) (at0 := q.1) (goal := goal) (P := q.2.2.1) hw hat hgo hn hq.symm (far W H q.1 goal) 0 F x (by omega) (by omega) hG FrW.rf hC.1 (fun u hu => by
    have e0 : u = 0 := by omega
    subst e0
    rw [Nat.add_zero, hC.1 _ (Nat.le_refl _), ← hq]
    rfl) hC.2 (fun u hu => absurd hu (Nat.not_lt_zero u))
  unfold fX5_layTo
  rw [ckb (inb_nI (by omega) (by omega)), clamp_nI (by omega), h64, lts]
  have hP : ∀ j, q.2.1 ≤ j → (if j ≤ q.2.1 then q.2.2.1 j else itr W H goal q.1 (j - q.2.1)) = itr W H goal q.1 (j - q.2.1) := by
    intro j hj
    by_cases e : j ≤ q.2.1
    · have e2 : j = q.2.1 := by omega
      rw [if_pos e, e2, Nat.sub_self, ← hq]
      rfl
    · rw [if_neg e]
  refine ⟨x', e1, f1, s1, fun c G => ⟨fun j hj => ?_, fun j hj => ?_⟩⟩
  · dsimp only at hj ⊢
    by_cases e : j ≤ q.2.1
    · rw [if_pos e]; exact p1 j e
    · rw [if_neg e, ← p2 (j - q.2.1) (by omega), show q.2.1 + (j - q.2.1) = j by omega]
  · dsimp only at hj ⊢
    by_cases e : j < q.2.1
    · rw [if_pos (by omega), if_pos (by omega)]; exact p3 j e
    · rw [hP j (by omega), hP (j + 1) (by omega), show j + 1 - q.2.1 = (j - q.2.1) + 1 by omega, ← p4 (j - q.2.1) (by omega), show q.2.1 + (j - q.2.1) = j by omega]
theorem lbI_outX {N src side : Nat} (hN : N < 2147483648) (hs : src < N) (hside : side < 2) : ¬ ∃ l, l < N ∧ lbI src side (tot N src side + 1) = nI l := by
  rintro ⟨l, hl, e⟩
  rcases (show side = 0 ∨ side = 1 by omega) with rfl | rfl
  · simp only [lbI, tot, if_true] at e
    rw [eq_nI (by omega) (by omega)] at e
    omega
  · simp only [lbI, tot, show ¬ (1 : Nat) = 0 by decide, if_false] at e
    rw [if_neg (by omega)] at e
    exact m1_ne' (by omega) e
theorem lbI_end0 {N src : Nat} (hs : src < N) : lbI src 0 (tot N src 0 + 1) = nI N := by
  simp only [lbI, tot, if_true]
  rw [show src + (N - 1 - src + 1) = N by omega]
theorem lbI_end1 {N src : Nat} : lbI src 1 (tot N src 1 + 1) = -1 := by
  simp only [lbI, tot, show ¬ (1 : Nat) = 0 by decide, if_false]
  rw [if_neg (by omega)]
/-- behind the last place no bit is set: the loop goes on to 36 and lays nothing -/
theorem x_scan_up {F j : Nat} {x : HT} {w gw N : Nat} (hg : gw < 68719476736) (hN : ∀ l, N ≤ l → l < 36 → gw.testBit l = false) : ∀ d l n, l + d = 36 → N ≤ l → d < n → fX5_lay_52 F j n x (nI w) (lN gw) 1 (nI l) = some ((), x) := by
  intro d
  induction d with
  | zero =>
    intro l n hl hNl hd
    obtain ⟨n, rfl⟩ : ∃ n', n = n' + 1 := ⟨n - 1, by omega⟩
    show fX5_lay_52b F (fX5_lay_52 F j n) j x _ _ _ _ = _
    unfold fX5_lay_52b
    rw [if_neg (nI_pos (by omega)), if_pos (by rw [n36, le_nI (by omega) (by omega)]; omega)]
  | succ d ih =>
    intro l n hl hNl hd
    obtain ⟨n, rfl⟩ : ∃ n', n = n' + 1 := ⟨n - 1, by omega⟩
    show fX5_lay_52b F (fX5_lay_52 F j n) j x _ _ _ _ = _
    unfold fX5_lay_52b fX5_lay_84
    rw [if_neg (nI_pos (by omega)), if_neg (by rw [n36, le_nI (by omega) (by omega)]; omega), if_pos (by rw [bitL hg (by omega)]; exact hN l hNl (by omega)), lts, nI_1]
    exact ih (l + 1) n (by omega) (by omega) (by omega)
theorem x_scan {F : Nat} (hF : 1000 ≤ F) {x0 : HT} {a : Nat → Nat} (k : WF0 a) {w j : Nat} (hw : w < 2 * a 3) :
    ∀ d t n x, t + d = tot (a 0 * a 1) (a (4 + 8 * (w / 2))) (w % 2) → d + 40 < n → GX x (a 0) (a 1) → FrW x0 x w → x.1 64 w = nI (scan (a 0) (a 1) (aG a (w / 2)) (a (4 + 8 * (w / 2))) (w % 2) t).2.1 → CtX x (a 0) (a 1) w (scan (a 0) (a 1) (aG a (w / 2)) (a (4 + 8 * (w / 2))) (w % 2) t) →
    ∃ x', fX5_lay_52 F j n x (nI w) (lN (gW a w)) (stI (w % 2)) (lbI (a (4 + 8 * (w / 2))) (w % 2) (t + 1)) = some ((), x') ∧ FrW x0 x' w ∧ GX x' (a 0) (a 1) ∧ x'.1 64 w = nI (wN a w) ∧ CtX x' (a 0) (a 1) w (wy a w) := by
  have h5 := k.2.1
  have h36 := okW_36 k.1
  have hM := k.2.2 (w / 2) (by omega)
  have hs := hM.1
  have hgl := gW_lt (w := w) hM
  have hside : w % 2 < 2 := Nat.mod_lt _ (by omega)
  have hT : tot (a 0 * a 1) (a (4 + 8 * (w / 2))) (w % 2) ≤ 35 := by unfold tot; split <;> omega
  intro d
  induction d with
  | zero =>
    intro t n x ht hd hG hFr h64 hC
    obtain ⟨n, rfl⟩ : ∃ n', n = n' + 1 := ⟨n - 1, by omega⟩
    have et : t = tot (a 0 * a 1) (a (4 + 8 * (w / 2))) (w % 2) := by omega
    subst et
    have hbz : ∀ l, a 0 * a 1 ≤ l → l < 36 → (gW a w).testBit l = false := fun l h1 h2 => by
      rw [gW_tb (by omega), show aG a (w / 2) l = false from Bool.eq_false_iff.mpr (fun q => by have := (hM.2.2.2.2.2 l q).1; omega), Bool.false_and]
    have hz : fX5_lay_52 F j (n + 1) x (nI w) (lN (gW a w)) (stI (w % 2)) (lbI (a (4 + 8 * (w / 2))) (w % 2) (tot (a 0 * a 1) (a (4 + 8 * (w / 2))) (w % 2) + 1)) = some ((), x) := by
      by_cases e : w % 2 = 0
      · rw [e, lbI_end0 hs, show stI 0 = 1 from rfl]
        exact x_scan_up hgl hbz (36 - a 0 * a 1) _ (n + 1) (by omega) (Nat.le_refl _) (by omega)
      · have e1 : w % 2 = 1 := by omega
        rw [e1, lbI_end1]
        show fX5_lay_52b F (fX5_lay_52 F j n) j x _ _ _ _ = _
        unfold fX5_lay_52b
        rw [if_pos (by decide)]
    exact ⟨x, hz, hFr, hG, h64, hC⟩
  | succ d ih =>
    intro t n x ht hd hG hFr h64 hC
    obtain ⟨n, rfl⟩ : ∃ n', n = n' + 1 := ⟨n - 1, by omega⟩
    obtain ⟨hl1, hl2⟩ := lbI_in hs hside (k := t + 1) (by omega)
    have hnext := lbI_next hs hside (k := t + 1) (by omega)
    have hok := scan_ok (g := aG a (w / 2)) k.1 hs hside (t := t) (by omega)
    have hok' := scan_ok (g := aG a (w / 2)) k.1 hs hside (t := t + 1) (by omega)
    have hsc : scan (a 0) (a 1) (aG a (w / 2)) (a (4 + 8 * (w / 2))) (w % 2) (t + 1) = sc1 (a 0) (a 1) (aG a (w / 2)) (lbN (a (4 + 8 * (w / 2))) (w % 2) (t + 1)) (scan (a 0) (a 1) (aG a (w / 2)) (a (4 + 8 * (w / 2))) (w % 2) t) := rfl
    have hbit : (gW a w).testBit (lbN (a (4 + 8 * (w / 2))) (w % 2) (t + 1)) = aG a (w / 2) (lbN (a (4 + 8 * (w / 2))) (w % 2) (t + 1)) := by
      rw [gW_tb (by omega)]
      unfold lbN tot at *
      by_cases e : w % 2 = 0
      · rw [if_pos e, if_pos e]; simp
      · rw [if_neg e, if_neg e]
        rw [if_neg e] at ht
        have : a (4 + 8 * (w / 2)) - (t + 1) < a (4 + 8 * (w / 2)) := by omega
        simp [this]
    show ∃ x', fX5_lay_52b F (fX5_lay_52 F j n) j x _ _ _ _ = _ ∧ _
    unfold fX5_lay_52b fX5_lay_84
    rw [hl1, if_neg (nI_pos (by omega)), if_neg (by rw [n36, le_nI (by omega) (by omega)]; omega)]
    by_cases hg : aG a (w / 2) (lbN (a (4 + 8 * (w / 2))) (w % 2) (t + 1)) = true
    · rw [if_neg (by rw [bitL hgl (by omega), hbit, hg]; decide)]
      rw [sc1, if_pos hg] at hsc
      obtain ⟨hn1, hat⟩ := okY_n hok
      obtain ⟨hn2, -⟩ := okY_n hok'
      have hP := hok.1
      rw [hsc] at hn2
      dsimp only at hn2
      generalize hq : scan (a 0) (a 1) (aG a (w / 2)) (a (4 + 8 * (w / 2))) (w % 2) t = q at *
      obtain ⟨x1, e1, f1, s1, c1⟩ := x_layTo hF k.1 (w := w) (goal := lbN (a (4 + 8 * (w / 2))) (w % 2) (t + 1)) (q := q) (by omega) hG hP hat hl2 (by omega) h64 hC
      rw [bds e1, lts, ← hl1, hnext]
      have := ih (t + 1) n x1 (by omega) (by omega) (f1.gx (by omega) hG) (hFr.tr f1) (by rw [hsc]; exact s1) (by rw [hsc]; exact c1 _ _)
      exact this
    · rw [if_pos (by rw [bitL hgl (by omega), hbit]; exact Bool.eq_false_iff.mpr hg)]
      rw [sc1, if_neg hg] at hsc
      rw [lts, ← hl1, hnext]
      exact ih (t + 1) n x (by omega) (by omega) hG hFr (by rw [hsc]; exact h64) (by rw [hsc]; exact hC)
theorem x_layW {F : Nat} (hF : 1000 ≤ F) {x : HT} {a : Nat → Nat} (k : WF0 a) {w j : Nat} (hj : j < 8) (hw : w < 2 * a 3) (hR : RX x j a) (hG : GX x (a 0) (a 1)) :
    ∃ x', fX5_lay F j x (nI w) = some ((), x') ∧ FrW x x' w ∧ x'.1 64 w = nI (wN a w) ∧ CtX x' (a 0) (a 1) w (wy a w) := by
  have h5 := k.2.1
  have h36 := okW_36 k.1
  have hM := k.2.2 (w / 2) (by omega)
  have hs := hM.1
  have hside : w % 2 < 2 := Nat.mod_lt _ (by omega)
  have hT : tot (a 0 * a 1) (a (4 + 8 * (w / 2))) (w % 2) ≤ 35 := by unfold tot; split <;> omega
  have main : ∃ x', fX5_lay_20 F j x (nI w) (lN (gW a w)) (stI (w % 2)) = some ((), x') ∧ FrW x x' w ∧ x'.1 64 w = nI (wN a w) ∧ CtX x' (a 0) (a 1) w (wy a w) := by
    unfold fX5_lay_20
    have f1 : FrW x (sI x 64 w 0) w := frW_64
    have f2 : FrW x (sI (sI x 64 w 0) (67 + w) 0 (nI (a (4 + 8 * (w / 2))))) w := f1.tr (frW_67 (by omega))
    rw [ckb (inb_nI (by omega) (by omega)), clamp_nI (by omega), lts, ckb (inb_nI (by omega) (by omega)), bds (x_sourceOf (f1.rx (by omega) hj hR) h5 hw), ckb (by decide), c0, lts, bds (x_sourceOf (f2.rx (by omega) hj hR) h5 hw), lts]
    have hst : nI (a (4 + 8 * (w / 2))) + stI (w % 2) = lbI (a (4 + 8 * (w / 2))) (w % 2) (0 + 1) := by
      have := lbI_next (k := 0) hs hside (by omega)
      rw [← this]
      have h0 := (lbI_in (k := 0) hs hside (by omega)).1
      rw [h0, lbN]
      split <;> rfl
    rw [hst]
    obtain ⟨x', e1, e2, -, e3, e4⟩ := x_scan hF (x0 := x) k (w := w) (j := j) hw (tot (a 0 * a 1) (a (4 + 8 * (w / 2))) (w % 2)) 0 F _ (by omega) (by omega) (f2.gx (by omega) hG) f2 (by rw [sI_r, if_neg (by omega), sI_r, if_pos ⟨rfl, rfl⟩]; rfl) ⟨fun i hi => by
      have e0 : i = 0 := Nat.le_zero.mp hi
      subst e0
      rw [sI_r, if_pos ⟨rfl, rfl⟩]
      rfl, fun i hi => absurd hi (Nat.not_lt_zero i)⟩
    exact ⟨x', e1, e2, e3, e4⟩
  unfold fX5_lay
  rw [bds (x_goalsOfWorm hR k hw), bds (x_rises (by omega))]
  by_cases e : w % 2 = 0
  · rw [if_pos e, if_neg (by decide)]
    rw [e] at main
    exact main
  · have e1 : w % 2 = 1 := by omega
    rw [if_neg e, if_pos rfl]
    rw [e1] at main
    exact main
