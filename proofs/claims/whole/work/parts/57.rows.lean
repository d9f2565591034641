-- ===== what is told in keeps rows well =====
def WF2 (a : Nat → Nat) : Prop := WF1 a ∧ EX a
theorem wy_cg {a b : Nat → Nat} {w : Nat} (h0 : b 0 = a 0) (h1 : b 1 = a 1) (h4 : b (4 + 8 * (w / 2)) = a (4 + 8 * (w / 2))) (h6 : b (6 + 8 * (w / 2)) = a (6 + 8 * (w / 2))) (h7 : b (7 + 8 * (w / 2)) = a (7 + 8 * (w / 2))) : wy b w = wy a w := by
  have e : aG b (w / 2) = aG a (w / 2) := by funext l; unfold aG; rw [h6, h7]
  unfold wy
  rw [h0, h1, h4, e]
theorem hld_0 {b : Nat → Nat} {w : Nat} (h : mvw b w = 0) (c : Nat) : hldK b w c = false := by
  rw [Bool.eq_false_iff, Ne, hldK_iff]
  rintro ⟨q, -, h2, -⟩
  unfold hHead at h2
  rw [h] at h2
  split at h2 <;> omega
theorem hld_y {a b : Nat → Nat} {w : Nat} (h0 : b 0 = a 0) (h1 : b 1 = a 1) (hy : wy b w = wy a w) (hm : mvw b w = mvw a w) (hl : lnw b w = lnw a w) (c : Nat) : hldK b w c = hldK a w c := by
  have en : wN b w = wN a w := by unfold wN; rw [hy]
  have ep : ∀ j, wP b w j = wP a w j := fun j => by unfold wP; rw [hy]
  have ec : ∀ j, chn b w j = chn a w j := fun j => by unfold chn; rw [h0, h1, ep, ep]
  have eh : hHead b w = hHead a w := by unfold hHead; rw [hm, en]
  have et : hTail b w = hTail a w := by unfold hTail; rw [hm, hl]
  unfold hldK
  rw [eh, et]
  exact anyK_cg (fun k => by rw [ec]) _
theorem EX_of {a b : Nat → Nat} (hx : EX a) (h : ∀ w, w < 2 * b 3 → mvw b w = 0 ∨ (w < 2 * a 3 ∧ ∀ c, hldK b w c = hldK a w c)) : EX b := by
  intro w v c h1 h2 h3 h4
  rcases h w h1 with e | ⟨e1, e2⟩
  · rw [hld_0 e] at h4; cases h4
  · rcases h v h2 with e | ⟨e3, e4⟩
    · exact hld_0 e c
    · rw [e4]; rw [e2] at h4; exact hx w v c e1 e3 h3 h4
theorem rMesh_ok {W H : Nat} (k : okW W H) : WF2 (rMesh W H) := by
  have e3 : rMesh W H 3 = 0 := rfl
  refine ⟨⟨⟨k, by rw [e3]; omega, fun i hi => by rw [e3] at hi; omega⟩, fun w hw => by rw [e3] at hw; omega, fun l hl => ?_⟩, fun w v c h1 => by rw [e3] at h1; omega⟩
  have e : rMesh W H (44 + l) = 0 := by unfold rMesh; rw [if_neg (by omega), if_neg (by omega)]
  refine ⟨by omega, fun d hd => ?_⟩
  unfold dnB at hd
  rw [e, Nat.zero_testBit] at hd
  cases hd
theorem rMsg_lo {a : Nat → Nat} {lb l k : Nat} (h3 : k ≠ 3) (h : k < 4 + 8 * a 3 ∨ 12 + 8 * a 3 ≤ k) : rMsg a lb l k = a k := by
  unfold rMsg
  rw [if_neg h3, if_neg (by omega)]
theorem rMsg_3 {a : Nat → Nat} {lb l : Nat} : rMsg a lb l 3 = a 3 + 1 := by unfold rMsg; rw [if_pos rfl]
theorem rMsg_n {a : Nat → Nat} {lb l j : Nat} (hj : j < 8) : rMsg a lb l (4 + 8 * a 3 + j) = if j = 0 then lb else if j = 1 then l else 0 := by
  unfold rMsg
  rw [if_neg (by omega), if_pos (by omega)]
  by_cases e0 : j = 0
  · rw [if_pos (by omega), if_pos e0]
  · rw [if_neg (by omega), if_neg e0]
    by_cases e1 : j = 1
    · rw [if_pos (by omega), if_pos e1]
    · rw [if_neg (by omega), if_neg e1]
theorem rMsg_ok {a : Nat → Nat} (k : WF2 a) (h5 : a 3 < 5) {lb l : Nat} (hlb : lb < a 0 * a 1) (h1 : 1 ≤ l) (h9 : l ≤ 9) : WF2 (rMsg a lb l) := by
  obtain ⟨⟨⟨k1, k2, k3⟩, k4, k5⟩, k6⟩ := k
  have e0 : rMsg a lb l 0 = a 0 := rMsg_lo (by omega) (by omega)
  have e1 : rMsg a lb l 1 = a 1 := rMsg_lo (by omega) (by omega)
  have e3 : rMsg a lb l 3 = a 3 + 1 := rMsg_3
  have eo : ∀ i, i < a 3 → ∀ j, j < 8 → rMsg a lb l (4 + 8 * i + j) = a (4 + 8 * i + j) := fun i hi j hj => rMsg_lo (by omega) (by omega)
  have eg : ∀ i, i < a 3 → aG (rMsg a lb l) i = aG a i := fun i hi => by
    funext q; unfold aG
    rw [show 6 + 8 * i = 4 + 8 * i + 2 by omega, show 7 + 8 * i = 4 + 8 * i + 3 by omega, eo i hi 2 (by omega), eo i hi 3 (by omega)]
  have gn : ∀ q, aG (rMsg a lb l) (a 3) q = false := fun q => by
    unfold aG
    rw [show 6 + 8 * a 3 = 4 + 8 * a 3 + 2 by omega, show 7 + 8 * a 3 = 4 + 8 * a 3 + 3 by omega, rMsg_n (by omega), rMsg_n (by omega)]
    exact Nat.zero_testBit q
  have ey : ∀ w, w < 2 * a 3 → wy (rMsg a lb l) w = wy a w := fun w hw => by
    have hi : w / 2 < a 3 := by omega
    exact wy_cg e0 e1 (eo _ hi 0 (by omega)) (by rw [show 6 + 8 * (w / 2) = 4 + 8 * (w / 2) + 2 by omega]; exact eo _ hi 2 (by omega)) (by rw [show 7 + 8 * (w / 2) = 4 + 8 * (w / 2) + 3 by omega]; exact eo _ hi 3 (by omega))
  have em : ∀ w, w < 2 * a 3 → mvw (rMsg a lb l) w = mvw a w := fun w hw => by
    unfold mvw
    rw [show 8 + 8 * (w / 2) + w % 2 = 4 + 8 * (w / 2) + (4 + w % 2) by omega]; exact eo _ (by omega) _ (by omega)
  have el : ∀ w, w < 2 * a 3 → lnw (rMsg a lb l) w = lnw a w := fun w hw => by
    unfold lnw
    rw [show 5 + 8 * (w / 2) = 4 + 8 * (w / 2) + 1 by omega]; exact eo _ (by omega) _ (by omega)
  have em0 : ∀ w, w / 2 = a 3 → mvw (rMsg a lb l) w = 0 := fun w hw => by
    unfold mvw
    rw [hw, show 8 + 8 * a 3 + w % 2 = 4 + 8 * a 3 + (4 + w % 2) by omega, rMsg_n (by omega), if_neg (by omega), if_neg (by omega)]
  refine ⟨⟨⟨by rw [e0, e1]; exact k1, by omega, fun i hi => ?_⟩, fun w hw => ?_, fun q hq => ?_⟩, EX_of k6 (fun w hw => ?_)⟩
  · unfold okM
    rw [show 5 + 8 * i = 4 + 8 * i + 1 by omega, show 6 + 8 * i = 4 + 8 * i + 2 by omega, show 7 + 8 * i = 4 + 8 * i + 3 by omega, e0, e1]
    by_cases e : i = a 3
    · subst e
      rw [rMsg_n (j := 1) (by omega), rMsg_n (j := 2) (by omega), rMsg_n (j := 3) (by omega), show rMsg a lb l (4 + 8 * a 3) = lb from rMsg_n (j := 0) (by omega)]
      refine ⟨hlb, h1, h9, by rw [if_neg (by omega), if_neg (by omega)]; omega, by rw [if_neg (by omega), if_neg (by omega)]; omega, fun q hq => ?_⟩
      rw [gn] at hq
      cases hq
    · have hi' : i < a 3 := by omega
      rw [eo i hi' 1 (by omega), eo i hi' 2 (by omega), eo i hi' 3 (by omega), show rMsg a lb l (4 + 8 * i) = a (4 + 8 * i) from eo i hi' 0 (by omega), eg i hi']
      have q3 := k3 i hi'
      unfold okM at q3
      rw [show 5 + 8 * i = 4 + 8 * i + 1 by omega, show 6 + 8 * i = 4 + 8 * i + 2 by omega, show 7 + 8 * i = 4 + 8 * i + 3 by omega] at q3
      exact q3
  · unfold okV
    by_cases e : w / 2 = a 3
    · rw [em0 w e]; exact ⟨by omega, fun _ => rfl⟩
    · have hw' : w < 2 * a 3 := by omega
      have := k4 w hw'
      unfold okV at this
      unfold wN at this ⊢
      rw [ey w hw', em w hw', el w hw']
      exact this
  · have := k5 q hq
    unfold dnB at this ⊢
    rw [e0, e1, rMsg_lo (by omega) (by omega)]
    exact this
  · by_cases e : w / 2 = a 3
    · exact Or.inl (em0 w e)
    · have hw' : w < 2 * a 3 := by omega
      exact Or.inr ⟨hw', hld_y e0 e1 (ey w hw') (em w hw') (el w hw')⟩
theorem rGoal_r {a : Nat → Nat} {i lb k : Nat} (hlb : lb < 36) (h : k ≠ 6 + 8 * i) (h' : k ≠ 7 + 8 * i) : rGoal a i lb k = a k := by
  unfold rGoal upN
  rw [if_neg (by omega)]
theorem rGoal_g {a : Nat → Nat} {i lb : Nat} (hlb : lb < 36) (hlo : a (6 + 8 * i) < 262144) (hhi : a (7 + 8 * i) < 262144) (l : Nat) : aG (rGoal a i lb) i l = (aG a i l ^^ decide (l = lb)) := by
  have hb := rGoal_b (i := i) hlo hhi hlb
  rw [aG_lo hb.1, aG_lo hlo]
  rcases (show lb / 18 = 0 ∨ lb / 18 = 1 by omega) with e | e
  · have v6 : rGoal a i lb (6 + 8 * i) = a (6 + 8 * i) ^^^ 2 ^ lb := by unfold rGoal upN; rw [e, Nat.add_zero, if_pos rfl, show lb % 18 = lb by omega]
    have v7 : rGoal a i lb (7 + 8 * i) = a (7 + 8 * i) := by unfold rGoal upN; rw [if_neg (by omega)]
    rw [v6, v7]
    by_cases c : l < 18
    · rw [if_pos c, if_pos c, flip_tb]
    · rw [if_neg c, if_neg c]
      simp [show ¬ l = lb by omega]
  · have v6 : rGoal a i lb (6 + 8 * i) = a (6 + 8 * i) := by unfold rGoal upN; rw [if_neg (by omega)]
    have v7 : rGoal a i lb (7 + 8 * i) = a (7 + 8 * i) ^^^ 2 ^ (lb % 18) := by unfold rGoal upN; rw [e, if_pos (by omega), show 6 + 8 * i + 1 = 7 + 8 * i by omega]
    rw [v6, v7]
    by_cases c : l < 18
    · rw [if_pos c, if_pos c]
      simp [show ¬ l = lb by omega]
    · rw [if_neg c, if_neg c, flip_tb, show decide (l - 18 = lb % 18) = decide (l = lb) from decide_eq_decide.mpr (by omega)]
theorem rGoal_M {a : Nat → Nat} {i lb : Nat} (hlb : lb < 36) (hlo : a (6 + 8 * i) < 262144) (hhi : a (7 + 8 * i) < 262144) : gMk (rGoal a i lb) i = gMk a i ^^^ 2 ^ lb := by
  apply Nat.eq_of_testBit_eq
  intro l
  have := rGoal_g hlb hlo hhi l
  unfold aG at this
  unfold gMk
  rw [this, flip_tb]
theorem rGoal_ok {a : Nat → Nat} (k : WF2 a) {i lb : Nat} (hi : i < a 3) (hlb : lb < a 0 * a 1) (hne : lb ≠ a (4 + 8 * i)) (hmv : ¬ (0 < mvw a (2 * i) ∨ 0 < mvw a (2 * i + 1))) : WF2 (rGoal a i lb) := by
  obtain ⟨⟨⟨k1, k2, k3⟩, k4, k5⟩, k6⟩ := k
  have h36 := okW_36 k1
  have hlb36 : lb < 36 := by omega
  have rr := fun k h h' => rGoal_r (a := a) (i := i) (lb := lb) (k := k) hlb36 h h'
  have e0 : rGoal a i lb 0 = a 0 := rr _ (by omega) (by omega)
  have e1 : rGoal a i lb 1 = a 1 := rr _ (by omega) (by omega)
  have e3 : rGoal a i lb 3 = a 3 := rr _ (by omega) (by omega)
  have hMi := k3 i hi
  have hb := rGoal_b (i := i) hMi.2.2.2.1 hMi.2.2.2.2.1 hlb36
  have em : ∀ w, mvw (rGoal a i lb) w = mvw a w := fun w => by unfold mvw; exact rr _ (by omega) (by omega)
  have el : ∀ w, lnw (rGoal a i lb) w = lnw a w := fun w => by unfold lnw; exact rr _ (by omega) (by omega)
  have ey : ∀ w, w / 2 ≠ i → wy (rGoal a i lb) w = wy a w := fun w hw => wy_cg e0 e1 (rr _ (by omega) (by omega)) (rr _ (by omega) (by omega)) (rr _ (by omega) (by omega))
  have m0 : ∀ w, w / 2 = i → mvw a w = 0 := fun w hw => by
    rcases (show w = 2 * i ∨ w = 2 * i + 1 by omega) with rfl | rfl <;> omega
  refine ⟨⟨⟨by rw [e0, e1]; exact k1, by rw [e3]; exact k2, fun q hq => ?_⟩, fun w hw => ?_, fun q hq => ?_⟩, EX_of k6 (fun w hw => ?_)⟩
  · rw [e3] at hq
    have hq' := k3 q hq
    unfold okM at hq' ⊢
    rw [e0, e1, rr (4 + 8 * q) (by omega) (by omega), rr (5 + 8 * q) (by omega) (by omega)]
    by_cases e : q = i
    · subst e
      refine ⟨hq'.1, hq'.2.1, hq'.2.2.1, hb.1, hb.2, fun l hl => ?_⟩
      rw [rGoal_g hlb36 hMi.2.2.2.1 hMi.2.2.2.2.1] at hl
      by_cases c : l = lb
      · rw [c]; exact ⟨hlb, hne⟩
      · have : aG a q l = true := by simpa [c] using hl
        exact hq'.2.2.2.2.2 l this
    · rw [rr (6 + 8 * q) (by omega) (by omega), rr (7 + 8 * q) (by omega) (by omega), show aG (rGoal a i lb) q = aG a q by funext l; unfold aG; rw [rr (6 + 8 * q) (by omega) (by omega), rr (7 + 8 * q) (by omega) (by omega)]]
      exact hq'
  · rw [e3] at hw
    have hk := k4 w hw
    unfold okV at hk ⊢
    rw [em, el]
    by_cases e : w / 2 = i
    · rw [m0 w e]; exact ⟨by omega, fun _ => rfl⟩
    · unfold wN at hk ⊢
      rw [ey w e]
      exact hk
  · have := k5 q hq
    unfold dnB at this ⊢
    rw [e0, e1, rr _ (by omega) (by omega)]
    exact this
  · rw [e3] at hw
    by_cases e : w / 2 = i
    · exact Or.inl (by rw [em]; exact m0 w e)
    · exact Or.inr ⟨hw, hld_y e0 e1 (ey w e) (em w) (el w)⟩
theorem rTurn_r {a : Nat → Nat} {lb d k : Nat} (h : k < 44) : rTurn a lb d k = a k := by
  unfold rTurn upN
  rw [if_neg (by omega)]
theorem rTurn_ok {a : Nat → Nat} (k : WF2 a) {lb d : Nat} (hl : lb < a 0 * a 1) (hd : d < 4) (hb : bes (a 0) (a 1) lb d ≠ 99) : WF2 (rTurn a lb d) := by
  obtain ⟨⟨⟨k1, k2, k3⟩, k4, k5⟩, k6⟩ := k
  have h36 := okW_36 k1
  have rr := fun k h => rTurn_r (a := a) (lb := lb) (d := d) (k := k) h
  have e0 : rTurn a lb d 0 = a 0 := rr _ (by omega)
  have e1 : rTurn a lb d 1 = a 1 := rr _ (by omega)
  have e3 : rTurn a lb d 3 = a 3 := rr _ (by omega)
  have em : ∀ w, w < 10 → mvw (rTurn a lb d) w = mvw a w := fun w hw => by unfold mvw; exact rr _ (by omega)
  have el : ∀ w, w < 10 → lnw (rTurn a lb d) w = lnw a w := fun w hw => by unfold lnw; exact rr _ (by omega)
  have ey : ∀ w, w < 10 → wy (rTurn a lb d) w = wy a w := fun w hw => wy_cg e0 e1 (rr _ (by omega)) (rr _ (by omega)) (rr _ (by omega))
  refine ⟨⟨⟨by rw [e0, e1]; exact k1, by rw [e3]; exact k2, fun q hq => ?_⟩, fun w hw => ?_, rTurn_D k5 hl (by omega) hd hb⟩, EX_of k6 (fun w hw => ?_)⟩
  · rw [e3] at hq
    have hq' := k3 q hq
    unfold okM at hq' ⊢
    rw [e0, e1, rr (4 + 8 * q) (by omega), rr (5 + 8 * q) (by omega), rr (6 + 8 * q) (by omega), rr (7 + 8 * q) (by omega), show aG (rTurn a lb d) q = aG a q by funext l; unfold aG; rw [rr (6 + 8 * q) (by omega), rr (7 + 8 * q) (by omega)]]
    exact hq'
  · rw [e3] at hw
    have hk := k4 w hw
    unfold okV at hk ⊢
    unfold wN at hk ⊢
    rw [em w (by omega), el w (by omega), ey w (by omega)]
    exact hk
  · rw [e3] at hw
    exact Or.inr ⟨hw, hld_y e0 e1 (ey w (by omega)) (em w (by omega)) (el w (by omega))⟩
theorem rAgn_sm {a : Nat → Nat} (h5 : a 3 ≤ 5) : smR a (rAgn a (a 3)) := by
  refine ⟨?_, ?_, ?_, fun j => ⟨?_, ?_, ?_, ?_⟩, fun l => ?_⟩ <;> (unfold rAgn; rw [if_neg (by omega)])
theorem rAgn_0 {a : Nat → Nat} {w : Nat} (hw : w < 2 * a 3) : mvw (rAgn a (a 3)) w = 0 ∧ wtw (rAgn a (a 3)) w = 0 := by
  unfold mvw wtw rAgn
  rw [if_pos (by omega), if_pos (by omega)]
  exact ⟨rfl, rfl⟩
theorem rAgn_ok {a : Nat → Nat} (k : WF2 a) : WF2 (rAgn a (a 3)) := by
  obtain ⟨⟨k1, k4, k5⟩, k6⟩ := k
  have s := rAgn_sm k1.2.1
  refine ⟨⟨s.wf0 k1, fun w hw => ?_, s.e_d k5⟩, EX_of k6 (fun w hw => Or.inl ?_)⟩
  · rw [s.2.2.1] at hw
    unfold okV
    rw [(rAgn_0 hw).1]
    exact ⟨by omega, fun _ => rfl⟩
  · rw [s.2.2.1] at hw
    exact (rAgn_0 hw).1
theorem itS_ok2 {a : Nat → Nat} (k : WF2 a) (n : Nat) : WF2 (itS a n) := ⟨(itS_ok k.1 n).1, itS_EX k.1 k.2 n⟩
