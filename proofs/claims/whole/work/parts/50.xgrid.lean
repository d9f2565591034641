-- ===== the class: its mesh =====
def GX (x : HT) (W H : Nat) : Prop := x.1 59 0 = nI W ∧ x.1 59 1 = nI H ∧ ∀ l, l < W * H → x.1 60 l = nI (xO W l) ∧ x.1 61 l = nI (yO W l) ∧ ∀ d, d < 4 → x.1 62 (4 * l + d) = oI (bes W H l d)
theorem x_has_y {F : Nat} {x : HT} {W H : Nat} (k : okW W H) (g0 : x.1 59 0 = nI W) (g1 : x.1 59 1 = nI H) {X Y : Nat} (hX : X < W) (hY : Y < H) : fX0_has F x (nI X) (nI Y) = some (1, x) := by
  obtain ⟨k1, k2, k3, k4⟩ := k
  unfold fX0_has
  rw [if_neg (nI_pos (by omega)), g0, if_neg (by rw [le_nI (by omega) (by omega)]; omega), if_neg (nI_pos (by omega)), g1, if_neg (by rw [le_nI (by omega) (by omega)]; omega)]
theorem x_has_n {F : Nat} {x : HT} {W H : Nat} (k : okW W H) (g0 : x.1 59 0 = nI W) (g1 : x.1 59 1 = nI H) {p q : Int32} (h : ¬ plc W H p q) : fX0_has F x p q = some (0, x) := by
  obtain ⟨k1, k2, k3, k4⟩ := k
  unfold fX0_has fX0_has_28
  by_cases h1 : p < 0
  · rw [if_pos h1]
  · rw [if_neg h1, g0]
    by_cases h2 : nI W ≤ p
    · rw [if_pos h2]
    · rw [if_neg h2]
      by_cases h3 : q < 0
      · rw [if_pos h3]
      · rw [if_neg h3, g1]
        by_cases h4 : nI H ≤ q
        · rw [if_pos h4]
        · exfalso
          obtain ⟨X, hX, rfl⟩ := nI_of h1
          obtain ⟨Y, hY, rfl⟩ := nI_of h3
          rw [le_nI (by omega) (by omega)] at h2 h4
          exact h ⟨X, Y, by omega, by omega, rfl, rfl⟩
theorem x_labelAt {F : Nat} {x : HT} {W H : Nat} (k : okW W H) (g0 : x.1 59 0 = nI W) {X Y : Nat} (hX : X < W) (hY : Y < H) : fX0_labelAt F x (nI X) (nI Y) = some (nI (lab W X Y), x) := by
  obtain ⟨k1, k2, k3, k4⟩ := k
  unfold fX0_labelAt fX0_labelAt_24
  rw [and1_nI (by omega), ite_e0 (by omega), g0, pk_mul, lab]
  by_cases hp : Y % 2 = 0
  · rw [if_pos hp, nI_add, if_pos hp]
  · rw [if_neg hp, n1, sub_nI (by omega), sub_nI (by omega), nI_add, if_neg hp]
theorem x_places {F : Nat} {x : HT} {W H : Nat} (g0 : x.1 59 0 = nI W) (g1 : x.1 59 1 = nI H) : fX0_places F x = some (nI (W * H), x) := by
  unfold fX0_places
  rw [g0, g1, pk_mul]
theorem x_hasLabel_y {F : Nat} {x : HT} {W H : Nat} (k : okW W H) (g0 : x.1 59 0 = nI W) (g1 : x.1 59 1 = nI H) {l : Nat} (hl : l < W * H) : fX0_hasLabel F x (nI l) = some (1, x) := by
  have h36 := okW_36 k
  unfold fX0_hasLabel
  rw [if_neg (nI_pos (by omega)), bds (x_places g0 g1), if_neg (by rw [le_nI (by omega) (by omega)]; omega)]
theorem x_hasLabel_n {F : Nat} {x : HT} {W H : Nat} (k : okW W H) (g0 : x.1 59 0 = nI W) (g1 : x.1 59 1 = nI H) {p : Int32} (h : ¬ ∃ l, l < W * H ∧ p = nI l) : fX0_hasLabel F x p = some (0, x) := by
  have h36 := okW_36 k
  unfold fX0_hasLabel fX0_hasLabel_16
  by_cases h1 : p < 0
  · rw [if_pos h1]
  · rw [if_neg h1, bds (x_places g0 g1)]
    by_cases h2 : nI (W * H) ≤ p
    · rw [if_pos h2]
    · exfalso
      obtain ⟨X, hX, rfl⟩ := nI_of h1
      rw [le_nI (by omega) (by omega)] at h2
      exact h ⟨X, by omega, rfl⟩
theorem x_tell {F : Nat} {x : HT} {W H : Nat} (k : okW W H) (g : GX x W H) {l : Nat} (hl : l < W * H) : fX0_tell F x (nI l) = some (nI (tel W l), x) := by
  have h36 := okW_36 k
  obtain ⟨g0, g1, g2⟩ := g
  obtain ⟨e1, e2, -⟩ := g2 l hl
  unfold fX0_tell
  rw [bds (x_hasLabel_y k g0 g1 hl), if_neg (by decide), ckb (inb_nI (by omega) (by omega)), clamp_nI (by omega), ckb (inb_nI (by omega) (by omega)), e1, e2, n10, pk_mul, nI_add]
  rfl
theorem x_endOf {F : Nat} {x : HT} {W H : Nat} (k : okW W H) (g : GX x W H) {l d : Nat} (hl : l < W * H) (hd : d < 4) : fX0_endOf F x (nI (4 * l + d)) = some (oI (bes W H l d), x) := by
  have h36 := okW_36 k
  unfold fX0_endOf
  rw [if_neg (nI_pos (by omega)), if_neg (by rw [n144, le_nI (by omega) (by omega)]; omega), ckb (inb_nI (by omega) (by omega)), clamp_nI (by omega), ((g.2.2 l hl).2.2 d hd)]
/-- the channel by which the best label so far is come to -/
def nbc (W H u v d : Nat) (f c : Nat) : Nat := if bes W H u d ≠ 99 ∧ (if u < v then bes W H u d ≤ v else v ≤ bes W H u d) ∧ (f = 99 ∨ (if u < v then f < bes W H u d else bes W H u d < f)) then 4 * u + d else c
def cI (f c : Nat) : Int32 := if f = 99 then -1 else nI c
theorem x_cstep {F : Nat} {x : HT} {W H : Nat} (k : okW W H) (g : GX x W H) {u v d f c : Nat} (hu : u < W * H) (hv : v < W * H) (hd : d < 4) (hf : f = 99 ∨ f < W * H) (rec22 : HT → Int32 → Int32 → Int32 → Int32 → Int32 → Option (Int32 × HT)) : fX0_channelTowards_22b F rec22 x (nI u) (nI v) (cI f c) (oI f) (nI (4 * u + d)) = rec22 x (nI u) (nI v) (cI (nst W H u v d f) (nbc W H u v d f c)) (oI (nst W H u v d f)) (nI (4 * u + (d + 1))) := by
  have h36 := okW_36 k
  unfold fX0_channelTowards_22b
  rw [if_neg (by rw [n4, pk_mul, nI_add, le_nI (by omega) (by omega)]; omega), ckb (inb_nI (by omega) (by omega)), clamp_nI (by omega), ((g.2.2 u hu).2.2 d hd), lts]
  unfold fX0_channelTowards_99 fX0_channelTowards_95 fX0_channelTowards_72 fX0_channelTowards_100 fX0_channelTowards_114
  have e01 : ((0 : Int32) = 0) = True := by simp
  have e10 : ((1 : Int32) = 0) = False := by simp
  rcases fin_bes k hu hd with hb | ⟨hb, hb2, -⟩
  · have e1 : nst W H u v d f = f := by rw [nst, if_neg (by rw [hb]; simp)]
    have e2 : nbc W H u v d f c = c := by rw [nbc, if_neg (by rw [hb]; simp)]
    rw [e1, e2, hb]
    simp only [show oI 99 = -1 from rfl, if_true, lts, nI_1]
    rfl
  · have hb9 : bes W H u d ≠ 99 := by omega
    have hbn : ¬ oI (bes W H u d) = -1 := by rw [oI_m1 (by omega)]; exact hb9
    rw [if_neg hbn, oI_ne hb9]
    generalize hB : bes W H u d = B at hb hb2 hb9 hbn ⊢
    have hn : nst W H u v d f = if (if u < v then B ≤ v else v ≤ B) ∧ (f = 99 ∨ (if u < v then f < B else B < f)) then B else f := by
      rw [nst, hB]; simp [hb9]
    have hn2 : nbc W H u v d f c = if (if u < v then B ≤ v else v ≤ B) ∧ (f = 99 ∨ (if u < v then f < B else B < f)) then 4 * u + d else c := by
      rw [nbc, hB]; simp [hb9]
    rw [hn, hn2]
    have ev : (nI v ≤ nI u) = (v ≤ u) := le_nI (by omega) (by omega)
    have e2 : (nI B < nI v) = (B < v) := lt_nI (by omega) (by omega)
    have e3 : (nI v < nI B) = (v < B) := lt_nI (by omega) (by omega)
    have cB : cI B (4 * u + d) = nI (4 * u + d) := if_neg hb9
    have e4 : 4 * u + d + 1 = 4 * u + (d + 1) := by omega
    rcases hf with rfl | hf
    · have e5 : (nI B ≤ (-1 : Int32)) = False := by
        have : (0 : Int32) ≤ nI B := nI_ge0 (by omega)
        simp only [eq_iff_iff, iff_false]
        intro q
        exact absurd (Int32.le_trans this q) (by decide)
      have c9 : cI 99 c = -1 := rfl
      simp only [show oI 99 = -1 from rfl, c9, if_true, lts, e01, e10, if_false, ev, e2, e3, e5, nI_1, e4]
      by_cases c1 : v ≤ u
      · by_cases c2 : B < v
        · simp [c1, c2, show ¬ u < v by omega, show ¬ v ≤ B by omega, show oI 99 = -1 from rfl, c9]
        · simp [c1, c2, show ¬ u < v by omega, show v ≤ B by omega, oI_ne hb9, cB]
      · by_cases c2 : v < B
        · simp [c1, c2, show u < v by omega, show ¬ B ≤ v by omega, show oI 99 = -1 from rfl, c9]
        · simp [c1, c2, show u < v by omega, show B ≤ v by omega, oI_ne hb9, cB]
    · have hf9 : f ≠ 99 := by omega
      have ef : (nI f ≤ nI B) = (f ≤ B) := le_nI (by omega) (by omega)
      have ef2 : (nI B ≤ nI f) = (B ≤ f) := le_nI (by omega) (by omega)
      have cf : cI f c = nI c := if_neg hf9
      rw [oI_ne hf9, cf]
      simp only [lts, e01, e10, if_false, if_true, ev, e2, e3, ef, ef2, m1_ne (show f < 2147483648 by omega), nI_1, e4]
      by_cases c1 : v ≤ u
      · by_cases c2 : B < v
        · simp [c1, c2, show ¬ u < v by omega, show ¬ v ≤ B by omega, oI_ne hf9, cf]
        · by_cases c3 : f ≤ B
          · simp [c1, c2, c3, show ¬ u < v by omega, show v ≤ B by omega, show ¬ B < f by omega, hf9, oI_ne hf9, cf]
          · simp [c1, c2, c3, show ¬ u < v by omega, show v ≤ B by omega, show B < f by omega, oI_ne hb9, cB]
      · by_cases c2 : v < B
        · simp [c1, c2, show u < v by omega, show ¬ B ≤ v by omega, oI_ne hf9, cf]
        · by_cases c3 : B ≤ f
          · simp [c1, c2, c3, show u < v by omega, show B ≤ v by omega, show ¬ f < B by omega, hf9, oI_ne hf9, cf]
          · simp [c1, c2, c3, show u < v by omega, show B ≤ v by omega, show f < B by omega, oI_ne hb9, cB]
def nxc (W H u v : Nat) : Nat := nbc W H u v 3 (nst W H u v 2 (nst W H u v 1 (nst W H u v 0 99))) (nbc W H u v 2 (nst W H u v 1 (nst W H u v 0 99)) (nbc W H u v 1 (nst W H u v 0 99) (nbc W H u v 0 99 0)))
theorem fin_nxc0 : allG (fun W H => allB (W * H) (fun u => allB (W * H) (fun v => decide (u = v ∨ nxc W H u v = 4 * u + dirOf W H u (nxt W H u v))))) = true := by decide +kernel
theorem fin_nxc {W H u v : Nat} (k : okW W H) (hu : u < W * H) (hv : v < W * H) (h : u ≠ v) : nxc W H u v = 4 * u + dirOf W H u (nxt W H u v) := (of_decide_eq_true (allB_at (allB_at (allG_at fin_nxc0 k) hu) hv)).resolve_left h
theorem x_channelTowards {F : Nat} (hF : 1000 ≤ F) {x : HT} {W H : Nat} (k : okW W H) (g : GX x W H) {u v : Nat} (hu : u < W * H) (hv : v < W * H) (hne : u ≠ v) : fX0_channelTowards F x (nI u) (nI v) = some (nI (4 * u + dirOf W H u (nxt W H u v)), x) := by
  have h36 := okW_36 k
  obtain ⟨f, rfl⟩ : ∃ f, F = f + 5 := ⟨F - 5, by omega⟩
  unfold fX0_channelTowards
  rw [if_neg (nI_pos (by omega)), if_pos (by rw [n36, lt_nI (by omega) (by omega)]; omega), lts, n4, pk_mul, Nat.mul_comm u 4]
  have r0 := nst_rng (v := v) (f := 99) k hu (d := 0) (by omega) (Or.inl rfl)
  have r1 := nst_rng (v := v) k hu (d := 1) (by omega) r0
  have r2 := nst_rng (v := v) k hu (d := 2) (by omega) r1
  show fX0_channelTowards_22b (f + 5) (fX0_channelTowards_22 (f + 5) (f + 4)) x (nI u) (nI v) (cI 99 0) (oI 99) (nI (4 * u + 0)) = _
  rw [x_cstep k g hu hv (by omega) (Or.inl rfl)]
  show fX0_channelTowards_22b (f + 5) (fX0_channelTowards_22 (f + 5) (f + 3)) x (nI u) (nI v) _ _ _ = _
  rw [x_cstep k g hu hv (by omega) r0]
  show fX0_channelTowards_22b (f + 5) (fX0_channelTowards_22 (f + 5) (f + 2)) x (nI u) (nI v) _ _ _ = _
  rw [x_cstep k g hu hv (by omega) r1]
  show fX0_channelTowards_22b (f + 5) (fX0_channelTowards_22 (f + 5) (f + 1)) x (nI u) (nI v) _ _ _ = _
  rw [x_cstep k g hu hv (by omega) r2]
  show fX0_channelTowards_22b (f + 5) (fX0_channelTowards_22 (f + 5) f) x (nI u) (nI v) _ _ _ = _
  unfold fX0_channelTowards_22b
  rw [if_pos (by rw [n4, pk_mul, nI_add, le_nI (by omega) (by omega)]; omega)]
  have hn := (fin_nxt k hu hv hne).1
  have hc := fin_nxc k hu hv hne
  rw [show nst W H u v 3 (nst W H u v 2 (nst W H u v 1 (nst W H u v 0 99))) = nxt W H u v from rfl, cI, if_neg (by omega)]
  rw [show nbc W H u v 3 (nst W H u v 2 (nst W H u v 1 (nst W H u v 0 99))) (nbc W H u v 2 (nst W H u v 1 (nst W H u v 0 99)) (nbc W H u v 1 (nst W H u v 0 99) (nbc W H u v 0 99 0))) = nxc W H u v from rfl, hc]
theorem x_next {F : Nat} {x : HT} {W H : Nat} (k : okW W H) (g : GX x W H) {u v : Nat} (hu : u < W * H) (hv : v < W * H) (hne : u ≠ v) : fX0_endOf F x (nI (4 * u + dirOf W H u (nxt W H u v))) = some (nI (nxt W H u v), x) := by
  have h36 := okW_36 k
  obtain ⟨q1, -, -, q2⟩ := fin_nxt k hu hv hne
  rw [x_endOf k g hu dirOf_lt, q2, oI_ne (by omega)]
theorem x_distance_l {F : Nat} (hF : 1000 ≤ F) {x : HT} {W H : Nat} (k : okW W H) (g : GX x W H) {v : Nat} (hv : v < W * H) : ∀ f u c n, u < W * H → far W H u v = f → c + f ≤ 35 → f < n → fX0_distance_5 F n x (nI v) (nI u) (nI c) = some (nI (c + f), x) := by
  have h36 := okW_36 k
  intro f
  induction f with
  | zero =>
    intro u c n hu hf hc hn
    obtain ⟨n, rfl⟩ : ∃ n', n = n' + 1 := ⟨n - 1, by omega⟩
    have e : u = v := by
      by_cases q : u = v
      · exact q
      · have := far_pos k hu hv q; omega
    subst e
    show fX0_distance_5b F (fX0_distance_5 F n) x _ _ _ = _
    unfold fX0_distance_5b fX0_distance_34
    rw [if_pos rfl]
    rfl
  | succ f ih =>
    intro u c n hu hf hc hn
    obtain ⟨n, rfl⟩ : ∃ n', n = n' + 1 := ⟨n - 1, by omega⟩
    have e : u ≠ v := fun q => by subst q; rw [far_self] at hf; omega
    have hs := far_step k hu hv e
    have hx := (fin_nxt k hu hv e).1
    show fX0_distance_5b F (fX0_distance_5 F n) x _ _ _ = _
    unfold fX0_distance_5b
    rw [if_neg (by rw [eq_nI (by omega) (by omega)]; exact e)]
    rw [if_neg (by rw [n36, le_nI (by omega) (by omega)]; omega), bds (x_channelTowards hF k g hu hv e), bds (x_next k g hu hv e), lts, nI_1, ih (nxt W H u v) (c + 1) n hx (by omega) (by omega) (by omega), show c + 1 + f = c + (f + 1) by omega]
theorem x_distance {F : Nat} (hF : 1000 ≤ F) {x : HT} {W H : Nat} (k : okW W H) (g : GX x W H) {u v : Nat} (hu : u < W * H) (hv : v < W * H) : fX0_distance F x (nI u) (nI v) = some (nI (far W H u v), x) := by
  have := far_35 k hu hv
  unfold fX0_distance
  have e := x_distance_l hF k g hv (far W H u v) u 0 F hu rfl (by omega) (by omega)
  rw [Nat.zero_add] at e
  exact e
-- the grid is laid
def FrG (x x' : HT) : Prop := x'.2 = x.2 ∧ ∀ c q, c ≠ 59 → c ≠ 60 → c ≠ 61 → c ≠ 62 → x'.1 c q = x.1 c q
theorem FrG.rf {x : HT} : FrG x x := ⟨rfl, fun _ _ _ _ _ _ => rfl⟩
theorem FrG.tr {x y z : HT} (h : FrG x y) (g : FrG y z) : FrG x z := ⟨g.1.trans h.1, fun c q a b d e => (g.2 c q a b d e).trans (h.2 c q a b d e)⟩
theorem frG_s {x : HT} {c q : Nat} {v : Int32} (hc : c = 59 ∨ c = 60 ∨ c = 61 ∨ c = 62) : FrG x (sI x c q v) := ⟨rfl, fun d p h1 h2 h3 h4 => by rw [sI_r, if_neg (by omega)]⟩
def glP (x : HT) (W H l : Nat) : Prop := x.1 60 l = nI (xO W l) ∧ x.1 61 l = nI (yO W l) ∧ ∀ d, d < 4 → x.1 62 (4 * l + d) = oI (bes W H l d)
theorem x_lp24 {F : Nat} {x0 : HT} {W H X Y : Nat} (k : okW W H) (hX : X < W) (hY : Y < H) : ∀ e d n x, d + e = 4 → e < n → x.1 59 0 = nI W → x.1 59 1 = nI H → FrG x0 x → (∀ c q, c ≠ 62 → x.1 c q = x0.1 c q) → (∀ q, (q < 4 * lab W X Y ∨ 4 * lab W X Y + 4 ≤ q) → x.1 62 q = x0.1 62 q) → (∀ d', d' < d → x.1 62 (4 * lab W X Y + d') = oI (bes W H (lab W X Y) d')) →
    ∃ x', fX0_layPlace_24 F n x (nI X) (nI Y) (nI (lab W X Y)) (nI d) = some ((), x') ∧ FrG x0 x' ∧ (∀ c q, c ≠ 62 → x'.1 c q = x0.1 c q) ∧ (∀ q, (q < 4 * lab W X Y ∨ 4 * lab W X Y + 4 ≤ q) → x'.1 62 q = x0.1 62 q) ∧ ∀ d', d' < 4 → x'.1 62 (4 * lab W X Y + d') = oI (bes W H (lab W X Y) d') := by
  have h36 := okW_36 k
  obtain ⟨l1, l2, l3⟩ := fin_lab k hX hY
  have k' := id k
  obtain ⟨k1, k2, k3, k4⟩ := k'
  intro e
  induction e with
  | zero =>
    intro d n x hd hn g0 g1 f0 h1 h2 h3
    obtain ⟨n, rfl⟩ : ∃ n', n = n' + 1 := ⟨n - 1, by omega⟩
    show ∃ x', fX0_layPlace_24b F (fX0_layPlace_24 F n) x _ _ _ _ = _ ∧ _
    unfold fX0_layPlace_24b
    rw [if_pos (by rw [n4, le_nI (by omega) (by omega)]; omega)]
    exact ⟨x, rfl, f0, h1, h2, fun d' hd' => h3 d' (by omega)⟩
  | succ e ih =>
    intro d n x hd hn g0 g1 f0 h1 h2 h3
    obtain ⟨n, rfl⟩ : ∃ n', n = n' + 1 := ⟨n - 1, by omega⟩
    have fin : ∀ v, v = oI (bes W H (lab W X Y) d) → ∃ x', fX0_layPlace_83 F (fX0_layPlace_24 F n) x (nI X) (nI Y) (nI (lab W X Y)) (nI d) ((nI (lab W X Y) * 4) + nI d) v = some ((), x') ∧ FrG x0 x' ∧ (∀ c q, c ≠ 62 → x'.1 c q = x0.1 c q) ∧ (∀ q, (q < 4 * lab W X Y ∨ 4 * lab W X Y + 4 ≤ q) → x'.1 62 q = x0.1 62 q) ∧ ∀ d', d' < 4 → x'.1 62 (4 * lab W X Y + d') = oI (bes W H (lab W X Y) d') := by
      intro v hv
      unfold fX0_layPlace_83
      rw [n4, pk_mul, nI_add, show lab W X Y * 4 + d = 4 * lab W X Y + d by omega, ckb (inb_nI (by omega) (by omega)), clamp_nI (by omega), lts, lts, nI_1]
      refine ih (d + 1) n _ (by omega) (by omega) (by rw [sI_r, if_neg (by omega)]; exact g0) (by rw [sI_r, if_neg (by omega)]; exact g1) (f0.tr (frG_s (by omega))) (fun c q hc => by rw [sI_r, if_neg (by omega)]; exact h1 c q hc) (fun q hq => by rw [sI_r, if_neg (by omega)]; exact h2 q hq) (fun d' hd' => ?_)
      rw [sI_r]
      by_cases ed : d' = d
      · subst ed; rw [if_pos ⟨rfl, rfl⟩]; exact hv
      · rw [if_neg (by omega)]; exact h3 d' (by omega)
    have yes : ∀ {p q : Int32} {X' Y' : Nat}, X' < W → Y' < H → p = nI X' → q = nI Y' → bes W H (lab W X Y) d = lab W X' Y' → ∃ x', (bd (fX0_has F x p q) fun r18 x17 => if r18 = 0 then fX0_layPlace_83 F (fX0_layPlace_24 F n) x17 (nI X) (nI Y) (nI (lab W X Y)) (nI d) ((nI (lab W X Y) * 4) + nI d) (-1) else bd (fX0_labelAt F x17 p q) fun r22 x21 => fX0_layPlace_83 F (fX0_layPlace_24 F n) x21 (nI X) (nI Y) (nI (lab W X Y)) (nI d) ((nI (lab W X Y) * 4) + nI d) r22) = some ((), x') ∧ FrG x0 x' ∧ (∀ c q, c ≠ 62 → x'.1 c q = x0.1 c q) ∧ (∀ q, (q < 4 * lab W X Y ∨ 4 * lab W X Y + 4 ≤ q) → x'.1 62 q = x0.1 62 q) ∧ ∀ d', d' < 4 → x'.1 62 (4 * lab W X Y + d') = oI (bes W H (lab W X Y) d') := by
      intro p q X' Y' a1 a2 a3 a4 a5
      rw [a3, a4, bds (x_has_y k g0 g1 a1 a2), if_neg (by decide), bds (x_labelAt k g0 a1 a2)]
      exact fin _ (by rw [a5, oI_lab k a1 a2])
    have no : ∀ {p q : Int32}, ¬ plc W H p q → bes W H (lab W X Y) d = 99 → ∃ x', (bd (fX0_has F x p q) fun r18 x17 => if r18 = 0 then fX0_layPlace_83 F (fX0_layPlace_24 F n) x17 (nI X) (nI Y) (nI (lab W X Y)) (nI d) ((nI (lab W X Y) * 4) + nI d) (-1) else bd (fX0_labelAt F x17 p q) fun r22 x21 => fX0_layPlace_83 F (fX0_layPlace_24 F n) x21 (nI X) (nI Y) (nI (lab W X Y)) (nI d) ((nI (lab W X Y) * 4) + nI d) r22) = some ((), x') ∧ FrG x0 x' ∧ (∀ c q, c ≠ 62 → x'.1 c q = x0.1 c q) ∧ (∀ q, (q < 4 * lab W X Y ∨ 4 * lab W X Y + 4 ≤ q) → x'.1 62 q = x0.1 62 q) ∧ ∀ d', d' < 4 → x'.1 62 (4 * lab W X Y + d') = oI (bes W H (lab W X Y) d') := by
      intro p q a1 a2
      rw [bds (x_has_n k g0 g1 a1), if_pos rfl]
      exact fin _ (by rw [a2]; rfl)
    show ∃ x', fX0_layPlace_24b F (fX0_layPlace_24 F n) x _ _ _ _ = _ ∧ _
    unfold fX0_layPlace_24b
    rw [if_neg (by rw [n4, le_nI (by omega) (by omega)]; omega), ckb (inb_nI (by omega) (by omega)), clamp_nI (by omega), lts, ckb (inb_nI (by omega) (by omega)), lts]
    have hbes := fun d' => show bes W H (lab W X Y) d' = _ from rfl
    rcases (show d = 0 ∨ d = 1 ∨ d = 2 ∨ d = 3 by omega) with rfl | rfl | rfl | rfl
    · by_cases hc : X + 1 < W
      · exact yes hc hY (nI_1 X) (by show nI Y + 0 = nI Y; rw [n0, nI_add]; rfl) (by unfold bes; rw [if_pos rfl, l2, l3, if_pos hc])
      · refine no ?_ (by unfold bes; rw [if_pos rfl, l2, l3, if_neg hc])
        show ¬ plc W H (nI X + 1) _
        rw [nI_1]
        exact plc_nx (by omega) (by omega)
    · by_cases hc : Y + 1 < H
      · exact yes hX hc (by show nI X + 0 = nI X; rw [n0, nI_add]; rfl) (nI_1 Y) (by unfold bes; rw [if_neg (by decide), if_pos rfl, l2, l3, if_pos hc])
      · refine no ?_ (by unfold bes; rw [if_neg (by decide), if_pos rfl, l2, l3, if_neg hc])
        show ¬ plc W H _ (nI Y + 1)
        rw [nI_1]
        exact plc_ny (by omega) (by omega)
    · by_cases hc : 0 < X
      · exact yes (X' := X - 1) (by omega) hY (nI_m1 hc) (by show nI Y + 0 = nI Y; rw [n0, nI_add]; rfl) (by unfold bes; rw [if_neg (by decide), if_neg (by decide), if_pos rfl, l2, l3, if_pos hc])
      · refine no ?_ (by unfold bes; rw [if_neg (by decide), if_neg (by decide), if_pos rfl, l2, l3, if_neg hc])
        rw [show X = 0 by omega]
        exact plc_mx (by omega)
    · by_cases hc : 0 < Y
      · exact yes (Y' := Y - 1) hX (by omega) (by show nI X + 0 = nI X; rw [n0, nI_add]; rfl) (nI_m1 hc) (by unfold bes; rw [if_neg (by decide), if_neg (by decide), if_neg (by decide), l2, l3, if_pos hc])
      · refine no ?_ (by unfold bes; rw [if_neg (by decide), if_neg (by decide), if_neg (by decide), l2, l3, if_neg hc])
        rw [show Y = 0 by omega]
        exact plc_my (by omega)
theorem x_layPlace {F : Nat} (hF : 1000 ≤ F) {x : HT} {W H X Y : Nat} (k : okW W H) (hX : X < W) (hY : Y < H) (g0 : x.1 59 0 = nI W) (g1 : x.1 59 1 = nI H) : ∃ x', fX0_layPlace F x (nI X) (nI Y) = some ((), x') ∧ FrG x x' ∧ x'.1 59 0 = nI W ∧ x'.1 59 1 = nI H ∧ glP x' W H (lab W X Y) ∧ ∀ l, l ≠ lab W X Y → glP x W H l → glP x' W H l := by
  have h36 := okW_36 k
  obtain ⟨l1, l2, l3⟩ := fin_lab k hX hY
  unfold fX0_layPlace
  rw [bds (x_labelAt k g0 hX hY), ckb (inb_nI (by omega) (by omega)), clamp_nI (by omega), lts, ckb (inb_nI (by omega) (by omega)), lts]
  generalize hx1 : sI (sI x 60 (lab W X Y) (nI X)) 61 (lab W X Y) (nI Y) = x1
  have f1 : FrG x x1 := by rw [← hx1]; exact (frG_s (by omega)).tr (frG_s (by omega))
  have r1 : ∀ c q, x1.1 c q = if c = 61 ∧ q = lab W X Y then nI Y else if c = 60 ∧ q = lab W X Y then nI X else x.1 c q := by
    intro c q; rw [← hx1, sI_r, sI_r]
  obtain ⟨x', e1, f2, h1, h2, h3⟩ := x_lp24 (F := F) (x0 := x1) k hX hY 4 0 F x1 (by omega) (by omega) (by rw [r1, if_neg (by omega), if_neg (by omega)]; exact g0) (by rw [r1, if_neg (by omega), if_neg (by omega)]; exact g1) FrG.rf (fun _ _ _ => rfl) (fun _ _ => rfl) (fun d hd => absurd hd (Nat.not_lt_zero d))
  refine ⟨x', e1, f1.tr f2, ?_, ?_, ⟨?_, ?_, h3⟩, fun l hl hg => ⟨?_, ?_, fun d hd => ?_⟩⟩
  · rw [h1 _ _ (by omega), r1, if_neg (by omega), if_neg (by omega)]; exact g0
  · rw [h1 _ _ (by omega), r1, if_neg (by omega), if_neg (by omega)]; exact g1
  · rw [h1 _ _ (by omega), r1, if_neg (by omega), if_pos ⟨rfl, rfl⟩, l2]
  · rw [h1 _ _ (by omega), r1, if_pos ⟨rfl, rfl⟩, l3]
  · rw [h1 _ _ (by omega), r1, if_neg (by omega), if_neg (by omega)]; exact hg.1
  · rw [h1 _ _ (by omega), r1, if_neg (by omega), if_neg (by omega)]; exact hg.2.1
  · rw [h2 _ (by omega), r1, if_neg (by omega), if_neg (by omega)]; exact hg.2.2 d hd
theorem x_lay40 {F : Nat} (hF : 1000 ≤ F) {x0 : HT} {W H Y : Nat} (k : okW W H) (hY : Y < H) (rec29 : HT → Int32 → Option (Unit × HT)) : ∀ e X n x, X + e = W → e < n → FrG x0 x → x.1 59 0 = nI W → x.1 59 1 = nI H → (∀ y p, y < Y → p < W → glP x W H (lab W p y)) → (∀ p, p < X → glP x W H (lab W p Y)) →
    ∃ x', fX0_lay_40 F rec29 n x (nI Y) (nI X) = rec29 x' (nI (Y + 1)) ∧ FrG x0 x' ∧ x'.1 59 0 = nI W ∧ x'.1 59 1 = nI H ∧ ∀ y p, y < Y + 1 → p < W → glP x' W H (lab W p y) := by
  obtain ⟨k1, k2, k3, k4⟩ := id k
  intro e
  induction e with
  | zero =>
    intro X n x hX hn f0 g0 g1 h1 h2
    obtain ⟨n, rfl⟩ : ∃ n', n = n' + 1 := ⟨n - 1, by omega⟩
    show ∃ x', fX0_lay_40b F rec29 (fX0_lay_40 F rec29 n) x _ _ = _ ∧ _
    unfold fX0_lay_40b
    rw [g0, if_pos (by rw [le_nI (by omega) (by omega)]; omega), lts, nI_1]
    refine ⟨x, rfl, f0, g0, g1, fun y p hy hp => ?_⟩
    by_cases ey : y = Y
    · subst ey; exact h2 p (by omega)
    · exact h1 y p (by omega) hp
  | succ e ih =>
    intro X n x hX hn f0 g0 g1 h1 h2
    obtain ⟨n, rfl⟩ : ∃ n', n = n' + 1 := ⟨n - 1, by omega⟩
    obtain ⟨x1, e1, f1, q0, q1, q2, q3⟩ := x_layPlace hF k (X := X) (by omega) hY g0 g1
    have inj : ∀ p y, p < W → y < H → (p ≠ X ∨ y ≠ Y) → lab W p y ≠ lab W X Y := by
      intro p y hp hy hne he
      have a1 := fin_lab k hp hy
      have a2 := fin_lab k (show X < W by omega) hY
      rw [he] at a1
      omega
    show ∃ x', fX0_lay_40b F rec29 (fX0_lay_40 F rec29 n) x _ _ = _ ∧ _
    unfold fX0_lay_40b
    rw [g0, if_neg (by rw [le_nI (by omega) (by omega)]; omega), bds e1, lts, nI_1]
    refine ih (X + 1) n x1 (by omega) (by omega) (f0.tr f1) q0 q1 (fun y p hy hp => q3 _ (inj p y hp (by omega) (by omega)) (h1 y p hy hp)) (fun p hp => ?_)
    by_cases ep : p = X
    · subst ep; exact q2
    · exact q3 _ (inj p Y (by omega) hY (by omega)) (h2 p (by omega))
theorem x_lay29 {F : Nat} (hF : 1000 ≤ F) {x0 : HT} {W H : Nat} (k : okW W H) : ∀ e Y n x, Y + e = H → e < n → FrG x0 x → x.1 59 0 = nI W → x.1 59 1 = nI H → (∀ y p, y < Y → p < W → glP x W H (lab W p y)) → ∃ x', fX0_lay_29 F n x (nI Y) = some ((), x') ∧ FrG x0 x' ∧ GX x' W H := by
  obtain ⟨k1, k2, k3, k4⟩ := id k
  intro e
  induction e with
  | zero =>
    intro Y n x hY hn f0 g0 g1 h1
    obtain ⟨n, rfl⟩ : ∃ n', n = n' + 1 := ⟨n - 1, by omega⟩
    show ∃ x', fX0_lay_29b F (fX0_lay_29 F n) x _ = _ ∧ _
    unfold fX0_lay_29b
    rw [g1, if_pos (by rw [le_nI (by omega) (by omega)]; omega)]
    refine ⟨x, rfl, f0, g0, g1, fun l hl => ?_⟩
    obtain ⟨a1, a2, a3⟩ := fin_xy k hl
    have := h1 (yO W l) (xO W l) (by omega) a1
    rw [a3] at this
    exact this
  | succ e ih =>
    intro Y n x hY hn f0 g0 g1 h1
    obtain ⟨n, rfl⟩ : ∃ n', n = n' + 1 := ⟨n - 1, by omega⟩
    obtain ⟨x1, e1, f1, q0, q1, q2⟩ := x_lay40 hF (x0 := x0) k (Y := Y) (by omega) (fX0_lay_29 F n) W 0 F x (by omega) (by omega) f0 g0 g1 h1 (fun p hp => absurd hp (Nat.not_lt_zero p))
    have e1' : fX0_lay_40 F (fX0_lay_29 F n) F x (nI Y) 0 = _ := e1
    show ∃ x', fX0_lay_29b F (fX0_lay_29 F n) x _ = _ ∧ _
    unfold fX0_lay_29b
    rw [g1, if_neg (by rw [le_nI (by omega) (by omega)]; omega), e1']
    exact ih (Y + 1) n x1 (by omega) (by omega) f1 q0 q1 q2
theorem x_lay {F : Nat} (hF : 1000 ≤ F) {x : HT} {W H : Nat} (k : okW W H) (hg : ∀ W' H', W' < 2147483648 → H' < 2147483648 → x.1 59 0 = nI W' → x.1 59 1 = nI H' → W' = W → H' = H → GX x W H) : ∃ x', fX0_lay F x (nI W) (nI H) = some ((), x') ∧ FrG x x' ∧ GX x' W H := by
  obtain ⟨k1, k2, k3, k4⟩ := id k
  have main : ∃ x', fX0_lay_17 F x (nI W) (nI H) = some ((), x') ∧ FrG x x' ∧ GX x' W H := by
    unfold fX0_lay_17
    rw [lts, lts]
    exact x_lay29 hF (x0 := x) k H 0 F _ (by omega) (by omega) ((frG_s (by omega)).tr (frG_s (by omega))) (by rw [sI_r, if_neg (by omega), sI_r, if_pos ⟨rfl, rfl⟩]) (by rw [sI_r, if_pos ⟨rfl, rfl⟩]) (fun y p hy => absurd hy (Nat.not_lt_zero y))
  unfold fX0_lay
  by_cases e1 : nI W = x.1 59 0
  · rw [if_pos e1]
    by_cases e2 : nI H = x.1 59 1
    · rw [if_pos e2]
      exact ⟨x, rfl, FrG.rf, hg W H (by omega) (by omega) e1.symm e2.symm rfl rfl⟩
    · rw [if_neg e2]; exact main
  · rw [if_neg e1]; exact main
