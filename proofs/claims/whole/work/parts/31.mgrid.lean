-- ===== the reference: its mesh =====
def RM (m : HT) (a : Nat → Nat) : Prop := ∀ k, k < 80 → m.1 1 k = nI (a k)
def plc (W H : Nat) (x y : Int32) : Prop := ∃ px py, px < W ∧ py < H ∧ x = nI px ∧ y = nI py
theorem c0 : (0 : Int32).toNatClampNeg = 0 := rfl
theorem c1 : (1 : Int32).toNatClampNeg = 1 := rfl
theorem c2 : (2 : Int32).toNatClampNeg = 2 := rfl
theorem c3 : (3 : Int32).toNatClampNeg = 3 := rfl
theorem ckt {β : Type} (k : Option β) : ck true k = k := rfl
theorem ckb {β : Type} {b : Bool} {k : Option β} (h : b = true) : ck b k = k := by subst h; rfl
theorem bds {α β : Type} {o : Option (α × HT)} {r : α} {u : HT} {k : α → HT → Option β} (h : o = some (r, u)) : bd o k = k r u := by subst h; rfl
theorem lts {α β : Type} (a : α) (k : α → β) : lt_ a k = k a := rfl
theorem m_in (F : Nat) (m : HT) (a b c : Int32) : fX7_in F m a b c = some (if a < b then 0 else if c < a then 0 else 1, m) := by
  unfold fX7_in fX7_in_14
  split
  · rfl
  · split <;> rfl
theorem m_in1 {F : Nat} {m : HT} {x lo hi : Int32} (h1 : ¬ x < lo) (h2 : ¬ hi < x) : fX7_in F m x lo hi = some (1, m) := by rw [m_in, if_neg h1, if_neg h2]
theorem m_in0 {F : Nat} {m : HT} {x lo hi : Int32} (h : x < lo ∨ hi < x) : fX7_in F m x lo hi = some (0, m) := by
  rw [m_in]
  by_cases h1 : x < lo
  · rw [if_pos h1]
  · rw [if_neg h1, if_pos (h.resolve_left h1)]
theorem m_inW {F : Nat} {m : HT} {i n : Nat} (h : i < n) (hn : n < 2147483648) : fX7_in F m (nI i) 0 (nI n - 1) = some (1, m) := by
  refine m_in1 (nI_pos (by omega)) ?_
  rw [n1, sub_nI (by omega), lt_nI (by omega) (by omega)]
  omega
theorem le_pred {W : Nat} (hW : 1 ≤ W) (hW2 : W < 2147483648) {x : Int32} (h1 : ¬ x < 0) (h2 : ¬ nI W - 1 < x) : ∃ px, px < W ∧ x = nI px := by
  obtain ⟨j, hj, rfl⟩ := nI_of h1
  refine ⟨j, ?_, rfl⟩
  have e : nI W - 1 = nI (W - 1) := sub_nI (a := W) (b := 1) hW
  rw [e, lt_nI (by omega) (by omega)] at h2
  omega
theorem m_isPlace_y {F : Nat} {m : HT} {a : Nat → Nat} (h : RM m a) (k : okW (a 0) (a 1)) {px py : Nat} (hx : px < a 0) (hy : py < a 1) : fX7_isPlace F m (nI px) (nI py) = some (1, m) := by
  obtain ⟨k1, k2, k3, k4⟩ := k
  unfold fX7_isPlace
  rw [ckb (by decide), c0, h 0 (by omega), bds (m_inW hx (by omega)), if_neg (by decide), ckb (by decide), c1, h 1 (by omega), bds (m_inW hy (by omega)), if_neg (by decide)]
theorem m_isPlace_n {F : Nat} {m : HT} {a : Nat → Nat} (h : RM m a) (k : okW (a 0) (a 1)) {x y : Int32} (hp : ¬ plc (a 0) (a 1) x y) : fX7_isPlace F m x y = some (0, m) := by
  obtain ⟨k1, k2, k3, k4⟩ := k
  unfold fX7_isPlace fX7_isPlace_36
  rw [ckb (by decide), bds (m_in F m _ _ _), c0, h 0 (by omega)]
  by_cases h1 : x < 0
  · rw [if_pos h1, if_pos rfl]
  · by_cases h2 : nI (a 0) - 1 < x
    · rw [if_neg h1, if_pos h2, if_pos rfl]
    · rw [if_neg h1, if_neg h2, if_neg (by decide), ckb (by decide), bds (m_in F m _ _ _), c1, h 1 (by omega)]
      by_cases h3 : y < 0
      · rw [if_pos h3, if_pos rfl]
      · by_cases h4 : nI (a 1) - 1 < y
        · rw [if_neg h3, if_pos h4, if_pos rfl]
        · exfalso
          obtain ⟨px, q1, q2⟩ := le_pred (by omega) (by omega) h1 h2
          obtain ⟨py, q3, q4⟩ := le_pred (by omega) (by omega) h3 h4
          exact hp ⟨px, py, q1, q3, q2, q4⟩
theorem m_labelOf {F : Nat} {m : HT} {a : Nat → Nat} (h : RM m a) (k : okW (a 0) (a 1)) {px py : Nat} (hx : px < a 0) (hy : py < a 1) : fX7_labelOf F m (nI px) (nI py) = some (nI (lab (a 0) px py), m) := by
  obtain ⟨k1, k2, k3, k4⟩ := k
  unfold fX7_labelOf fX7_labelOf_28
  rw [ckb (by decide), n2, rem_nI (by omega) (by omega) (by omega), c0, h 0 (by omega)]
  have e1 : nI py * nI (a 0) = nI (py * a 0) := pk_mul _ _
  by_cases hp : py % 2 = 0
  · rw [hp, if_pos (by decide), e1, nI_add, lab, if_pos hp]
  · rw [if_neg (by rw [n0, eq_nI (by omega) (by omega)]; exact hp), ckb (by decide), e1, n1, sub_nI (by omega), sub_nI (by omega), nI_add, lab, if_neg hp]
theorem m_xOf {F : Nat} {m : HT} {a : Nat → Nat} (h : RM m a) (k : okW (a 0) (a 1)) {l : Nat} (hl : l < 36) : fX7_xOf F m (nI l) = some (nI (xO (a 0) l), m) := by
  obtain ⟨k1, k2, k3, k4⟩ := k
  unfold fX7_xOf
  have hd : l / a 0 ≤ 36 := Nat.le_trans (Nat.div_le_self _ _) (by omega)
  have hm : l % a 0 < a 0 := Nat.mod_lt _ (by omega)
  rw [ckb (by decide), c0, h 0 (by omega), ckb (nz_nI (by omega) (by omega)), lts, ckb (by decide), ckb (nz_nI (by omega) (by omega)), rem_nI (by omega) (by omega) (by omega), div_nI (by omega) (by omega) (by omega), n2, rem_nI (by omega) (by omega) (by omega)]
  by_cases hp : l / a 0 % 2 = 0
  · rw [hp, if_pos (by decide), xO, if_pos hp]
  · rw [if_neg (by rw [n0, eq_nI (by omega) (by omega)]; exact hp), ckb (by decide), n1, sub_nI (by omega), sub_nI (by omega), xO, if_neg hp]
theorem m_yOf {F : Nat} {m : HT} {a : Nat → Nat} (h : RM m a) (k : okW (a 0) (a 1)) {l : Nat} (hl : l < 36) : fX7_yOf F m (nI l) = some (nI (yO (a 0) l), m) := by
  obtain ⟨k1, k2, k3, k4⟩ := k
  unfold fX7_yOf
  rw [ckb (by decide), c0, h 0 (by omega), ckb (nz_nI (by omega) (by omega)), div_nI (by omega) (by omega) (by omega)]
  rfl
def tel (W l : Nat) : Nat := 10 * xO W l + yO W l
theorem m_toldOf {F : Nat} {m : HT} {a : Nat → Nat} (h : RM m a) (k : okW (a 0) (a 1)) {l : Nat} (hl : l < 36) : fX7_toldOf F m (nI l) = some (nI (tel (a 0) l), m) := by
  unfold fX7_toldOf
  rw [bds (m_xOf h k hl), bds (m_yOf h k hl), n10, pk_mul, nI_add]
  rfl
theorem m_b49_y {F : Nat} {m : HT} {a : Nat → Nat} (h : RM m a) (k : okW (a 0) (a 1)) {p t0 t1 : Int32} {X Y : Nat} (hX : X < a 0) (hY : Y < a 1) (e1 : p = nI X) (e2 : t0 + t1 = nI Y) : fX7_beside_49 F m p t0 t1 = some (nI (lab (a 0) X Y), m) := by
  unfold fX7_beside_49
  rw [lts, e1, e2, bds (m_isPlace_y h k hX hY), if_neg (by decide), bds (m_labelOf h k hX hY)]
theorem m_b49_n {F : Nat} {m : HT} {a : Nat → Nat} (h : RM m a) (k : okW (a 0) (a 1)) {p t0 t1 : Int32} (hp : ¬ plc (a 0) (a 1) p (t0 + t1)) : fX7_beside_49 F m p t0 t1 = some (-1, m) := by
  unfold fX7_beside_49
  rw [lts, bds (m_isPlace_n h k hp), if_pos rfl]
theorem plc_nx {W H X : Nat} {y : Int32} (h : W ≤ X) (hX : X < 2147483648) : ¬ plc W H (nI X) y := fun ⟨px, py, h1, h2, h3, h4⟩ => by
  rw [eq_nI hX (by omega)] at h3
  omega
theorem plc_ny {W H Y : Nat} {x : Int32} (h : H ≤ Y) (hY : Y < 2147483648) : ¬ plc W H x (nI Y) := fun ⟨px, py, h1, h2, h3, h4⟩ => by
  rw [eq_nI hY (by omega)] at h4
  omega
theorem plc_mx {W H : Nat} {y : Int32} (hW : W < 2147483648) : ¬ plc W H (-1) y := fun ⟨px, py, h1, h2, h3, h4⟩ => m1_ne' (by omega) h3
theorem plc_my {W H : Nat} {x : Int32} (hH : H < 2147483648) : ¬ plc W H x (-1) := fun ⟨px, py, h1, h2, h3, h4⟩ => m1_ne' (by omega) h4
theorem oI_lab {W H x y : Nat} (k : okW W H) (hx : x < W) (hy : y < H) : oI (lab W x y) = nI (lab W x y) := by
  have h1 := (fin_lab k hx hy).1
  have h2 := okW_36 k
  rw [oI, if_neg (by omega)]
theorem m_beside {F : Nat} {m : HT} {a : Nat → Nat} (h : RM m a) (k : okW (a 0) (a 1)) {l d : Nat} (hl : l < a 0 * a 1) (hd : d < 4) : fX7_beside F m (nI l) (nI d) = some (oI (bes (a 0) (a 1) l d), m) := by
  have h36 := okW_36 k
  obtain ⟨hx, hy, -⟩ := fin_xy k hl
  have q := id k
  obtain ⟨k1, k2, k3, k4⟩ := q
  have ex := m_xOf (F := F) h k (l := l) (by omega)
  have ey := m_yOf (F := F) h k (l := l) (by omega)
  unfold fX7_beside
  rw [bds ex]
  rcases (show d = 0 ∨ d = 1 ∨ d = 2 ∨ d = 3 by omega) with rfl | rfl | rfl | rfl
  · rw [if_pos (by decide)]
    unfold fX7_beside_23
    rw [lts, bds ey, if_neg (by decide), if_neg (by decide), n1, nI_add, bes, if_pos rfl]
    by_cases hc : xO (a 0) l + 1 < a 0
    · rw [if_pos hc, oI_lab k hc hy]
      exact m_b49_y h k hc hy rfl (by rw [n0, nI_add]; rfl)
    · rw [if_neg hc]
      exact m_b49_n h k (plc_nx (by omega) (by omega))
  · rw [if_neg (by decide), if_neg (by decide)]
    unfold fX7_beside_23
    rw [lts, bds ey, if_pos (by decide), n0, nI_add, bes, if_neg (by decide), if_pos rfl]
    by_cases hc : yO (a 0) l + 1 < a 1
    · rw [if_pos hc, oI_lab k hx hc]
      exact m_b49_y h k hx hc rfl (by rw [n1, nI_add])
    · rw [if_neg hc]
      refine m_b49_n h k ?_
      rw [n1, nI_add]
      exact plc_ny (by omega) (by omega)
  · rw [if_neg (by decide), if_pos (by decide)]
    unfold fX7_beside_23
    rw [lts, bds ey, if_neg (by decide), if_neg (by decide), bes, if_neg (by decide), if_neg (by decide), if_pos rfl]
    by_cases hc : 0 < xO (a 0) l
    · rw [if_pos hc, oI_lab k (by omega) hy]
      exact m_b49_y h k (by omega) hy (nI_m1 hc) (by rw [n0, nI_add]; rfl)
    · rw [if_neg hc, show xO (a 0) l = 0 by omega]
      exact m_b49_n h k (plc_mx (by omega))
  · rw [if_neg (by decide), if_neg (by decide)]
    unfold fX7_beside_23
    rw [lts, bds ey, if_neg (by decide), if_pos (by decide), n0, nI_add, bes, if_neg (by decide), if_neg (by decide), if_neg (by decide)]
    by_cases hc : 0 < yO (a 0) l
    · rw [if_pos hc, oI_lab k hx (by omega)]
      exact m_b49_y h k hx (by omega) rfl (nI_m1 hc)
    · rw [if_neg hc, show yO (a 0) l = 0 by omega]
      exact m_b49_n h k (plc_my (by omega))
theorem oI_ne {b : Nat} (h : b ≠ 99) : oI b = nI b := if_neg h
theorem oI_m1 {b : Nat} (h : b < 2147483648) : (oI b = -1) = (b = 99) := propext ⟨fun e => by
  by_cases hb : b = 99
  · exact hb
  · rw [oI_ne hb] at e
    exact absurd e (m1_ne h), fun e => by subst e; rfl⟩
theorem m_nstep {F : Nat} {m : HT} {a : Nat → Nat} (h : RM m a) (k : okW (a 0) (a 1)) {u v d f : Nat} (hu : u < a 0 * a 1) (hv : v < a 0 * a 1) (hd : d < 4) (hf : f = 99 ∨ f < a 0 * a 1) (rec5 : HT → Int32 → Int32 → Int32 → Int32 → Option (Int32 × HT)) : fX7_nextOf_5b F rec5 m (nI u) (nI v) (oI f) (nI d) = rec5 m (nI u) (nI v) (oI (nst (a 0) (a 1) u v d f)) (nI (d + 1)) := by
  have h36 := okW_36 k
  unfold fX7_nextOf_5b
  rw [if_neg (by rw [n4, le_nI (by omega) (by omega)]; omega), bds (m_beside h k hu hd)]
  unfold fX7_nextOf_50 fX7_nextOf_46 fX7_nextOf_51 fX7_nextOf_78 fX7_nextOf_82 fX7_nextOf_83 fX7_nextOf_100 fX7_nextOf_101
  have e01 : ((0 : Int32) = 0) = True := by simp
  have e10 : ((1 : Int32) = 0) = False := by simp
  rcases fin_bes k hu hd with hb | ⟨hb, hb2, -⟩
  · have e1 : nst (a 0) (a 1) u v d f = f := by rw [nst, if_neg (by rw [hb]; simp)]
    rw [e1, hb]
    simp only [show oI 99 = -1 from rfl, if_true, lts, e01, nI_1]
    split
    · rfl
    · split <;> split <;> rfl
  · have hb9 : bes (a 0) (a 1) u d ≠ 99 := by omega
    have hbn : ¬ oI (bes (a 0) (a 1) u d) = -1 := by rw [oI_m1 (by omega)]; exact hb9
    rw [if_neg hbn, oI_ne hb9]
    generalize hB : bes (a 0) (a 1) u d = B at hb hb2 hb9 hbn ⊢
    have hn : nst (a 0) (a 1) u v d f = if (if u < v then B ≤ v else v ≤ B) ∧ (f = 99 ∨ (if u < v then f < B else B < f)) then B else f := by
      rw [nst, hB]; simp [hb9]
    rw [hn]
    have ev : (nI v ≤ nI u) = (v ≤ u) := le_nI (by omega) (by omega)
    have e2 : (nI B < nI v) = (B < v) := lt_nI (by omega) (by omega)
    have e3 : (nI v < nI B) = (v < B) := lt_nI (by omega) (by omega)
    rcases hf with rfl | hf
    · simp only [show oI 99 = -1 from rfl, if_true, lts, e01, e10, if_false, ev, e2, e3, nI_1]
      by_cases c1 : v ≤ u
      · by_cases c2 : B < v
        · simp [c1, c2, show ¬ u < v by omega, show ¬ v ≤ B by omega, show oI 99 = -1 from rfl]
        · simp [c1, c2, show ¬ u < v by omega, show v ≤ B by omega, oI_ne hb9]
      · by_cases c2 : v < B
        · simp [c1, c2, show u < v by omega, show ¬ B ≤ v by omega, show oI 99 = -1 from rfl]
        · simp [c1, c2, show u < v by omega, show B ≤ v by omega, oI_ne hb9]
    · have hf9 : f ≠ 99 := by omega
      have ef : (nI f ≤ nI B) = (f ≤ B) := le_nI (by omega) (by omega)
      have ef2 : (nI B ≤ nI f) = (B ≤ f) := le_nI (by omega) (by omega)
      rw [oI_ne hf9]
      simp only [lts, e01, e10, if_false, if_true, ev, e2, e3, ef, ef2, m1_ne (show f < 2147483648 by omega), nI_1]
      by_cases c1 : v ≤ u
      · by_cases c2 : B < v
        · simp [c1, c2, show ¬ u < v by omega, show ¬ v ≤ B by omega, oI_ne hf9]
        · by_cases c3 : f ≤ B
          · simp [c1, c2, c3, show ¬ u < v by omega, show v ≤ B by omega, show ¬ B < f by omega, hf9, oI_ne hf9]
          · simp [c1, c2, c3, show ¬ u < v by omega, show v ≤ B by omega, show B < f by omega, oI_ne hb9]
      · by_cases c2 : v < B
        · simp [c1, c2, show u < v by omega, show ¬ B ≤ v by omega, oI_ne hf9]
        · by_cases c3 : B ≤ f
          · simp [c1, c2, c3, show u < v by omega, show B ≤ v by omega, show ¬ f < B by omega, hf9, oI_ne hf9]
          · simp [c1, c2, c3, show u < v by omega, show B ≤ v by omega, show f < B by omega, oI_ne hb9]
theorem nst_rng {W H u v d f : Nat} (k : okW W H) (hu : u < W * H) (hd : d < 4) (hf : f = 99 ∨ f < W * H) : nst W H u v d f = 99 ∨ nst W H u v d f < W * H := by
  by_cases h : bes W H u d ≠ 99 ∧ (if u < v then bes W H u d ≤ v else v ≤ bes W H u d) ∧ (f = 99 ∨ (if u < v then f < bes W H u d else bes W H u d < f))
  · rw [nst, if_pos h]
    rcases fin_bes k hu hd with hb | hb
    · exact absurd hb h.1
    · exact Or.inr hb.1
  · rw [nst, if_neg h]
    exact hf
theorem m_nextOf {F : Nat} (hF : 1000 ≤ F) {m : HT} {a : Nat → Nat} (h : RM m a) (k : okW (a 0) (a 1)) {u v : Nat} (hu : u < a 0 * a 1) (hv : v < a 0 * a 1) (hne : u ≠ v) : fX7_nextOf F m (nI u) (nI v) = some (nI (nxt (a 0) (a 1) u v), m) := by
  have h36 := okW_36 k
  obtain ⟨f, rfl⟩ : ∃ f, F = f + 5 := ⟨F - 5, by omega⟩
  unfold fX7_nextOf
  have r0 := nst_rng (v := v) (f := 99) k hu (d := 0) (by omega) (Or.inl rfl)
  have r1 := nst_rng (v := v) k hu (d := 1) (by omega) r0
  have r2 := nst_rng (v := v) k hu (d := 2) (by omega) r1
  show fX7_nextOf_5b (f + 5) (fX7_nextOf_5 (f + 5) (f + 4)) m (nI u) (nI v) (oI 99) (nI 0) = _
  rw [m_nstep h k hu hv (by omega) (Or.inl rfl)]
  show fX7_nextOf_5b (f + 5) (fX7_nextOf_5 (f + 5) (f + 3)) m (nI u) (nI v) _ _ = _
  rw [m_nstep h k hu hv (by omega) r0]
  show fX7_nextOf_5b (f + 5) (fX7_nextOf_5 (f + 5) (f + 2)) m (nI u) (nI v) _ _ = _
  rw [m_nstep h k hu hv (by omega) r1]
  show fX7_nextOf_5b (f + 5) (fX7_nextOf_5 (f + 5) (f + 1)) m (nI u) (nI v) _ _ = _
  rw [m_nstep h k hu hv (by omega) r2]
  show fX7_nextOf_5b (f + 5) (fX7_nextOf_5 (f + 5) f) m (nI u) (nI v) _ _ = _
  unfold fX7_nextOf_5b
  rw [if_pos (by decide)]
  have hn := (fin_nxt k hu hv hne).1
  rw [show nst (a 0) (a 1) u v 3 (nst (a 0) (a 1) u v 2 (nst (a 0) (a 1) u v 1 (nst (a 0) (a 1) u v 0 99))) = nxt (a 0) (a 1) u v from rfl, oI_ne (by omega)]
