-- ===== counts of goals on a way =====
theorem cntB_le1 {Q : Nat → Nat} {n : Nat} : ∀ C, cntB (fun c => decide (Q c ≤ n + 1)) C = cntB (fun c => decide (Q c ≤ n)) C + cntB (fun c => decide (Q c = n + 1)) C
  | 0 => rfl
  | C + 1 => by
    rw [cntB, cntB, cntB, cntB_le1 C]
    by_cases e1 : Q C ≤ n
    · rw [if_pos (by simp; omega), if_pos (by simp; omega), if_neg (by simp; omega)]; omega
    · by_cases e2 : Q C = n + 1
      · rw [if_pos (by simp; omega), if_neg (by simp; omega), if_pos (by simp; omega)]; omega
      · rw [if_neg (by simp; omega), if_neg (by simp; omega), if_neg (by simp; omega)]; omega
theorem cntB_one {Q : Nat → Nat} {v : Nat} : ∀ C, (∀ c d, c < d → d < C → Q c < Q d) → cntB (fun c => decide (Q c = v)) C = if anyK (fun c => decide (Q c = v)) C = true then 1 else 0
  | 0, _ => rfl
  | C + 1, h => by
    have ih := cntB_one (Q := Q) (v := v) C (fun c d h1 h2 => h c d h1 (by omega))
    rw [cntB, anyK]
    by_cases e : Q C = v
    · have z : cntB (fun c => decide (Q c = v)) C = 0 := cntB_0.mpr (fun c hc => by
        have := h c C hc (by omega)
        simp only [decide_eq_false_iff_not]
        omega)
      rw [z, if_pos (by simp [e]), if_pos (by simp [e])]
    · rw [show decide (Q C = v) = false by simp [e], Bool.or_false, ih]; rfl
theorem cntB_pre {p : Nat → Bool} {m : Nat} : ∀ C, m ≤ C → (∀ c, c < C → p c = decide (c < m)) → cntB p C = m
  | 0, h, _ => by rw [cntB]; omega
  | C + 1, h, hp => by
    rw [cntB, hp C (by omega)]
    by_cases e : C < m
    · have e2 : m = C + 1 := by omega
      have z : cntB p C = C := by
        have : ∀ c, c < C → p c = decide (c < C) := fun c hc => by
          rw [hp c (by omega)]
          simp only [decide_eq_decide]
          omega
        exact cntB_pre C (Nat.le_refl _) this
      rw [z, if_pos (by simp [e])]; omega
    · rw [cntB_pre C (by omega) (fun c hc => hp c (by omega)), if_neg (by simp [e])]; rfl
theorem cntB_rev {p : Nat → Bool} : ∀ n, cntB (fun k => p (n - 1 - k)) n = cntB p n
  | 0 => rfl
  | n + 1 => by
    have e1 : cntB (fun k => p (n + 1 - 1 - k)) (1 + n) = cntB (fun k => p (n + 1 - 1 - k)) 1 + cntB (fun k => p (n + 1 - 1 - (1 + k))) n := cntB_split
    rw [Nat.add_comm 1 n] at e1
    have e2 : cntB (fun k => p (n + 1 - 1 - (1 + k))) n = cntB (fun k => p (n - 1 - k)) n := cntB_congr (fun k hk => by rw [show n + 1 - 1 - (1 + k) = n - 1 - k by omega])
    rw [e1, e2, cntB_rev n]
    show 0 + (if p (n + 1 - 1 - 0) = true then 1 else 0) + cntB p n = cntB p n + (if p n = true then 1 else 0)
    rw [show n + 1 - 1 - 0 = n by omega]
    omega
/-- goals that lie on a way, by its places -/
def gAt (a : Nat → Nat) (w j : Nat) : Bool := aG a (w / 2) (wP a w j)
theorem way_Q {a : Nat → Nat} (k : WF0 a) {w : Nat} (hw : w < 2 * a 3) : (∀ c, c < wC a w → 1 ≤ wQ a w c ∧ wQ a w c ≤ wN a w ∧ gAt a w (wQ a w c) = true) ∧ (∀ c d, c < d → d < wC a w → wQ a w c < wQ a w d) ∧ ∀ j, 1 ≤ j → j ≤ wN a w → gAt a w j = true → ∃ c, c < wC a w ∧ wQ a w c = j := by
  obtain ⟨hok, -, -⟩ := wyB k hw
  exact ⟨hok.2.2.2.2.2.1, hok.2.2.2.2.2.2.1, hok.2.2.2.2.2.2.2.1⟩
def pas (a : Nat → Nat) (w n : Nat) : Nat := cntB (fun c => decide (wQ a w c ≤ n)) (wC a w)
theorem pas_s {a : Nat → Nat} (k : WF0 a) {w : Nat} (hw : w < 2 * a 3) {n : Nat} (hn : n < wN a w) : pas a w (n + 1) = pas a w n + (if gAt a w (n + 1) = true then 1 else 0) := by
  obtain ⟨q1, q2, q3⟩ := way_Q k hw
  unfold pas
  rw [cntB_le1, cntB_one _ q2]
  congr 1
  by_cases e : gAt a w (n + 1) = true
  · obtain ⟨c, h1, h2⟩ := q3 (n + 1) (by omega) (by omega) e
    rw [if_pos e, if_pos (anyK_iff.mpr ⟨c, h1, by simp [h2]⟩)]
  · rw [if_neg e, if_neg (fun z => by
      obtain ⟨c, h1, h2⟩ := anyK_iff.mp z
      simp only [decide_eq_true_eq] at h2
      have := (q1 c h1).2.2
      rw [h2] at this
      exact e this)]
theorem pas_0 {a : Nat → Nat} (k : WF0 a) {w : Nat} (hw : w < 2 * a 3) : pas a w 0 = 0 := cntB_0.mpr (fun c hc => by
  have := ((way_Q k hw).1 c hc).1
  simp only [decide_eq_false_iff_not]
  omega)
theorem pas_e {a : Nat → Nat} (k : WF0 a) {w : Nat} (hw : w < 2 * a 3) {n : Nat} (hn : wN a w ≤ n) : pas a w n = wC a w := cntB_pre _ (Nat.le_refl _) (fun c hc => by
  have := ((way_Q k hw).1 c hc).2.1
  simp only [decide_eq_decide]
  omega)
theorem pas_q {a : Nat → Nat} (k : WF0 a) {w : Nat} (hw : w < 2 * a 3) {n : Nat} (hn : n < wN a w) (hg : gAt a w (n + 1) = true) : pas a w n < wC a w ∧ wQ a w (pas a w n) = n + 1 := by
  obtain ⟨q1, q2, q3⟩ := way_Q k hw
  obtain ⟨c, h1, h2⟩ := q3 (n + 1) (by omega) (by omega) hg
  have e : pas a w n = c := cntB_pre _ (by omega) (fun d hd => by
    simp only [decide_eq_decide]
    rcases Nat.lt_trichotomy d c with z | z | z
    · have := q2 d c z h1; omega
    · subst z; omega
    · have := q2 c d z hd; omega)
  rw [e]
  exact ⟨h1, h2⟩
theorem arv_pas {a : Nat → Nat} (k : WF0 a) {w : Nat} (hw : w < 2 * a 3) : arv a w = pas a w (hHead a w) := by
  unfold arv pas
  refine cntB_congr (fun c hc => ?_)
  have := ((way_Q k hw).1 c hc).2.1
  simp only [decide_eq_decide]
  unfold hHead
  split <;> omega
theorem gW_at {a : Nat → Nat} (k : WF0 a) {w : Nat} (hw : w < 2 * a 3) {j : Nat} (h1 : 1 ≤ j) (hj : j ≤ wN a w) : (gW a w).testBit (wP a w j) = gAt a w j := by
  obtain ⟨hok, -, -⟩ := wyB k hw
  have p1 := (wP_lt k hw hj).2
  have hr := (hok.2.2.1 j hj).2
  have hr' : if w % 2 = 0 then a (4 + 8 * (w / 2)) + j ≤ wP a w j ∧ wP a w j ≤ a (4 + 8 * (w / 2)) + tot (a 0 * a 1) (a (4 + 8 * (w / 2))) (w % 2) else wP a w j + j ≤ a (4 + 8 * (w / 2)) ∧ a (4 + 8 * (w / 2)) ≤ wP a w j + tot (a 0 * a 1) (a (4 + 8 * (w / 2))) (w % 2) := hr
  rw [gW_tb (by omega)]
  unfold gAt
  by_cases e : w % 2 = 0
  · rw [if_pos e] at hr' ⊢
    rw [show decide (a (4 + 8 * (w / 2)) ≤ wP a w j) = true by simp; omega, Bool.and_true]
  · rw [if_neg e] at hr' ⊢
    rw [show decide (wP a w j < a (4 + 8 * (w / 2))) = true by simp; omega, Bool.and_true]
theorem scan_c {W H : Nat} {g : Nat → Bool} {src side : Nat} : ∀ t, (scan W H g src side t).2.2.2.1 = cntB (fun k => g (lbN src side (k + 1))) t
  | 0 => rfl
  | t + 1 => by
    show (sc1 W H g (lbN src side (t + 1)) (scan W H g src side t)).2.2.2.1 = cntB (fun k => g (lbN src side (k + 1))) t + (if g (lbN src side (t + 1)) = true then 1 else 0)
    rw [← scan_c t, sc1]
    by_cases e : g (lbN src side (t + 1)) = true
    · rw [if_pos e, if_pos e]
    · rw [if_neg e, if_neg e]; rfl
theorem cnt_gW {a : Nat → Nat} (k : WF0 a) {w : Nat} (hw : w < 2 * a 3) : cntB (fun l => (gW a w).testBit l) 40 = wC a w := by
  have h36 := okW_36 k.1
  have h5 := k.2.1
  have hM := k.2.2 (w / 2) (by omega)
  have hs := hM.1
  have hg := hM.2.2.2.2.2
  have e1 : wC a w = cntB (fun q => aG a (w / 2) (lbN (a (4 + 8 * (w / 2))) (w % 2) (q + 1))) (tot (a 0 * a 1) (a (4 + 8 * (w / 2))) (w % 2)) := scan_c _
  rw [e1]
  generalize hsr : a (4 + 8 * (w / 2)) = s at *
  have tb : ∀ l, l < 64 → (gW a w).testBit l = (aG a (w / 2) l && (if w % 2 = 0 then decide (s ≤ l) else decide (l < s))) := fun l hl => by rw [gW_tb hl, hsr]
  by_cases e : w % 2 = 0
  · unfold tot
    rw [e, if_pos rfl]
    rw [show (40 : Nat) = (s + 1) + ((a 0 * a 1 - 1 - s) + (40 - a 0 * a 1)) by omega, cntB_split (m := s + 1), cntB_split (m := a 0 * a 1 - 1 - s)]
    have z1 : cntB (fun l => (gW a w).testBit l) (s + 1) = 0 := cntB_0.mpr (fun l hl => by
      rw [tb l (by omega), if_pos e]
      rcases Bool.eq_false_or_eq_true (aG a (w / 2) l) with z | z
      · have := (hg l z).2
        simp only [Bool.and_eq_false_iff, decide_eq_false_iff_not]
        right
        omega
      · rw [z]; rfl)
    have z2 : cntB (fun q => (gW a w).testBit (s + 1 + (a 0 * a 1 - 1 - s + q))) (40 - a 0 * a 1) = 0 := cntB_0.mpr (fun q hq => by
      rw [tb _ (by omega)]
      rcases Bool.eq_false_or_eq_true (aG a (w / 2) (s + 1 + (a 0 * a 1 - 1 - s + q))) with z | z
      · have := (hg _ z).1
        omega
      · rw [z]; rfl)
    rw [z1, z2, Nat.zero_add, Nat.add_zero]
    refine cntB_congr (fun q hq => ?_)
    rw [tb _ (by omega), if_pos e, lbN, if_pos rfl, show s + 1 + q = s + (q + 1) by omega, show decide (s ≤ s + (q + 1)) = true by simp, Bool.and_true]
  · unfold tot
    rw [show w % 2 = 1 by omega, if_neg (by omega)]
    rw [show (40 : Nat) = s + (40 - s) by omega, cntB_split]
    have z2 : cntB (fun q => (gW a w).testBit (s + q)) (40 - s) = 0 := cntB_0.mpr (fun q hq => by
      rw [tb _ (by omega), if_neg e, show decide (s + q < s) = false by simp, Bool.and_false])
    rw [z2, Nat.add_zero, ← cntB_rev (p := fun l => (gW a w).testBit l) s]
    refine cntB_congr (fun q hq => ?_)
    rw [tb _ (by omega), if_neg e, lbN, if_neg (by omega), show s - 1 - q = s - (q + 1) by omega, show decide (s - (q + 1) < s) = true by simp; omega, Bool.and_true]
theorem sumB_congr {f g : Nat → Nat} : ∀ {n : Nat}, (∀ k, k < n → f k = g k) → sumB f n = sumB g n
  | 0, _ => rfl
  | n + 1, h => by rw [sumB, sumB, sumB_congr (fun k hk => h k (by omega)), h n (by omega)]
theorem sumB_ext {f : Nat → Nat} {n : Nat} : ∀ {m : Nat}, n ≤ m → (∀ k, n ≤ k → k < m → f k = 0) → sumB f m = sumB f n
  | 0, h, _ => by rw [show n = 0 by omega]
  | m + 1, h, hz => by
    by_cases e : n = m + 1
    · rw [e]
    · rw [sumB, sumB_ext (by omega) (fun k h1 h2 => hz k h1 (by omega)), hz m (by omega) (by omega)]; rfl
theorem dnC_36 {a : Nat → Nat} (k : WF1 a) : sumB (fun l => cntB (dnB a l) 4) 36 = dnC a := by
  have h36 := okW_36 k.1.1
  unfold dnC
  refine sumB_ext h36.2 (fun l h1 h2 => cntB_0.mpr (fun d hd => ?_))
  rw [Bool.eq_false_iff]
  intro h
  have := ((k.2.2 l h2).2 d h).2.1
  omega
theorem strt_36 {a : Nat → Nat} (k : WF0 a) {i : Nat} (hi : i < a 3) : sumB (strt a i) 36 = sumB (strt a i) (a 0 * a 1) := by
  have h36 := okW_36 k.1
  refine sumB_ext h36.2 (fun l h1 h2 => ?_)
  unfold strt
  rw [if_neg (fun z => by have := ((k.2.2 i hi).2.2.2.2.2 l z).1; omega)]
theorem hTH {a : Nat → Nat} (k : WF1 a) {w : Nat} (hw : w < 2 * a 3) : hTail a w ≤ hHead a w := by
  have hv := (k.2.1 w hw).1
  unfold hTail hHead
  split <;> omega
theorem fstK_cg {p q : Nat → Bool} : ∀ {n : Nat}, (∀ k, k < n → p k = q k) → fstK p n = fstK q n
  | 0, _ => rfl
  | n + 1, h => by rw [fstK, fstK, fstK_cg (fun k hk => h k (by omega)), h n (by omega)]
theorem hsh_split {h : Int64} {f : Nat → Int32} {m : Nat} : ∀ {n : Nat}, hsh h f (m + n) = hsh (hsh h f m) (fun k => f (m + k)) n
  | 0 => rfl
  | n + 1 => by
    show 31 * hsh h f (m + n) + (f (m + n)).toInt64 = 31 * hsh (hsh h f m) (fun k => f (m + k)) n + (f (m + n)).toInt64
    rw [hsh_split (n := n)]
theorem hsh_cg {h : Int64} {f g : Nat → Int32} : ∀ {n : Nat}, (∀ k, k < n → f k = g k) → hsh h f n = hsh h g n
  | 0, _ => rfl
  | n + 1, hh => by rw [hsh, hsh, hsh_cg (fun k hk => hh k (by omega)), hh n (by omega)]
theorem dgD_c {a : Nat → Nat} {g : Int64} : ∀ l, dgD a g l = hsh g (fun c => if dnB a (c / 4) (c % 4) = true then 1 else 0) (4 * l)
  | 0 => rfl
  | l + 1 => by
    rw [dgD, dgD_c l, show 4 * (l + 1) = 4 * l + 4 by omega, hsh_split (m := 4 * l) (n := 4)]
    exact hsh_cg (fun k hk => by rw [show (4 * l + k) / 4 = l by omega, show (4 * l + k) % 4 = k by omega])
