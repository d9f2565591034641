-- ===== the class: a state is copied =====
theorem sA_r (x : HT) (k : Nat) (f : Nat → Int32) (c q : Nat) : (sA x k f).1 c q = if c = k then f q else x.1 c q := by
  show va_up x.1 k f c q = _
  unfold va_up
  split <;> rfl
theorem sB_r (x : HT) (k : Nat) (f : Nat → Int64) (c q : Nat) : (sB x k f).2 c q = if c = k then f q else x.2 c q := by
  show va_up x.2 k f c q = _
  unfold va_up
  split <;> rfl
def FrJ (j : Nat) (x x' : HT) : Prop := ∀ c q, (c < 7 * j + 1 ∨ 7 * j + 7 < c) → x'.1 c q = x.1 c q ∧ x'.2 c q = x.2 c q
theorem FrJ.tr {j : Nat} {x y z : HT} (h : FrJ j x y) (g : FrJ j y z) : FrJ j x z := fun c q a => ⟨(g c q a).1.trans (h c q a).1, (g c q a).2.trans (h c q a).2⟩
theorem FrJ.rf {j : Nat} {x : HT} : FrJ j x x := fun _ _ _ => ⟨rfl, rfl⟩
theorem x_copyFrom {F j j2 : Nat} (hne : j ≠ j2) (x : HT) : ∃ x', fX2_copyFrom F j j2 x = some ((), x') ∧ FrJ j x x' ∧ ∀ a : Nat → Nat, a 3 ≤ 5 → RX x j2 a → RX x' j a := by
  unfold fX2_copyFrom
  rw [lts]
  generalize h1 : sI x (7 * j + 1) 0 (x.1 (7 * j2 + 1) 0) = x1
  rw [lts]
  generalize h2 : sI x1 (7 * j + 1) 1 (x1.1 (7 * j2 + 1) 1) = x2
  rw [lts]
  generalize h3 : sI x2 (7 * j + 1) 2 (x2.1 (7 * j2 + 1) 2) = x3
  rw [lts]
  generalize h4 : sI x3 (7 * j + 1) 3 (x3.1 (7 * j2 + 1) 3) = x4
  rw [lts]
  generalize h5 : sA x4 (7 * j + 2) _ = x5
  rw [lts]
  generalize h6 : sA x5 (7 * j + 3) _ = x6
  rw [lts]
  generalize h7 : sA x6 (7 * j + 4) _ = x7
  rw [lts]
  generalize h8 : sB x7 (7 * j + 5) _ = x8
  rw [lts]
  generalize h9 : sA x8 (7 * j + 6) _ = x9
  rw [lts]
  generalize h10 : sA x9 (7 * j + 7) _ = x10
  have r1 : ∀ c q, x1.1 c q = if c = 7 * j + 1 ∧ q = 0 then x.1 (7 * j2 + 1) 0 else x.1 c q := fun c q => by rw [← h1, sI_r]
  have r2 : ∀ c q, x2.1 c q = if c = 7 * j + 1 ∧ q = 1 then x1.1 (7 * j2 + 1) 1 else x1.1 c q := fun c q => by rw [← h2, sI_r]
  have r3 : ∀ c q, x3.1 c q = if c = 7 * j + 1 ∧ q = 2 then x2.1 (7 * j2 + 1) 2 else x2.1 c q := fun c q => by rw [← h3, sI_r]
  have r4 : ∀ c q, x4.1 c q = if c = 7 * j + 1 ∧ q = 3 then x3.1 (7 * j2 + 1) 3 else x3.1 c q := fun c q => by rw [← h4, sI_r]
  have r5 : ∀ c q, x5.1 c q = if c = 7 * j + 2 then (if 0 ≤ q ∧ q < 0 + 36 then x4.1 (7 * j2 + 2) (0 + (q - 0)) else x4.1 (7 * j + 2) q) else x4.1 c q := fun c q => by rw [← h5, sA_r]; rfl
  have r6 : ∀ c q, x6.1 c q = if c = 7 * j + 3 then (if 0 ≤ q ∧ q < 0 + 5 then x5.1 (7 * j2 + 3) (0 + (q - 0)) else x5.1 (7 * j + 3) q) else x5.1 c q := fun c q => by rw [← h6, sA_r]; rfl
  have r7 : ∀ c q, x7.1 c q = if c = 7 * j + 4 then (if 0 ≤ q ∧ q < 0 + 5 then x6.1 (7 * j2 + 4) (0 + (q - 0)) else x6.1 (7 * j + 4) q) else x6.1 c q := fun c q => by rw [← h7, sA_r]; rfl
  have r8 : ∀ c q, x8.1 c q = x7.1 c q := fun c q => by rw [← h8]; rfl
  have r9 : ∀ c q, x9.1 c q = if c = 7 * j + 6 then (if 0 ≤ q ∧ q < 0 + 10 then x8.1 (7 * j2 + 6) (0 + (q - 0)) else x8.1 (7 * j + 6) q) else x8.1 c q := fun c q => by rw [← h9, sA_r]; rfl
  have r10 : ∀ c q, x10.1 c q = if c = 7 * j + 7 then (if 0 ≤ q ∧ q < 0 + 10 then x9.1 (7 * j2 + 7) (0 + (q - 0)) else x9.1 (7 * j + 7) q) else x9.1 c q := fun c q => by rw [← h10, sA_r]; rfl
  have s7 : x7.2 = x.2 := by rw [← h7]; show x6.2 = _; rw [← h6]; show x5.2 = _; rw [← h5]; show x4.2 = _; rw [← h4]; show x3.2 = _; rw [← h3]; show x2.2 = _; rw [← h2]; show x1.2 = _; rw [← h1]; rfl
  have s8 : ∀ c q, x10.2 c q = if c = 7 * j + 5 then (if 0 ≤ q ∧ q < 0 + 5 then x.2 (7 * j2 + 5) (0 + (q - 0)) else x.2 (7 * j + 5) q) else x.2 c q := fun c q => by
    rw [← h10]; show x9.2 c q = _; rw [← h9]; show x8.2 c q = _; rw [← h8, sB_r, s7]; rfl
  clear h1 h2 h3 h4 h5 h6 h7 h8 h9 h10
  refine ⟨x10, rfl, fun c q hc => ⟨?_, ?_⟩, fun a h5 r => ?_⟩
  · rw [r10, if_neg (by omega), r9, if_neg (by omega), r8, r7, if_neg (by omega), r6, if_neg (by omega), r5, if_neg (by omega), r4, if_neg (by omega), r3, if_neg (by omega), r2, if_neg (by omega), r1, if_neg (by omega)]
  · rw [s8, if_neg (by omega)]
  · obtain ⟨a1, a2, a3, a4, a5, a6, a7⟩ := r
    refine ⟨?_, ?_, ?_, ?_, fun l hl => ?_, fun i hi => ⟨?_, ?_, ?_⟩, fun w hw => ⟨?_, ?_⟩⟩
    · rw [r10, if_neg (by omega), r9, if_neg (by omega), r8, r7, if_neg (by omega), r6, if_neg (by omega), r5, if_neg (by omega), r4, if_neg (by omega), r3, if_neg (by omega), r2, if_neg (by omega), r1, if_pos (by omega)]; exact a1
    · rw [r10, if_neg (by omega), r9, if_neg (by omega), r8, r7, if_neg (by omega), r6, if_neg (by omega), r5, if_neg (by omega), r4, if_neg (by omega), r3, if_neg (by omega), r2, if_pos (by omega), r1, if_neg (by omega)]; exact a2
    · rw [r10, if_neg (by omega), r9, if_neg (by omega), r8, r7, if_neg (by omega), r6, if_neg (by omega), r5, if_neg (by omega), r4, if_neg (by omega), r3, if_pos (by omega), r2, if_neg (by omega), r1, if_neg (by omega)]; exact a3
    · rw [r10, if_neg (by omega), r9, if_neg (by omega), r8, r7, if_neg (by omega), r6, if_neg (by omega), r5, if_neg (by omega), r4, if_pos (by omega), r3, if_neg (by omega), r2, if_neg (by omega), r1, if_neg (by omega)]; exact a4
    · rw [r10, if_neg (by omega), r9, if_neg (by omega), r8, r7, if_neg (by omega), r6, if_neg (by omega), r5, if_pos (by omega), if_pos (by omega), r4, if_neg (by omega), r3, if_neg (by omega), r2, if_neg (by omega), r1, if_neg (by omega), show 0 + (l - 0) = l by omega]; exact a5 l hl
    · rw [r10, if_neg (by omega), r9, if_neg (by omega), r8, r7, if_neg (by omega), r6, if_pos (by omega), if_pos (by omega), r5, if_neg (by omega), r4, if_neg (by omega), r3, if_neg (by omega), r2, if_neg (by omega), r1, if_neg (by omega), show 0 + (i - 0) = i by omega]; exact (a6 i hi).1
    · rw [r10, if_neg (by omega), r9, if_neg (by omega), r8, r7, if_pos (by omega), if_pos (by omega), r6, if_neg (by omega), r5, if_neg (by omega), r4, if_neg (by omega), r3, if_neg (by omega), r2, if_neg (by omega), r1, if_neg (by omega), show 0 + (i - 0) = i by omega]; exact (a6 i hi).2.1
    · rw [s8, if_pos (by omega), if_pos (by omega), show 0 + (i - 0) = i by omega]; exact (a6 i hi).2.2
    · rw [r10, if_neg (by omega), r9, if_pos (by omega), if_pos (by omega), r8, r7, if_neg (by omega), r6, if_neg (by omega), r5, if_neg (by omega), r4, if_neg (by omega), r3, if_neg (by omega), r2, if_neg (by omega), r1, if_neg (by omega), show 0 + (w - 0) = w by omega]; exact (a7 w hw).1
    · rw [r10, if_pos (by omega), if_pos (by omega), r9, if_neg (by omega), r8, r7, if_neg (by omega), r6, if_neg (by omega), r5, if_neg (by omega), r4, if_neg (by omega), r3, if_neg (by omega), r2, if_neg (by omega), r1, if_neg (by omega), show 0 + (w - 0) = w by omega]; exact (a7 w hw).2
theorem FrJ.rx {j i : Nat} (hij : i ≠ j) {x x' : HT} {a : Nat → Nat} (h : FrJ j x x') (r : RX x i a) : RX x' i a := by
  obtain ⟨r1, r2, r3, r4, r5, r6, r7⟩ := r
  refine ⟨?_, ?_, ?_, ?_, fun l hl => ?_, fun q hq => ?_, fun v hv => ?_⟩
  · rw [(h _ _ (by omega)).1]; exact r1
  · rw [(h _ _ (by omega)).1]; exact r2
  · rw [(h _ _ (by omega)).1]; exact r3
  · rw [(h _ _ (by omega)).1]; exact r4
  · rw [(h _ _ (by omega)).1]; exact r5 l hl
  · rw [(h _ _ (by omega)).1, (h _ _ (by omega)).1, (h _ _ (by omega)).2]; exact r6 q hq
  · rw [(h _ _ (by omega)).1, (h _ _ (by omega)).1]; exact r7 v hv
theorem FrJ.wx {j : Nat} (hj : j < 8) {x x' : HT} {a : Nat → Nat} (h : FrJ j x x') (r : WX x a) : WX x' a := by
  intro w hw
  obtain ⟨r1, r2, r3⟩ := r w hw
  exact ⟨by rw [(h _ _ (by omega)).1]; exact r1, fun i hi => by rw [(h _ _ (by omega)).1]; exact r2 i hi, fun i hi => by rw [(h _ _ (by omega)).1]; exact r3 i hi⟩
theorem FrJ.gx {j : Nat} (hj : j < 8) {x x' : HT} {W H : Nat} (h : FrJ j x x') (g : GX x W H) : GX x' W H := by
  obtain ⟨g0, g1, g2⟩ := g
  refine ⟨by rw [(h _ _ (by omega)).1]; exact g0, by rw [(h _ _ (by omega)).1]; exact g1, fun l hl => ?_⟩
  obtain ⟨a1, a2, a3⟩ := g2 l hl
  exact ⟨by rw [(h _ _ (by omega)).1]; exact a1, by rw [(h _ _ (by omega)).1]; exact a2, fun d hd => by rw [(h _ _ (by omega)).1]; exact a3 d hd⟩
-- ===== how many are not done =====
theorem x_und_l {F j : Nat} {x : HT} {a : Nat → Nat} (h : RX x j a) (k : WF1 a) (hW : WX x a) {e K : Nat} (he : e ≤ 2 * a 3) : ∀ d w n c, w + d = e → d < n → c + K = cntB (fun w => !dnW a w) w → fX5_undone_36 F j n x (nI e) (nI c) (nI w) = some (nI (cntB (fun w => !dnW a w) e - K), x) := by
  have h5 := k.1.2.1
  intro d
  induction d with
  | zero =>
    intro w n c hid hd hc
    obtain ⟨n, rfl⟩ : ∃ n', n = n' + 1 := ⟨n - 1, by omega⟩
    show fX5_undone_36b F (fX5_undone_36 F j n) j x _ _ _ = _
    unfold fX5_undone_36b
    rw [if_pos (by rw [le_nI (by omega) (by omega)]; omega), show e = w by omega, show cntB (fun w => !dnW a w) w - K = c by omega]
  | succ d ih =>
    intro w n c hid hd hc
    obtain ⟨n, rfl⟩ : ∃ n', n = n' + 1 := ⟨n - 1, by omega⟩
    have hb := cntB_le (p := fun w => !dnW a w) (n := w)
    have ih1 := ih (w + 1) n
    rw [cntB] at ih1
    show fX5_undone_36b F (fX5_undone_36 F j n) j x _ _ _ = _
    unfold fX5_undone_36b fX5_undone_56
    rw [if_neg (by rw [le_nI (by omega) (by omega)]; omega), bds (x_isDone h k hW (by omega))]
    by_cases e : dnW a w = true
    · rw [if_pos e, if_neg (by decide), lts, nI_1]
      exact ih1 c (by omega) (by omega) (by rw [e]; exact hc)
    · have e' := Bool.eq_false_iff.mpr e
      rw [if_neg e, if_pos rfl, lts, nI_1, lts, nI_1]
      exact ih1 (c + 1) (by omega) (by omega) (by rw [e', if_pos (by decide)]; omega)
theorem x_undone_all {F j : Nat} (hF : 1000 ≤ F) {x : HT} {a : Nat → Nat} (h : RX x j a) (k : WF1 a) (hW : WX x a) : fX5_undone F j x (-1) = some (nI (undo a), x) := by
  have h5 := k.1.2.1
  unfold fX5_undone fX5_undone_12 fX5_undone_28
  rw [if_pos rfl, if_pos rfl, bds (x_worms h)]
  exact x_und_l (K := 0) h k hW (Nat.le_refl _) (2 * a 3) 0 F 0 (by omega) (by omega) rfl
theorem x_undone_one {F j : Nat} (hF : 1000 ≤ F) {x : HT} {a : Nat → Nat} (h : RX x j a) (k : WF1 a) (hW : WX x a) {I : Nat} (hI : I < a 3) : fX5_undone F j x (nI I) = some (nI (cntB (fun w => !dnW a w) (2 * I + 2) - cntB (fun w => !dnW a w) (2 * I)), x) := by
  have h5 := k.1.2.1
  unfold fX5_undone fX5_undone_12 fX5_undone_28
  rw [if_neg (m1_ne (by omega)), if_neg (m1_ne (by omega)), n2, pk_mul, nI_add, Nat.mul_comm I 2]
  exact x_und_l h k hW (by omega) 2 (2 * I) F 0 (by omega) (by omega) (by omega)
theorem cntB_0 {p : Nat → Bool} : ∀ {n : Nat}, cntB p n = 0 ↔ ∀ k, k < n → p k = false
  | 0 => ⟨fun _ k hk => absurd hk (Nat.not_lt_zero k), fun _ => rfl⟩
  | n + 1 => by
    rw [cntB]
    have ih := cntB_0 (p := p) (n := n)
    constructor
    · intro h k hk
      by_cases e : k = n
      · subst e
        rcases Bool.eq_false_or_eq_true (p k) with z | z
        · rw [if_pos z] at h; omega
        · exact z
      · exact ih.mp (by omega) k (by omega)
    · intro h
      rw [ih.mpr (fun k hk => h k (by omega)), h n (by omega)]
      rfl
theorem alD_iff {a : Nat → Nat} {p : Nat → Bool} : alD a p = true ↔ ∀ w, w < 2 * a 3 → p w = true → dnW a w = true := by
  unfold alD
  rw [Bool.not_eq_true', Bool.eq_false_iff, Ne, anyK_iff]
  constructor
  · intro h w hw hp
    rcases Bool.eq_false_or_eq_true (dnW a w) with z | z
    · exact z
    · exact absurd ⟨w, hw, by rw [hp, z]; rfl⟩ h
  · rintro h ⟨w, hw, h2⟩
    simp only [Bool.and_eq_true, Bool.not_eq_true'] at h2
    rw [h w hw h2.1] at h2
    cases h2.2
/-- how many worms of those asked for are not done: it is 0 just if all are -/
theorem x_undone {F j : Nat} (hF : 1000 ≤ F) {x : HT} {a : Nat → Nat} (h : RX x j a) (k : WF1 a) (hW : WX x a) {i : Int32} {p : Nat → Bool} (hp : pI i p) (hi : i = -1 ∨ ∃ I, I < a 3 ∧ i = nI I) : ∃ u, u < 1000 ∧ fX5_undone F j x i = some (nI u, x) ∧ (u = 0 ↔ alD a p = true) := by
  have h5 := k.1.2.1
  rcases hi with rfl | ⟨I, hI, rfl⟩
  · have hp1 : ∀ w, p w = true := by
      rcases hp with ⟨-, hp1⟩ | ⟨I, hI, e, -⟩
      · exact hp1
      · exact absurd e (m1_ne' (by omega))
    have hb := cntB_le (p := fun w => !dnW a w) (n := 2 * a 3)
    refine ⟨undo a, by unfold undo; omega, x_undone_all hF h k hW, ?_⟩
    unfold undo
    rw [cntB_0, alD_iff]
    constructor
    · intro q w hw _
      have := q w hw
      simpa using this
    · intro q w hw
      rw [q w hw (hp1 w)]; rfl
  · have hp1 : ∀ w, p w = decide (w / 2 = I) := by
      rcases hp with ⟨e, -⟩ | ⟨I', hI', e, hp1⟩
      · exact absurd e (m1_ne (by omega))
      · rw [eq_nI (by omega) (by omega)] at e
        subst e
        exact hp1
    have hb := cntB_le (p := fun w => !dnW a w) (n := 2 * I + 2)
    refine ⟨_, ?_, x_undone_one hF h k hW hI, ?_⟩
    · omega
    · have e1 : cntB (fun w => !dnW a w) (2 * I + 2) = cntB (fun w => !dnW a w) (2 * I) + (if (!dnW a (2 * I)) = true then 1 else 0) + (if (!dnW a (2 * I + 1)) = true then 1 else 0) := rfl
      rw [e1, alD_iff]
      constructor
      · intro q w hw hpw
        rw [hp1, decide_eq_true_eq] at hpw
        rcases (show w = 2 * I ∨ w = 2 * I + 1 by omega) with rfl | rfl
        · rcases Bool.eq_false_or_eq_true (dnW a (2 * I)) with z | z
          · exact z
          · rw [z, if_pos (by decide)] at q; omega
        · rcases Bool.eq_false_or_eq_true (dnW a (2 * I + 1)) with z | z
          · exact z
          · rw [z, if_pos (show (!false) = true by decide)] at q; omega
      · intro q
        have q1 := q (2 * I) (by omega) (by rw [hp1, decide_eq_true_eq]; omega)
        have q2 := q (2 * I + 1) (by omega) (by rw [hp1, decide_eq_true_eq]; omega)
        rw [q1, q2, if_neg (by decide)]
        omega
-- ===== steps =====
theorem x_goSteps_y {F : Nat} (hF : 1000 ≤ F) {x : HT} {a : Nat → Nat} (k : WF1 a) (hx : EX a) (hR : RX x 0 a) (hW : WX x a) {N : Nat} (h1 : 1 ≤ N) (hN : N ≤ 200) : ∃ x', fX6_goSteps F x (nI N) = some (nI (undo (itS a N)), x') ∧ FrT 0 x x' ∧ RX x' 0 (itS a N) ∧ WX x' (itS a N) := by
  unfold fX6_goSteps
  obtain ⟨x1, e1, f1, t1⟩ := x_enter hF (j := 0) (by omega) k hR hW
  obtain ⟨x2, e2, f2, r2, w2⟩ := x_run hF (j := 0) (by omega) k hx (f1.rx (by omega) hR) (f1.wx k.1.2.1 hW) t1 hN
  rw [if_neg (by rw [n1, lt_nI (by omega) (by omega)]; omega), if_pos (by rw [show (200 : Int32) = nI 200 from rfl, le_nI (by omega) (by omega)]; omega), bds e1, bds e2, bds (x_undone_all hF r2 (itS_ok k N).1 w2)]
  exact ⟨x2, rfl, f1.t.tr f2, r2, w2⟩
theorem x_goSteps_n {F : Nat} {x : HT} {n : Int32} (hg : ¬ gSt n) : fX6_goSteps F x n = some (-2, x) := by
  unfold fX6_goSteps fX6_goSteps_12
  by_cases c1 : n < 1
  · rw [if_pos c1]
  · rw [if_neg c1]
    by_cases c2 : n ≤ 200
    · exfalso
      have h0 : ¬ n < 0 := fun q => c1 (Int32.lt_trans q (by decide))
      obtain ⟨N, hN, rfl⟩ := nI_of h0
      rw [n1, lt_nI (by omega) (by omega)] at c1
      rw [show (200 : Int32) = nI 200 from rfl, le_nI (by omega) (by omega)] at c2
      exact hg ⟨N, by omega, by omega, rfl⟩
    · rw [if_neg c2]
-- ===== when all is done =====
theorem itS_add (a : Nat → Nat) (t : Nat) : ∀ s, itS a (t + s) = itS (itS a t) s
  | 0 => rfl
  | s + 1 => by show stp (itS a (t + s)) = stp (itS (itS a t) s); rw [itS_add a t s]
theorem alD_cg {a b : Nat → Nat} (h : smR a b) (hm : ∀ v, mvw b v = mvw a v) (p : Nat → Bool) : alD b p = alD a p := by
  rw [Bool.eq_iff_iff, alD_iff, alD_iff, h.2.2.1]
  constructor
  · intro q w hw hp; rw [← dnW_cg h (hm w)]; exact q w hw hp
  · intro q w hw hp; rw [dnW_cg h (hm w)]; exact q w hw hp
theorem whl_stk {a : Nat → Nat} (k : WF1 a) {p : Nat → Bool} {t : Nat} (hs : stk (itS a t)) (h : alD (itS a t) p = false) : ∀ f s, t ≤ s → s + f = 401 → whl a p f s = 401 := by
  intro f
  induction f with
  | zero => intro s _ _; rfl
  | succ f ih =>
    intro s hts hs1
    have kt := (itS_ok k t).1
    have e : alD (itS a s) p = false := by
      rw [show s = t + (s - t) by omega, itS_add]
      rw [alD_cg (itS_ok kt (s - t)).2 (stk_i kt hs (s - t)).2.1]
      exact h
    rw [whl, if_neg (by rw [e]; decide)]
    exact ih (s + 1) (by omega) (by omega)
/-- all but the state ahead and the table of what is taken is as it was -/
def Fr2 (x x' : HT) : Prop := ∀ c q, (c < 15 ∨ 21 < c) → (c ≠ 88 → x'.1 c q = x.1 c q) ∧ x'.2 c q = x.2 c q
theorem Fr2.tr {x y z : HT} (h : Fr2 x y) (g : Fr2 y z) : Fr2 x z := fun c q a => ⟨fun b => ((g c q a).1 b).trans ((h c q a).1 b), (g c q a).2.trans (h c q a).2⟩
theorem FrJ.f2 {x x' : HT} (h : FrJ 2 x x') : Fr2 x x' := fun c q a => ⟨fun _ => (h c q (by omega)).1, (h c q (by omega)).2⟩
theorem Fr8.f2 {x x' : HT} (h : Fr8 x x') : Fr2 x x' := fun c q a => ⟨fun b => h.2 c q b, by rw [h.1]⟩
theorem FrT.f2 {x x' : HT} (h : FrT 2 x x') : Fr2 x x' := fun c q a => ⟨fun b => h.2 c q b (by omega) (by omega) (by omega), by rw [h.1]⟩
theorem x_when_l {F : Nat} (hF : 1000 ≤ F) {x0 : HT} {a : Nat → Nat} (k : WF1 a) (hx : EX a) {i : Int32} {p : Nat → Bool} (hp : pI i p) (hi : i = -1 ∨ ∃ I, I < a 3 ∧ i = nI I) : ∀ f t n x, t + f = 401 → f < n → RX x 2 (itS a t) → WX x (itS a t) → TK x (itS a t) → FrT 2 x0 x → ∃ x', fX6_stepsUntilDone_28 F n x i (nI t) = some (if whl a p f t ≤ 400 then nI (whl a p f t) else -1, x') ∧ FrT 2 x0 x' := by
  intro f
  induction f with
  | zero =>
    intro t n x hid hd hR hW hT hFr
    obtain ⟨n, rfl⟩ : ∃ n', n = n' + 1 := ⟨n - 1, by omega⟩
    show ∃ x', fX6_stepsUntilDone_28b F (fX6_stepsUntilDone_28 F n) x _ _ = _ ∧ _
    unfold fX6_stepsUntilDone_28b
    rw [if_pos (by rw [show (400 : Int32) = nI 400 from rfl, lt_nI (by omega) (by omega)]; omega), whl, if_neg (by omega)]
    exact ⟨x, rfl, hFr⟩
  | succ f ih =>
    intro t n x hid hd hR hW hT hFr
    obtain ⟨n, rfl⟩ : ∃ n', n = n' + 1 := ⟨n - 1, by omega⟩
    obtain ⟨kt, st⟩ := itS_ok k t
    obtain ⟨u, hu, e1, e2⟩ := x_undone hF hR kt hW hp (by rw [st.2.2.1]; exact hi)
    show ∃ x', fX6_stepsUntilDone_28b F (fX6_stepsUntilDone_28 F n) x _ _ = _ ∧ _
    unfold fX6_stepsUntilDone_28b
    rw [if_neg (by rw [show (400 : Int32) = nI 400 from rfl, lt_nI (by omega) (by omega)]; omega), bds e1, ite_e0 (by omega)]
    by_cases c : u = 0
    · rw [if_pos c, whl, if_pos (e2.mp c), if_pos (by omega)]
      exact ⟨x, rfl, hFr⟩
    · have hal : ¬ alD (itS a t) p = true := fun z => c (e2.mpr z)
      obtain ⟨x1, q1, q2, q3, q4, q5⟩ := x_stepOnce hF (j := 2) (by omega) kt (itS_EX k hx t) hR hW hT
      rw [if_neg c, bds q1]
      by_cases m : mvB (itS a t) (2 * itS a t 3) = true
      · rw [if_pos m, if_neg (by decide), lts, nI_1, whl, if_neg hal]
        exact ih (t + 1) n x1 (by omega) (by omega) q3 q4 q5 (hFr.tr q2)
      · have hs := stk_of kt (Bool.eq_false_iff.mpr m)
        rw [if_neg m, if_pos rfl, whl_stk k hs (Bool.eq_false_iff.mpr hal) (f + 1) t (Nat.le_refl _) hid, if_neg (by omega)]
        exact ⟨x1, rfl, hFr.tr q2⟩
theorem x_stepsUntilDone {F : Nat} (hF : 1000 ≤ F) {x : HT} {a : Nat → Nat} (k : WF1 a) (hx : EX a) (hR : RX x 0 a) (hW : WX x a) {i : Int32} {p : Nat → Bool} (hp : pI i p) (hi : i = -1 ∨ ∃ I, I < a 3 ∧ i = nI I) : ∃ x', fX6_stepsUntilDone F x i = some (whn a p, x') ∧ Fr2 x x' := by
  obtain ⟨x1, e1, f1, r1⟩ := x_copyFrom (F := F) (j := 2) (j2 := 0) (by omega) x
  have hR1 := r1 a k.1.2.1 hR
  have hW1 := f1.wx (by omega) hW
  obtain ⟨x2, e2, f2, t2⟩ := x_enter hF (j := 2) (by omega) k hR1 hW1
  obtain ⟨x3, e3, f3⟩ := x_when_l hF (x0 := x2) k hx hp hi 401 0 F x2 (by omega) (by omega) (f2.rx (by omega) hR1) (f2.wx k.1.2.1 hW1) t2 FrT.rf
  unfold fX6_stepsUntilDone
  rw [bds e1, bds e2]
  exact ⟨x3, e3, (f1.f2.tr f2.f2).tr f3.f2⟩
