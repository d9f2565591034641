-- ===== no channel is held by two worms =====
theorem wP_inc {a : Nat → Nat} (k : WF0 a) {w : Nat} (hw : w < 2 * a 3) : ∀ d i, i + d + 1 ≤ wN a w → if w % 2 = 0 then wP a w i < wP a w (i + d + 1) else wP a w (i + d + 1) < wP a w i := by
  obtain ⟨hok, -, -⟩ := wyB k hw
  have h4 : ∀ j, j < wN a w → (if w % 2 = 0 then wP a w j < wP a w (j + 1) else wP a w (j + 1) < wP a w j) := fun j hj => (hok.2.2.2.1 j hj).1
  intro d
  induction d with
  | zero => intro i hi; exact h4 i (by omega)
  | succ d ih =>
    intro i hi
    have h1 := ih i (by omega)
    have h2 := h4 (i + d + 1) (by omega)
    rw [show i + (d + 1) + 1 = i + d + 1 + 1 by omega]
    by_cases e : w % 2 = 0
    · rw [if_pos e] at h1 h2 ⊢; omega
    · rw [if_neg e] at h1 h2 ⊢; omega
theorem wP_inj {a : Nat → Nat} (k : WF0 a) {w : Nat} (hw : w < 2 * a 3) {i j : Nat} (hi : i ≤ wN a w) (hj : j ≤ wN a w) (h : wP a w i = wP a w j) : i = j := by
  have key : ∀ i j, i < j → j ≤ wN a w → wP a w i ≠ wP a w j := by
    intro i j hij hj
    have := wP_inc k hw (j - i - 1) i (by omega)
    rw [show i + (j - i - 1) + 1 = j by omega] at this
    split at this <;> omega
  rcases Nat.lt_trichotomy i j with e | e | e
  · exact absurd h (key i j e hj)
  · exact e
  · exact absurd h.symm (key j i e hi)
theorem chn_inj {a : Nat → Nat} (k : WF0 a) {w : Nat} (hw : w < 2 * a 3) {i j : Nat} (hi : i < wN a w) (hj : j < wN a w) (h : chn a w i = chn a w j) : i = j := by
  have d1 : dirOf (a 0) (a 1) (wP a w i) (wP a w (i + 1)) < 4 := dirOf_lt
  have d2 : dirOf (a 0) (a 1) (wP a w j) (wP a w (j + 1)) < 4 := dirOf_lt
  unfold chn at h
  exact wP_inj k hw (by omega) (by omega) (by omega)
theorem hldK_iff {a : Nat → Nat} {w c : Nat} : hldK a w c = true ↔ ∃ k, hTail a w ≤ k ∧ k < hHead a w ∧ chn a w k = c := by
  unfold hldK
  rw [anyK_iff]
  constructor
  · rintro ⟨q, h1, h2⟩
    simp only [Bool.and_eq_true, decide_eq_true_eq] at h2
    exact ⟨q, h2.1, h1, h2.2⟩
  · rintro ⟨q, h1, h2, h3⟩
    exact ⟨q, h2, by simp [h1, h3]⟩
theorem hldC_iff {a : Nat → Nat} {c : Nat} : hldC a c = true ↔ ∃ w, w < 2 * a 3 ∧ hldK a w c = true := by
  unfold hldC
  rw [anyK_iff]
theorem hldB_K {a : Nat → Nat} (k : WF0 a) {w f t : Nat} (hw : w < 2 * a 3) (hadj : bes (a 0) (a 1) f (dirOf (a 0) (a 1) f t) = t) : hldB a w f t = hldK a w (4 * f + dirOf (a 0) (a 1) f t) := by
  rw [Bool.eq_iff_iff, hldK_iff]
  have hh := hHead_le (a := a) (w := w)
  unfold hldB
  rw [anyK_iff]
  constructor
  · rintro ⟨q, h1, h2⟩
    simp only [Bool.and_eq_true, decide_eq_true_eq] at h2
    exact ⟨q, h2.1, h1, by rw [chn, h2.2.1, h2.2.2]⟩
  · rintro ⟨q, h1, h2, h3⟩
    have d1 : dirOf (a 0) (a 1) (wP a w q) (wP a w (q + 1)) < 4 := dirOf_lt
    have d2 : dirOf (a 0) (a 1) f t < 4 := dirOf_lt
    unfold chn at h3
    have e1 : wP a w q = f := by omega
    have e2 : dirOf (a 0) (a 1) (wP a w q) (wP a w (q + 1)) = dirOf (a 0) (a 1) f t := by omega
    have h4 := wP_adj k hw (j := q) (by omega)
    rw [e2, e1, hadj] at h4
    exact ⟨q, h2, by simp [h1, e1, h4]⟩
theorem hdr_C {a : Nat → Nat} (k : WF0 a) {f t : Nat} (hadj : bes (a 0) (a 1) f (dirOf (a 0) (a 1) f t) = t) : decide (hdr a f t ≠ 99) = hldC a (4 * f + dirOf (a 0) (a 1) f t) := by
  have h5 := k.2.1
  rw [Bool.eq_iff_iff, decide_eq_true_eq, hldC_iff, Ne, hdr, fstK_99 (by omega)]
  constructor
  · intro h
    by_cases e : ∃ w, w < 2 * a 3 ∧ hldK a w (4 * f + dirOf (a 0) (a 1) f t) = true
    · exact e
    · exfalso
      refine h (fun w hw => ?_)
      rw [hldB_K k hw hadj]
      exact Bool.eq_false_iff.mpr (fun q => e ⟨w, hw, q⟩)
  · rintro ⟨w, hw, h1⟩ h2
    have := h2 w hw
    rw [hldB_K k hw hadj, h1] at this
    cases this
theorem blk_eq {a : Nat → Nat} (k : WF0 a) {w : Nat} (hw : w < 2 * a 3) : blk a w = (decide (mvw a w < wN a w) && (dwK a w (mvw a w) || hldC a (chn a w (mvw a w)))) := by
  unfold blk dwK chn
  by_cases e : mvw a w < wN a w
  · rw [hdr_C k (wP_adj k hw e)]
  · simp [e]
def EX (a : Nat → Nat) : Prop := ∀ w v c, w < 2 * a 3 → v < 2 * a 3 → w ≠ v → hldK a w c = true → hldK a v c = false
theorem smR.e_c {a b : Nat → Nat} (h : smR a b) (w j : Nat) : chn b w j = chn a w j := by unfold chn; rw [h.1, h.2.1, h.e_p, h.e_p]
theorem hHead_cg {a b : Nat → Nat} (h : smR a b) {v : Nat} (hm : mvw b v = mvw a v) : hHead b v = hHead a v := by unfold hHead; rw [hm, h.e_n]
theorem hTail_cg {a b : Nat → Nat} (h : smR a b) {v : Nat} (hm : mvw b v = mvw a v) : hTail b v = hTail a v := by unfold hTail; rw [hm, h.ln]
theorem anyK_cg {p q : Nat → Bool} (h : ∀ k, p k = q k) (n : Nat) : anyK p n = anyK q n := by rw [show p = q from funext h]
theorem hld_mv {a b : Nat → Nat} (h : smR a b) {v : Nat} (hm : mvw b v = mvw a v) (c : Nat) : hldK b v c = hldK a v c := by
  unfold hldK
  rw [hHead_cg h hm, hTail_cg h hm]
  exact anyK_cg (fun k => by rw [h.e_c]) _
theorem hld_go {a b : Nat → Nat} (h : smR a b) {w : Nat} (hm : mvw b w = mvw a w + 1) (c : Nat) : hldK b w c = true ↔ ∃ k, mvw a w + 1 - lnw a w ≤ k ∧ k < (if mvw a w + 1 < wN a w then mvw a w + 1 else wN a w) ∧ chn a w k = c := by
  rw [hldK_iff]
  simp only [hTail, hHead, hm, h.ln, h.e_n, h.e_c]
theorem hld_C {a b : Nat → Nat} (h : smR a b) (hm : ∀ v, v < 2 * a 3 → mvw b v = mvw a v) (c : Nat) : hldC b c = hldC a c := by
  rw [Bool.eq_iff_iff, hldC_iff, hldC_iff, h.2.2.1]
  constructor
  · rintro ⟨w, h1, h2⟩; exact ⟨w, h1, by rw [← hld_mv h (hm w h1)]; exact h2⟩
  · rintro ⟨w, h1, h2⟩; exact ⟨w, h1, by rw [hld_mv h (hm w h1)]; exact h2⟩
theorem EX.cg {a b : Nat → Nat} (hx : EX a) (h : smR a b) (hm : ∀ v, v < 2 * a 3 → mvw b v = mvw a v) : EX b := by
  intro w v c h1 h2 h3 h4
  rw [h.2.2.1] at h1 h2
  rw [hld_mv h (hm w h1)] at h4
  rw [hld_mv h (hm v h2)]
  exact hx w v c h1 h2 h3 h4
theorem gos_C {a : Nat → Nat} (k : WF1 a) (hx : EX a) {w : Nat} (hw : w < 2 * a 3) (hnd : dnW a w = false) (hnb : blk a w = false) (c : Nat) : hldC (gos a w) c = (if lnw a w ≤ mvw a w ∧ mvw a w - lnw a w < wN a w ∧ c = chn a w (mvw a w - lnw a w) then false else if mvw a w < wN a w ∧ c = chn a w (mvw a w) then true else hldC a c) := by
  obtain ⟨b1, b2, b3, b4, b5, b6⟩ := k.b hw
  have hs := gos_sm (a := a) b1
  have hmw : mvw (gos a w) w = mvw a w + 1 := by rw [gos_mv, if_pos ⟨rfl, hnd, hnb⟩]
  have hmv : ∀ v, v ≠ w → mvw (gos a w) v = mvw a v := fun v hv => by rw [gos_mv, if_neg (fun z => hv z.1)]
  have go := hld_go hs hmw c
  have hHd : ∀ q, q < hHead a w ↔ q < mvw a w ∧ q < wN a w := fun q => by unfold hHead; split <;> omega
  by_cases c1 : lnw a w ≤ mvw a w ∧ mvw a w - lnw a w < wN a w ∧ c = chn a w (mvw a w - lnw a w)
  · rw [if_pos c1]
    obtain ⟨u1, u2, u3⟩ := c1
    rw [Bool.eq_false_iff, Ne, hldC_iff]
    rintro ⟨v, hv, h1⟩
    rw [hs.2.2.1] at hv
    by_cases e : v = w
    · subst e
      obtain ⟨q, q1, q2, q3⟩ := go.mp h1
      have := chn_inj k.1 hw (i := q) (j := mvw a v - lnw a v) (by split at q2 <;> omega) u2 (q3.trans u3)
      omega
    · rw [hld_mv hs (hmv v e)] at h1
      have h2 : hldK a w c = true := hldK_iff.mpr ⟨mvw a w - lnw a w, Nat.le_refl _, (hHd _).mpr ⟨by omega, u2⟩, u3.symm⟩
      rw [hx w v c hw hv (fun z => e z.symm) h2] at h1
      cases h1
  · rw [if_neg c1]
    by_cases c2 : mvw a w < wN a w ∧ c = chn a w (mvw a w)
    · rw [if_pos c2, hldC_iff]
      exact ⟨w, by rw [hs.2.2.1]; exact hw, go.mpr ⟨mvw a w, by omega, by split <;> omega, c2.2.symm⟩⟩
    · rw [if_neg c2, Bool.eq_iff_iff, hldC_iff, hldC_iff, hs.2.2.1]
      constructor
      · rintro ⟨v, hv, h1⟩
        refine ⟨v, hv, ?_⟩
        by_cases e : v = w
        · subst e
          obtain ⟨q, q1, q2, q3⟩ := go.mp h1
          have q4 : q ≠ mvw a v := fun z => c2 ⟨by split at q2 <;> omega, by rw [← q3, z]⟩
          exact hldK_iff.mpr ⟨q, by unfold hTail; omega, (hHd q).mpr (by split at q2 <;> omega), q3⟩
        · rw [hld_mv hs (hmv v e)] at h1; exact h1
      · rintro ⟨v, hv, h1⟩
        refine ⟨v, hv, ?_⟩
        by_cases e : v = w
        · subst e
          obtain ⟨q, q1, q2, q3⟩ := hldK_iff.mp h1
          have q5 := (hHd q).mp q2
          unfold hTail at q1
          have q4 : ¬ (lnw a v ≤ mvw a v ∧ q = mvw a v - lnw a v) := fun z => c1 ⟨z.1, by omega, by rw [← q3, z.2]⟩
          exact go.mpr ⟨q, by omega, by split <;> omega, q3⟩
        · rw [hld_mv hs (hmv v e)]; exact h1
theorem gos_EX {a : Nat → Nat} (k : WF1 a) (hx : EX a) {w : Nat} (hw : w < 2 * a 3) : EX (gos a w) := by
  obtain ⟨b1, b2, b3, b4, b5, b6⟩ := k.b hw
  have hs := gos_sm (a := a) b1
  by_cases hc : dnW a w = false ∧ blk a w = false
  · obtain ⟨hnd, hnb⟩ := hc
    have hmw : mvw (gos a w) w = mvw a w + 1 := by rw [gos_mv, if_pos ⟨rfl, hnd, hnb⟩]
    have hmv : ∀ v, v ≠ w → mvw (gos a w) v = mvw a v := fun v hv => by rw [gos_mv, if_neg (fun z => hv z.1)]
    have hHd : ∀ q, q < hHead a w ↔ q < mvw a w ∧ q < wN a w := fun q => by unfold hHead; split <;> omega
    have key : ∀ c v, v < 2 * a 3 → v ≠ w → hldK (gos a w) w c = true → hldK a v c = false := by
      intro c v hv hne h1
      obtain ⟨q, q1, q2, q3⟩ := (hld_go hs hmw c).mp h1
      by_cases e : q = mvw a w
      · have hlt : mvw a w < wN a w := by split at q2 <;> omega
        rw [blk_eq k.1 hw] at hnb
        have h9 : hldC a (chn a w (mvw a w)) = false := by
          rcases Bool.eq_false_or_eq_true (hldC a (chn a w (mvw a w))) with z | z
          · rw [z] at hnb; simp [hlt] at hnb
          · exact z
        rw [Bool.eq_false_iff]
        intro h2
        rw [Bool.eq_false_iff] at h9
        exact h9 (hldC_iff.mpr ⟨v, hv, by rw [← e, q3]; exact h2⟩)
      · exact hx w v c hw hv (fun z => hne z.symm) (hldK_iff.mpr ⟨q, by unfold hTail; omega, (hHd q).mpr (by split at q2 <;> omega), q3⟩)
    intro u v c h1 h2 h3 h4
    rw [hs.2.2.1] at h1 h2
    by_cases e1 : u = w
    · subst e1
      have e2 : v ≠ u := fun z => h3 z.symm
      rw [hld_mv hs (hmv v e2)]
      exact key c v h2 e2 h4
    · rw [hld_mv hs (hmv u e1)] at h4
      by_cases e2 : v = w
      · subst e2
        rw [Bool.eq_false_iff]
        intro h5
        rw [key c u h1 e1 h5] at h4
        cases h4
      · rw [hld_mv hs (hmv v e2)]
        exact hx u v c h1 h2 h3 h4
  · exact hx.cg hs (fun v hv => by rw [gos_mv, if_neg (fun z => hc z.2)])
theorem gosN_EX {a : Nat → Nat} (k : WF1 a) (hx : EX a) : ∀ n, n ≤ 2 * a 3 → EX (gosN a n)
  | 0, _ => hx
  | n + 1, hn => by
    obtain ⟨i1, i2, i3⟩ := gosN_ok k n (by omega)
    exact gos_EX i1 (gosN_EX k hx n (by omega)) (by rw [i2.2.2.1]; omega)
theorem mvw_up2 {a : Nat → Nat} {v w : Nat} : mvw (upN a 2 v) w = mvw a w := by unfold mvw upN; rw [if_neg (by omega)]
theorem wtw_up2 {a : Nat → Nat} {v w : Nat} : wtw (upN a 2 v) w = wtw a w := by unfold wtw upN; rw [if_neg (by omega)]
theorem stp_EX {a : Nat → Nat} (k : WF1 a) (hx : EX a) : EX (stp a) := (gosN_EX k hx _ (Nat.le_refl _)).cg smR.up2 (fun _ _ => mvw_up2)
theorem itS_EX {a : Nat → Nat} (k : WF1 a) (hx : EX a) : ∀ t, EX (itS a t)
  | 0 => hx
  | t + 1 => stp_EX (itS_ok k t).1 (itS_EX k hx t)
theorem itS_s (a : Nat → Nat) : ∀ n, itS (stp a) n = itS a (n + 1)
  | 0 => rfl
  | n + 1 => by show stp (itS (stp a) n) = stp (itS a (n + 1)); rw [itS_s a n]
-- ===== where nothing moves =====
def mvB (a : Nat → Nat) : Nat → Bool
  | 0 => false
  | n + 1 => mvB a n || (!dnW (gosN a n) n && !blk (gosN a n) n)
def stk (a : Nat → Nat) : Prop := ∀ w, w < 2 * a 3 → dnW a w = true ∨ blk a w = true
theorem dnW_cg {a b : Nat → Nat} (h : smR a b) {w : Nat} (hm : mvw b w = mvw a w) : dnW b w = dnW a w := by
  simp only [dnW, hm, h.e_n, h.ln]
theorem hdr_cg {a b : Nat → Nat} (h : smR a b) (hm : ∀ v, mvw b v = mvw a v) (f t : Nat) : hdr b f t = hdr a f t := by
  unfold hdr
  rw [h.2.2.1, show (fun w => hldB b w f t) = (fun w => hldB a w f t) from funext (fun w => by
    unfold hldB
    rw [hHead_cg h (hm w), hTail_cg h (hm w)]
    exact anyK_cg (fun k => by rw [h.e_p, h.e_p]) _)]
theorem blk_cg {a b : Nat → Nat} (h : smR a b) (hm : ∀ v, mvw b v = mvw a v) (w : Nat) : blk b w = blk a w := by
  simp only [blk, hdr_cg h hm, hm, h.e_n, h.e_p, h.1, h.2.1, dnB, h.2.2.2.2]
theorem mvB_f {a : Nat → Nat} (k : WF1 a) : ∀ n, n ≤ 2 * a 3 → mvB a n = false → (∀ v, mvw (gosN a n) v = mvw a v) ∧ ∀ w, w < n → dnW a w = true ∨ blk a w = true
  | 0, _, _ => ⟨fun _ => rfl, fun w hw => absurd hw (Nat.not_lt_zero w)⟩
  | n + 1, hn, h => by
    rw [mvB, Bool.or_eq_false_iff] at h
    obtain ⟨h1, h2⟩ := mvB_f k n (by omega) h.1
    obtain ⟨i1, i2, i3⟩ := gosN_ok k n (by omega)
    have hd := dnW_cg i2 (h1 n)
    have hb := blk_cg i2 h1 n
    have h3 : ¬ (dnW (gosN a n) n = false ∧ blk (gosN a n) n = false) := fun z => by
      have := h.2; rw [z.1, z.2] at this; cases this
    refine ⟨fun v => ?_, fun w hw => ?_⟩
    · show mvw (gos (gosN a n) n) v = _
      rw [gos_mv, if_neg (fun z => h3 z.2), h1]
    · by_cases e : w = n
      · subst e
        rw [← hd, ← hb]
        rcases Bool.eq_false_or_eq_true (dnW (gosN a w) w) with z | z
        · exact Or.inl z
        · rcases Bool.eq_false_or_eq_true (blk (gosN a w) w) with y | y
          · exact Or.inr y
          · exact absurd ⟨z, y⟩ h3
      · exact h2 w (by omega)
theorem stk_g {a : Nat → Nat} (k : WF1 a) (hs : stk a) : ∀ n, n ≤ 2 * a 3 → (∀ v, mvw (gosN a n) v = mvw a v) ∧ ∀ v, wtw (gosN a n) v = wtw a v + (if v < n ∧ dnW a v = false then 1 else 0)
  | 0, _ => ⟨fun _ => rfl, fun v => by rw [if_neg (by omega)]; rfl⟩
  | n + 1, hn => by
    obtain ⟨h1, h2⟩ := stk_g k hs n (by omega)
    obtain ⟨i1, i2, i3⟩ := gosN_ok k n (by omega)
    have hd := dnW_cg i2 (h1 n)
    have hb := blk_cg i2 h1 n
    have e1 : gosN a (n + 1) = gos (gosN a n) n := rfl
    rw [e1]
    by_cases e : dnW a n = true
    · rw [gos, if_pos (by rw [hd]; exact e)]
      refine ⟨h1, fun v => ?_⟩
      rw [h2]
      by_cases c : v < n ∧ dnW a v = false
      · rw [if_pos c, if_pos ⟨by omega, c.2⟩]
      · rw [if_neg c, if_neg (fun z => by
          by_cases q : v = n
          · subst q; rw [e] at z; cases z.2
          · exact c ⟨by omega, z.2⟩)]
    · have e2 : blk a n = true := (hs n (by omega)).resolve_left e
      rw [gos, if_neg (by rw [hd]; exact e), if_pos (by rw [hb]; exact e2)]
      refine ⟨fun v => by rw [mvw_upW, h1], fun v => ?_⟩
      rw [wtw_upW]
      by_cases q : v = n
      · subst q
        rw [if_pos rfl, h2, if_neg (by omega), if_pos ⟨by omega, Bool.eq_false_iff.mpr e⟩]
      · rw [if_neg q, h2]
        by_cases c : v < n ∧ dnW a v = false
        · rw [if_pos c, if_pos ⟨by omega, c.2⟩]
        · rw [if_neg c, if_neg (fun z => c ⟨by omega, z.2⟩)]
theorem stk_i {a : Nat → Nat} (k : WF1 a) (hs : stk a) : ∀ n, stk (itS a n) ∧ (∀ v, mvw (itS a n) v = mvw a v) ∧ (∀ v, v < 2 * a 3 → wtw (itS a n) v = wtw a v + (if dnW a v = false then n else 0)) ∧ itS a n 2 = a 2 + n
  | 0 => ⟨hs, fun _ => rfl, fun v _ => by split <;> rfl, rfl⟩
  | n + 1 => by
    obtain ⟨h1, h2, h3, h4⟩ := stk_i k hs n
    obtain ⟨q1, q2⟩ := itS_ok k n
    obtain ⟨g1, g2⟩ := stk_g q1 h1 _ (Nat.le_refl _)
    obtain ⟨z1, z2, z3⟩ := gosN_ok q1 _ (Nat.le_refl _)
    have e1 : itS a (n + 1) = stp (itS a n) := rfl
    have hm : ∀ v, mvw (stp (itS a n)) v = mvw (itS a n) v := fun v => by rw [stp, mvw_up2, g1]
    have hsm := (stp_ok q1).2
    rw [e1]
    refine ⟨fun w hw => ?_, fun v => by rw [hm, h2], fun v hv => ?_, ?_⟩
    · rw [hsm.2.2.1] at hw
      rw [dnW_cg hsm (hm w), blk_cg hsm hm]
      exact h1 w hw
    · rw [stp, wtw_up2, g2, h3 v hv, dnW_cg q2 (h2 v), q2.2.2.1]
      by_cases c : dnW a v = false
      · rw [if_pos c, if_pos ⟨hv, c⟩, if_pos c]; omega
      · rw [if_neg c, if_neg (fun z => c z.2), if_neg c]
    · rw [stp, upN, if_pos rfl, h4]; omega
