-- ===== the class: what is told in =====
def CX (x : HT) (a : Nat → Nat) : Prop := RX x 0 a ∧ GX x (a 0) (a 1) ∧ WX x a
/-- all but what is laid out is as it was -/
def FrL (x x' : HT) : Prop := x'.2 = x.2 ∧ ∀ c q, (c < 59 ∨ 86 < c) → x'.1 c q = x.1 c q
theorem FrL.rf {x : HT} : FrL x x := ⟨rfl, fun _ _ _ => rfl⟩
theorem FrL.tr {x y z : HT} (h : FrL x y) (g : FrL y z) : FrL x z := ⟨g.1.trans h.1, fun c q a => (g.2 c q a).trans (h.2 c q a)⟩
theorem FrW.l {x x' : HT} {w : Nat} (hw : w < 10) (h : FrW x x' w) : FrL x x' := ⟨h.1, fun c q a => h.2.1 c q (by omega) (by omega) (by omega)⟩
theorem FrG.l {x x' : HT} (h : FrG x x') : FrL x x' := ⟨h.1, fun c q a => h.2 c q (by omega) (by omega) (by omega) (by omega)⟩
theorem FrL.rx {j : Nat} (hj : j < 8) {x x' : HT} {a : Nat → Nat} (h : FrL x x') (r : RX x j a) : RX x' j a := by
  obtain ⟨r1, r2, r3, r4, r5, r6, r7⟩ := r
  refine ⟨?_, ?_, ?_, ?_, fun l hl => ?_, fun q hq => ?_, fun v hv => ?_⟩
  · rw [h.2 _ _ (by omega)]; exact r1
  · rw [h.2 _ _ (by omega)]; exact r2
  · rw [h.2 _ _ (by omega)]; exact r3
  · rw [h.2 _ _ (by omega)]; exact r4
  · rw [h.2 _ _ (by omega)]; exact r5 l hl
  · rw [h.2 _ _ (by omega), h.2 _ _ (by omega), h.1]; exact r6 q hq
  · rw [h.2 _ _ (by omega), h.2 _ _ (by omega)]; exact r7 v hv
/-- what is told in leaves all else as it was -/
def FrP (x x' : HT) : Prop := ∀ c q, (c = 0 ∨ (7 < c ∧ c < 59) ∨ 88 < c) → x'.1 c q = x.1 c q ∧ x'.2 c q = x.2 c q
theorem FrP.rf {x : HT} : FrP x x := fun _ _ _ => ⟨rfl, rfl⟩
theorem FrP.tr {x y z : HT} (h : FrP x y) (g : FrP y z) : FrP x z := fun c q a => ⟨(g c q a).1.trans (h c q a).1, (g c q a).2.trans (h c q a).2⟩
theorem FrL.p {x x' : HT} (h : FrL x x') : FrP x x' := fun c q a => ⟨h.2 c q (by omega), by rw [h.1]⟩
theorem FrJ.p {x x' : HT} (h : FrJ 0 x x') : FrP x x' := fun c q a => h c q (by omega)
theorem FrT.p {x x' : HT} (h : FrT 0 x x') : FrP x x' := fun c q a => ⟨h.2 c q (by omega) (by omega) (by omega) (by omega), by rw [h.1]⟩
theorem FrP.rx {j : Nat} (hj : j < 8) (h0 : j ≠ 0) {x x' : HT} {a : Nat → Nat} (h : FrP x x') (r : RX x j a) : RX x' j a := by
  obtain ⟨r1, r2, r3, r4, r5, r6, r7⟩ := r
  refine ⟨?_, ?_, ?_, ?_, fun l hl => ?_, fun q hq => ?_, fun v hv => ?_⟩
  · rw [(h _ _ (by omega)).1]; exact r1
  · rw [(h _ _ (by omega)).1]; exact r2
  · rw [(h _ _ (by omega)).1]; exact r3
  · rw [(h _ _ (by omega)).1]; exact r4
  · rw [(h _ _ (by omega)).1]; exact r5 l hl
  · rw [(h _ _ (by omega)).1, (h _ _ (by omega)).1, (h _ _ (by omega)).2]; exact r6 q hq
  · rw [(h _ _ (by omega)).1, (h _ _ (by omega)).1]; exact r7 v hv
def wx1 (x : HT) (a : Nat → Nat) (w : Nat) : Prop := x.1 64 w = nI (wN a w) ∧ CtX x (a 0) (a 1) w (wy a w)
theorem FrW.wx1 {x x' : HT} {a : Nat → Nat} {w v : Nat} (hv : v < 10) (hw : w < 10) (hne : v ≠ w) (h : FrW x x' w) (r : wx1 x a v) : wx1 x' a v := by
  obtain ⟨r1, r2, r3⟩ := r
  exact ⟨by rw [h.2.2 v hne]; exact r1, fun j hj => by rw [h.2.1 _ _ (by omega) (by omega) (by omega)]; exact r2 j hj, fun j hj => by rw [h.2.1 _ _ (by omega) (by omega) (by omega)]; exact r3 j hj⟩
theorem x_layMessage {F : Nat} (hF : 1000 ≤ F) {x : HT} {a : Nat → Nat} (k : WF0 a) (hR : RX x 0 a) (hG : GX x (a 0) (a 1)) {i : Nat} (hi : i < a 3) : ∃ x', fX6_layMessage F x (nI i) = some ((), x') ∧ FrL x x' ∧ GX x' (a 0) (a 1) ∧ (∀ w, w / 2 = i → wx1 x' a w) ∧ ∀ (b : Nat → Nat) w, w < 10 → w / 2 ≠ i → wx1 x b w → wx1 x' b w := by
  have h5 := k.2.1
  obtain ⟨x1, e1, f1, n1', c1⟩ := x_layW hF k (w := 2 * i) (j := 0) (by omega) (by omega) hR hG
  have hR1 := (f1.l (by omega)).rx (by omega) hR
  have hG1 := f1.gx (by omega) hG
  obtain ⟨x2, e2, f2, n2', c2⟩ := x_layW hF k (w := 2 * i + 1) (j := 0) (by omega) (by omega) hR1 hG1
  unfold fX6_layMessage
  rw [n2, pk_mul, Nat.mul_comm i 2, bds e1, nI_1, bds e2]
  refine ⟨x2, rfl, (f1.l (by omega)).tr (f2.l (by omega)), f2.gx (by omega) hG1, fun w hw => ?_, fun b w hw10 hw hx => ?_⟩
  · rcases (show w = 2 * i ∨ w = 2 * i + 1 by omega) with rfl | rfl
    · exact f2.wx1 (by omega) (by omega) (by omega) ⟨n1', c1⟩
    · exact ⟨n2', c2⟩
  · exact f2.wx1 hw10 (by omega) (by omega) (f1.wx1 hw10 (by omega) (by omega) hx)
theorem x_layAll_l {F : Nat} (hF : 1000 ≤ F) {x0 : HT} {a : Nat → Nat} (k : WF0 a) : ∀ d i n x, i + d = a 3 → d < n → RX x 0 a → GX x (a 0) (a 1) → (∀ w, w < 2 * i → wx1 x a w) → FrL x0 x → ∃ x', fX6_layAll_23 F n x (nI i) = some ((), x') ∧ FrL x0 x' ∧ CX x' a := by
  have h5 := k.2.1
  intro d
  induction d with
  | zero =>
    intro i n x hid hd hR hG hW hFr
    obtain ⟨n, rfl⟩ : ∃ n', n = n' + 1 := ⟨n - 1, by omega⟩
    show ∃ x', fX6_layAll_23b F (fX6_layAll_23 F n) x _ = _ ∧ _
    unfold fX6_layAll_23b
    rw [hR.2.2.2.1, if_pos (by rw [le_nI (by omega) (by omega)]; omega)]
    exact ⟨x, rfl, hFr, hR, hG, fun w hw => hW w (by omega)⟩
  | succ d ih =>
    intro i n x hid hd hR hG hW hFr
    obtain ⟨n, rfl⟩ : ∃ n', n = n' + 1 := ⟨n - 1, by omega⟩
    obtain ⟨x1, e1, f1, g1, w1, w2⟩ := x_layMessage hF k hR hG (i := i) (by omega)
    show ∃ x', fX6_layAll_23b F (fX6_layAll_23 F n) x _ = _ ∧ _
    unfold fX6_layAll_23b
    rw [hR.2.2.2.1, if_neg (by rw [le_nI (by omega) (by omega)]; omega), bds e1, lts, nI_1]
    refine ih (i + 1) n x1 (by omega) (by omega) (f1.rx (by omega) hR) g1 (fun w hw => ?_) (hFr.tr f1)
    by_cases e : w / 2 = i
    · exact w1 w e
    · exact w2 a w (by omega) e (hW w (by omega))
theorem x_layAll {F : Nat} (hF : 1000 ≤ F) {x : HT} {a : Nat → Nat} (k : WF0 a) (hR : RX x 0 a) {W H : Nat} (kW : okW W H) (hG : GX x W H) : ∃ x', fX6_layAll F x = some ((), x') ∧ FrL x x' ∧ CX x' a := by
  have h5 := k.2.1
  obtain ⟨k1, k2, k3, k4⟩ := id kW
  obtain ⟨q1, q2, q3, q4⟩ := id k.1
  obtain ⟨x1, e1, f1, g1⟩ := x_lay hF (x := x) k.1 (fun W' H' h1 h2 h3 h4 h6 h7 => by
    have e1 := hG.1
    have e2 := hG.2.1
    rw [h3, eq_nI (by omega) (by omega)] at e1
    rw [h4, eq_nI (by omega) (by omega)] at e2
    rw [show a 0 = W by omega, show a 1 = H by omega]
    exact hG)
  obtain ⟨x2, e2, f2, c2⟩ := x_layAll_l hF (x0 := x1) k (a 3) 0 F x1 (by omega) (by omega) (f1.l.rx (by omega) hR) g1 (fun w hw => by omega) FrL.rf
  have e2' : fX6_layAll_23 F F x1 0 = some ((), x2) := e2
  have h0 : x.1 (7 * 0 + 1) 0 = nI (a 0) := hR.1
  have h1 : x.1 (7 * 0 + 1) 1 = nI (a 1) := hR.2.1
  unfold fX6_layAll
  rw [h0, h1, bds e1, e2']
  exact ⟨x2, rfl, f1.l.tr f2, c2⟩
-- a mesh
theorem fill_r (F k N : Nat) (x : HT) (v : Int32) : fJ7_fill F k N x v = some ((), sA x k (fun i => if i < N then v else x.1 k i)) := rfl
theorem x_standStill (F j : Nat) (x : HT) : ∃ x', fX2_standStill F j x = some ((), x') ∧ x'.2 = x.2 ∧ (∀ c q, x'.1 c q = if c = 7 * j + 7 ∧ q < 10 then 0 else if c = 7 * j + 6 ∧ q < 10 then 0 else if c = 7 * j + 1 ∧ q = 2 then 0 else x.1 c q) := by
  unfold fX2_standStill
  rw [lts]
  generalize h1 : sI x (7 * j + 1) 2 0 = x1
  rw [fill_r, bdk]
  generalize h2 : sA x1 (7 * j + 6) _ = x2
  rw [fill_r, bdk]
  generalize h3 : sA x2 (7 * j + 7) _ = x3
  have r1 : ∀ c q, x1.1 c q = if c = 7 * j + 1 ∧ q = 2 then 0 else x.1 c q := fun c q => by rw [← h1, sI_r]
  have r2 : ∀ c q, x2.1 c q = if c = 7 * j + 6 then (if q < 10 then 0 else x1.1 (7 * j + 6) q) else x1.1 c q := fun c q => by rw [← h2, sA_r]
  have r3 : ∀ c q, x3.1 c q = if c = 7 * j + 7 then (if q < 10 then 0 else x2.1 (7 * j + 7) q) else x2.1 c q := fun c q => by rw [← h3, sA_r]
  have s3 : x3.2 = x.2 := by rw [← h3]; show x2.2 = _; rw [← h2]; show x1.2 = _; rw [← h1]; rfl
  refine ⟨x3, rfl, s3, fun c q => ?_⟩
  rw [r3]
  by_cases c1 : c = 7 * j + 7
  · rw [if_pos c1]
    by_cases c2 : q < 10
    · rw [if_pos c2, if_pos ⟨c1, c2⟩]
    · rw [if_neg c2, r2, if_neg (by omega), r1, if_neg (by omega), if_neg (by omega), if_neg (by omega), if_neg (by omega), c1]
  · rw [if_neg c1, r2, if_neg (show ¬ (c = 7 * j + 7 ∧ q < 10) from fun z => c1 z.1)]
    by_cases c3 : c = 7 * j + 6
    · rw [if_pos c3]
      by_cases c2 : q < 10
      · rw [if_pos c2, if_pos ⟨c3, c2⟩]
      · rw [if_neg c2, r1, if_neg (by omega), if_neg (by omega), if_neg (by omega), c3]
    · rw [if_neg c3, r1, if_neg (show ¬ (c = 7 * j + 6 ∧ q < 10) from fun z => c3 z.1)]
theorem x_begin (F j : Nat) (x : HT) (W H : Nat) : ∃ x', fX2_begin F j x (nI W) (nI H) = some ((), x') ∧ FrJ j x x' ∧ RX x' j (rMesh W H) := by
  unfold fX2_begin
  rw [lts]
  generalize h1 : sI x (7 * j + 1) 0 (nI W) = x1
  rw [lts]
  generalize h2 : sI x1 (7 * j + 1) 1 (nI H) = x2
  rw [lts]
  generalize h3 : sI x2 (7 * j + 1) 3 0 = x3
  rw [fill_r, bdk]
  generalize h4 : sA x3 (7 * j + 2) _ = x4
  obtain ⟨x5, e5, s5, r5⟩ := x_standStill F j x4
  have r1 : ∀ c q, x1.1 c q = if c = 7 * j + 1 ∧ q = 0 then nI W else x.1 c q := fun c q => by rw [← h1, sI_r]
  have r2 : ∀ c q, x2.1 c q = if c = 7 * j + 1 ∧ q = 1 then nI H else x1.1 c q := fun c q => by rw [← h2, sI_r]
  have r3 : ∀ c q, x3.1 c q = if c = 7 * j + 1 ∧ q = 3 then 0 else x2.1 c q := fun c q => by rw [← h3, sI_r]
  have r4 : ∀ c q, x4.1 c q = if c = 7 * j + 2 then (if q < 36 then 0 else x3.1 (7 * j + 2) q) else x3.1 c q := fun c q => by rw [← h4, sA_r]
  have s4 : x4.2 = x.2 := by rw [← h4]; show x3.2 = _; rw [← h3]; show x2.2 = _; rw [← h2]; show x1.2 = _; rw [← h1]; rfl
  rw [bds e5]
  refine ⟨x5, rfl, fun c q hc => ⟨?_, by rw [s5, s4]⟩, ?_, ?_, ?_, ?_, fun l hl => ?_, fun i hi => absurd hi (Nat.not_lt_zero i), fun w hw => absurd hw (Nat.not_lt_zero w)⟩
  · rw [r5, if_neg (by omega), if_neg (by omega), if_neg (by omega), r4, if_neg (by omega), r3, if_neg (by omega), r2, if_neg (by omega), r1, if_neg (by omega)]
  · rw [r5, if_neg (by omega), if_neg (by omega), if_neg (by omega), r4, if_neg (by omega), r3, if_neg (by omega), r2, if_neg (by omega), r1, if_pos ⟨rfl, rfl⟩]; rfl
  · rw [r5, if_neg (by omega), if_neg (by omega), if_neg (by omega), r4, if_neg (by omega), r3, if_neg (by omega), r2, if_pos ⟨rfl, rfl⟩]; rfl
  · rw [r5, if_neg (by omega), if_neg (by omega), if_pos ⟨rfl, rfl⟩]; rfl
  · rw [r5, if_neg (by omega), if_neg (by omega), if_neg (by omega), r4, if_neg (by omega), r3, if_pos ⟨rfl, rfl⟩]; rfl
  · rw [r5, if_neg (by omega), if_neg (by omega), if_neg (by omega), r4, if_pos rfl, if_pos hl, show rMesh W H (44 + l) = 0 by unfold rMesh; rw [if_neg (by omega), if_neg (by omega)]]; rfl
theorem x_makeMesh_y {F : Nat} (hF : 1000 ≤ F) {x : HT} {a : Nat → Nat} (ka : okW (a 0) (a 1)) (h : CX x a) {W H : Nat} (k : okW W H) : ∃ x', fX6_makeMesh F x (nI W) (nI H) = some (nI (a 0 * a 1), x') ∧ CX x' (rMesh W H) ∧ FrP x x' := by
  obtain ⟨k1, k2, k3, k4⟩ := id k
  obtain ⟨q1, q2, q3, q4⟩ := id ka
  obtain ⟨hR, hG, hW⟩ := h
  obtain ⟨x1, e1, f1, r1⟩ := x_begin F 0 x W H
  have hG1 := f1.gx (by omega) hG
  obtain ⟨x2, e2, f2, g2⟩ := x_lay hF (x := x1) k (fun W' H' h1 h2 h3 h4 h6 h7 => by
    have e1 := hG1.1
    have e2 := hG1.2.1
    rw [h3, eq_nI (by omega) (by omega)] at e1
    rw [h4, eq_nI (by omega) (by omega)] at e2
    rw [show W = a 0 by omega, show H = a 1 by omega]
    exact hG1)
  unfold fX6_makeMesh
  rw [if_neg (by rw [n2, lt_nI (by omega) (by omega)]; omega), if_neg (by rw [n6, lt_nI (by omega) (by omega)]; omega), if_neg (by rw [n2, lt_nI (by omega) (by omega)]; omega), if_pos (by rw [n6, le_nI (by omega) (by omega)]; omega), bds (x_places hG.1 hG.2.1), bds e1, bds e2]
  exact ⟨x2, rfl, ⟨f2.l.rx (by omega) r1, g2, fun w hw => absurd hw (Nat.not_lt_zero w)⟩, f1.p.tr f2.l.p⟩
theorem x_makeMesh_n {F : Nat} {x : HT} {w h : Int32} (hg : ¬ gMesh w h) : fX6_makeMesh F x w h = some (-2, x) := by
  unfold fX6_makeMesh fX6_makeMesh_22
  by_cases c1 : w < 2
  · rw [if_pos c1]
  · rw [if_neg c1]
    by_cases c2 : 6 < w
    · rw [if_pos c2]
    · rw [if_neg c2]
      by_cases c3 : h < 2
      · rw [if_pos c3]
      · rw [if_neg c3]
        by_cases c4 : h ≤ 6
        · exfalso
          have w0 : ¬ w < 0 := fun q => c1 (Int32.lt_trans q (by decide))
          have h0 : ¬ h < 0 := fun q => c3 (Int32.lt_trans q (by decide))
          obtain ⟨W, hW, rfl⟩ := nI_of w0
          obtain ⟨H, hH, rfl⟩ := nI_of h0
          rw [n2, lt_nI (by omega) (by omega)] at c1 c3
          rw [n6, lt_nI (by omega) (by omega)] at c2
          rw [n6, le_nI (by omega) (by omega)] at c4
          exact hg ⟨W, H, ⟨by omega, by omega, by omega, by omega⟩, rfl, rfl⟩
        · rw [if_neg c4]
-- a message
theorem x_addMsg_l {F j : Nat} {x0 : HT} {i : Nat} (hi : i < 5) (h3 : x0.1 (7 * j + 1) 3 = nI i) : ∀ d w n x, w + d = 2 * i + 2 → 2 * i ≤ w → d < n → x.2 = x0.2 → (∀ c q, x.1 c q = if (c = 7 * j + 6 ∨ c = 7 * j + 7) ∧ 2 * i ≤ q ∧ q < w then 0 else x0.1 c q) →
    ∃ x', fX2_addMessage_39 F j n x (nI i) (nI w) = some (nI i, x') ∧ x'.2 = x0.2 ∧ ∀ c q, x'.1 c q = if c = 7 * j + 1 ∧ q = 3 then nI (i + 1) else if (c = 7 * j + 6 ∨ c = 7 * j + 7) ∧ 2 * i ≤ q ∧ q < 2 * i + 2 then 0 else x0.1 c q := by
  intro d
  induction d with
  | zero =>
    intro w n x hid hw hd h1 h2
    obtain ⟨n, rfl⟩ : ∃ n', n = n' + 1 := ⟨n - 1, by omega⟩
    have ew : w = 2 * i + 2 := by omega
    subst ew
    show ∃ x', fX2_addMessage_39b F (fX2_addMessage_39 F j n) j x _ _ = _ ∧ _
    unfold fX2_addMessage_39b
    rw [n2, pk_mul, nI_add, if_pos (by rw [le_nI (by omega) (by omega)]; omega), lts, h2 (7 * j + 1) 3, if_neg (by omega), h3, nI_1]
    refine ⟨_, rfl, h1, fun c q => ?_⟩
    rw [sI_r]
    by_cases e : c = 7 * j + 1 ∧ q = 3
    · rw [if_pos e, if_pos e]
    · rw [if_neg e, if_neg e, h2]
  | succ d ih =>
    intro w n x hid hw hd h1 h2
    obtain ⟨n, rfl⟩ : ∃ n', n = n' + 1 := ⟨n - 1, by omega⟩
    show ∃ x', fX2_addMessage_39b F (fX2_addMessage_39 F j n) j x _ _ = _ ∧ _
    unfold fX2_addMessage_39b
    rw [n2, pk_mul, nI_add, if_neg (by rw [le_nI (by omega) (by omega)]; omega), ckb (inb_nI (by omega) (by omega)), clamp_nI (by omega), lts, ckb (inb_nI (by omega) (by omega)), lts, lts, nI_1]
    refine ih (w + 1) n _ (by omega) (by omega) (by omega) h1 (fun c q => ?_)
    rw [sI_r, sI_r, h2]
    by_cases e1 : c = 7 * j + 7 ∧ q = w
    · rw [if_pos e1, if_pos (by omega)]
    · rw [if_neg e1]
      by_cases e2 : c = 7 * j + 6 ∧ q = w
      · rw [if_pos e2, if_pos (by omega)]
      · rw [if_neg e2]
        by_cases e3 : (c = 7 * j + 6 ∨ c = 7 * j + 7) ∧ 2 * i ≤ q ∧ q < w
        · rw [if_pos e3, if_pos (by omega)]
        · rw [if_neg e3, if_neg (by omega)]
theorem x_addMsg {F j : Nat} (hF : 1000 ≤ F) {x : HT} {a : Nat → Nat} (hR : RX x j a) (h5 : a 3 < 5) {lb L : Nat} : ∃ x', fX2_addMessage F j x (nI lb) (nI L) = some (nI (a 3), x') ∧ FrJ j x x' ∧ RX x' j (rMsg a lb L) := by
  have r0 := hR
  obtain ⟨a1, a2, a3, a4, a5, a6, a7⟩ := r0
  unfold fX2_addMessage
  rw [a4, lts, if_pos (by rw [n5, lt_nI (by omega) (by omega)]; omega), ckb (inb_nI (by omega) (by omega)), clamp_nI (by omega), lts, ckb (inb_nI (by omega) (by omega)), lts, ckb (inb_nI (by omega) (by omega)), lts, n2, pk_mul, lts, Nat.mul_comm (a 3) 2]
  generalize hx1 : sL (sI (sI x (7 * j + 3) (a 3) (nI lb)) (7 * j + 4) (a 3) (nI L)) (7 * j + 5) (a 3) 0 = x1
  have r1 : ∀ c q, x1.1 c q = if c = 7 * j + 4 ∧ q = a 3 then nI L else if c = 7 * j + 3 ∧ q = a 3 then nI lb else x.1 c q := fun c q => by rw [← hx1]; show (sI (sI x (7 * j + 3) (a 3) (nI lb)) (7 * j + 4) (a 3) (nI L)).1 c q = _; rw [sI_r, sI_r]
  have s1 : ∀ c q, x1.2 c q = if c = 7 * j + 5 ∧ q = a 3 then 0 else x.2 c q := fun c q => by rw [← hx1, sL_r]; rfl
  obtain ⟨x2, e2, s2, r2⟩ := x_addMsg_l (F := F) (j := j) (x0 := x1) (i := a 3) h5 (by rw [r1, if_neg (by omega), if_neg (by omega)]; exact a4) 2 (2 * a 3) F x1 (by omega) (by omega) (by omega) rfl (fun c q => by rw [if_neg (by omega)])
  refine ⟨x2, e2, fun c q hc => ⟨?_, ?_⟩, ?_, ?_, ?_, ?_, fun l hl => ?_, fun i hi => ?_, fun w hw => ?_⟩
  · rw [r2, if_neg (by omega), if_neg (by omega), r1, if_neg (by omega), if_neg (by omega)]
  · rw [s2, s1, if_neg (by omega)]
  · rw [r2, if_neg (by omega), if_neg (by omega), r1, if_neg (by omega), if_neg (by omega), rMsg_lo (by omega) (by omega)]; exact a1
  · rw [r2, if_neg (by omega), if_neg (by omega), r1, if_neg (by omega), if_neg (by omega), rMsg_lo (by omega) (by omega)]; exact a2
  · rw [r2, if_neg (by omega), if_neg (by omega), r1, if_neg (by omega), if_neg (by omega), rMsg_lo (by omega) (by omega)]; exact a3
  · rw [r2, if_pos ⟨rfl, rfl⟩, rMsg_3]
  · rw [r2, if_neg (by omega), if_neg (by omega), r1, if_neg (by omega), if_neg (by omega), rMsg_lo (by omega) (by omega)]; exact a5 l hl
  · rw [rMsg_3] at hi
    by_cases e : i = a 3
    · subst e
      refine ⟨?_, ?_, ?_⟩
      · rw [r2, if_neg (by omega), if_neg (by omega), r1, if_neg (by omega), if_pos ⟨rfl, rfl⟩, show rMsg a lb L (4 + 8 * a 3) = lb from rMsg_n (j := 0) (by omega)]
      · rw [r2, if_neg (by omega), if_neg (by omega), r1, if_pos ⟨rfl, rfl⟩, show 5 + 8 * a 3 = 4 + 8 * a 3 + 1 by omega, rMsg_n (j := 1) (by omega)]
        rfl
      · rw [s2, s1, if_pos ⟨rfl, rfl⟩]
        unfold gMk
        rw [show 6 + 8 * a 3 = 4 + 8 * a 3 + 2 by omega, show 7 + 8 * a 3 = 4 + 8 * a 3 + 3 by omega, rMsg_n (by omega), rMsg_n (by omega)]
        rfl
    · have b6 := a6 i (by omega)
      refine ⟨?_, ?_, ?_⟩
      · rw [r2, if_neg (by omega), if_neg (by omega), r1, if_neg (by omega), if_neg (by omega), rMsg_lo (by omega) (by omega)]; exact b6.1
      · rw [r2, if_neg (by omega), if_neg (by omega), r1, if_neg (by omega), if_neg (by omega), rMsg_lo (by omega) (by omega)]; exact b6.2.1
      · rw [s2, s1, if_neg (by omega)]
        unfold gMk
        rw [rMsg_lo (by omega) (by omega), rMsg_lo (by omega) (by omega)]
        exact b6.2.2
  · rw [rMsg_3] at hw
    unfold mvw wtw
    by_cases e : w / 2 = a 3
    · rw [e, show 8 + 8 * a 3 + w % 2 = 4 + 8 * a 3 + (4 + w % 2) by omega, show 10 + 8 * a 3 + w % 2 = 4 + 8 * a 3 + (6 + w % 2) by omega, rMsg_n (by omega), rMsg_n (by omega)]
      refine ⟨?_, ?_⟩
      · rw [r2, if_neg (by omega), if_pos (by omega), if_neg (by omega), if_neg (by omega)]; rfl
      · rw [r2, if_neg (by omega), if_pos (by omega), if_neg (by omega), if_neg (by omega)]; rfl
    · have b7 := a7 w (by omega)
      refine ⟨?_, ?_⟩
      · rw [r2, if_neg (by omega), if_neg (by omega), r1, if_neg (by omega), if_neg (by omega), rMsg_lo (by omega) (by omega)]; exact b7.1
      · rw [r2, if_neg (by omega), if_neg (by omega), r1, if_neg (by omega), if_neg (by omega), rMsg_lo (by omega) (by omega)]; exact b7.2
theorem x_addMessage_y {F : Nat} (hF : 1000 ≤ F) {x : HT} {a : Nat → Nat} (k : WF2 a) (h : CX x a) (h5 : a 3 < 5) {X Y L : Nat} (hX : X < a 0) (hY : Y < a 1) (hL1 : 1 ≤ L) (hL : L ≤ 9) : ∃ x', fX6_addMessage F x (nI X) (nI Y) (nI L) = some (nI (a 3), x') ∧ CX x' (rMsg a (lab (a 0) X Y) L) ∧ FrP x x' := by
  obtain ⟨hR, hG, hW⟩ := h
  have ka := k.1.1.1
  have hl := (fin_lab ka hX hY).1
  have kb := rMsg_ok k h5 hl hL1 hL
  obtain ⟨x1, e1, f1, r1⟩ := x_addMsg (F := F) hF (j := 0) hR h5 (lb := lab (a 0) X Y) (L := L)
  have b0 : rMsg a (lab (a 0) X Y) L 0 = a 0 := rMsg_lo (by omega) (by omega)
  have b1 : rMsg a (lab (a 0) X Y) L 1 = a 1 := rMsg_lo (by omega) (by omega)
  have b3 : rMsg a (lab (a 0) X Y) L 3 = a 3 + 1 := rMsg_3
  have hG1 : GX x1 (rMsg a (lab (a 0) X Y) L 0) (rMsg a (lab (a 0) X Y) L 1) := by rw [b0, b1]; exact f1.gx (by omega) hG
  obtain ⟨x2, e2, f2, g2, w2, w3⟩ := x_layMessage hF kb.1.1 r1 hG1 (i := a 3) (by rw [b3]; omega)
  unfold fX6_addMessage fX6_addMessage_56
  rw [bds (x_has_y ka hG.1 hG.2.1 hX hY), if_neg (by decide), if_neg (by rw [n1, lt_nI (by omega) (by omega)]; omega), if_pos (by rw [n9, le_nI (by omega) (by omega)]; omega), bds (x_labelAt ka hG.1 hX hY), bds e1, if_neg (nI_pos (by omega)), bds e2]
  refine ⟨x2, rfl, ⟨f2.rx (by omega) r1, g2, fun w hw => ?_⟩, f1.p.tr f2.p⟩
  rw [b3] at hw
  by_cases e : w / 2 = a 3
  · exact w2 w e
  · refine w3 _ w (by omega) e ?_
    have hy : wy (rMsg a (lab (a 0) X Y) L) w = wy a w := wy_cg b0 b1 (rMsg_lo (by omega) (by omega)) (rMsg_lo (by omega) (by omega)) (rMsg_lo (by omega) (by omega))
    have hw1 := (f1.wx (by omega) hW) w (by omega)
    unfold wx1 wN
    unfold wN at hw1
    rw [hy, b0, b1]
    exact hw1
theorem x_addMessage_f {F : Nat} {x : HT} {a : Nat → Nat} (ka : okW (a 0) (a 1)) (h : CX x a) (h5 : a 3 = 5) {X Y L : Nat} (hX : X < a 0) (hY : Y < a 1) (hL1 : 1 ≤ L) (hL : L ≤ 9) : fX6_addMessage F x (nI X) (nI Y) (nI L) = some (-4, x) := by
  obtain ⟨hR, hG, hW⟩ := h
  have e4 : x.1 (7 * 0 + 1) 3 = nI 5 := by rw [hR.2.2.2.1, h5]
  unfold fX6_addMessage fX6_addMessage_56 fX2_addMessage
  rw [bds (x_has_y ka hG.1 hG.2.1 hX hY), if_neg (by decide), if_neg (by rw [n1, lt_nI (by omega) (by omega)]; omega), if_pos (by rw [n9, le_nI (by omega) (by omega)]; omega), bds (x_labelAt ka hG.1 hX hY), e4, lts, if_neg (by decide), bdk, if_pos (by decide)]
theorem x_addMessage_n {F : Nat} {x : HT} {a : Nat → Nat} (ka : okW (a 0) (a 1)) (h : CX x a) {p q l : Int32} (hg : ¬ (plc (a 0) (a 1) p q ∧ gLn l)) : fX6_addMessage F x p q l = some (-2, x) := by
  obtain ⟨hR, hG, hW⟩ := h
  unfold fX6_addMessage fX6_addMessage_23
  by_cases hp : plc (a 0) (a 1) p q
  · obtain ⟨X, Y, hX, hY, rfl, rfl⟩ := id hp
    rw [bds (x_has_y ka hG.1 hG.2.1 hX hY), if_neg (by decide)]
    by_cases c1 : l < 1
    · rw [if_pos c1]
    · rw [if_neg c1]
      by_cases c2 : l ≤ 9
      · exfalso
        have h0 : ¬ l < 0 := fun q => c1 (Int32.lt_trans q (by decide))
        obtain ⟨L, hL, rfl⟩ := nI_of h0
        rw [n1, lt_nI (by omega) (by omega)] at c1
        rw [n9, le_nI (by omega) (by omega)] at c2
        exact hg ⟨hp, L, by omega, by omega, rfl⟩
      · rw [if_neg c2]
  · rw [bds (x_has_n ka hG.1 hG.2.1 hp), if_pos rfl]
