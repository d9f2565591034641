-- ===== numbers =====
theorem inb_nI {i N : Nat} (h : i < N) (hN : N < 2147483648) : inb (nI i) N = true := by
  have h1 : ¬ nI i < 0 := nI_pos (by omega)
  have h2 : (nI i).toNatClampNeg = i := nI_clamp (by omega)
  simp [inb, h1, h2, h]
theorem clamp_nI {i : Nat} (h : i < 2147483648) : (nI i).toNatClampNeg = i := nI_clamp (by omega)
theorem le_nI {a b : Nat} (ha : a < 2147483648) (hb : b < 2147483648) : (nI a ≤ nI b) = (a ≤ b) := propext (nI_leI (by omega) (by omega))
theorem lt_nI {a b : Nat} (ha : a < 2147483648) (hb : b < 2147483648) : (nI a < nI b) = (a < b) := propext (nI_ltI (by omega) (by omega))
theorem eq_nI {a b : Nat} (ha : a < 2147483648) (hb : b < 2147483648) : (nI a = nI b) = (a = b) := propext (nI_eq (by omega) (by omega))
theorem sub_nI {a b : Nat} (h : b ≤ a) : nI a - nI b = nI (a - b) := pk_sub h
theorem div_nI {a d : Nat} (ha : a < 2147483648) (h0 : 0 < d) (hd : d < 2147483648) : nI a / nI d = nI (a / d) := pk_div (by omega) h0 (by omega)
theorem rem_nI {a d : Nat} (ha : a < 2147483648) (h0 : 0 < d) (hd : d < 2147483648) : nI a - nI a / nI d * nI d = nI (a % d) := pk_rem (by omega) h0 (by omega)
theorem nz_nI {a : Nat} (h0 : 0 < a) (h : a < 2147483648) : nz (nI a) = true := by
  have := nI_ne0 h0 (by omega)
  simp [nz, this]
theorem n0 : (0 : Int32) = nI 0 := rfl
theorem n1 : (1 : Int32) = nI 1 := rfl
theorem n2 : (2 : Int32) = nI 2 := rfl
theorem n3 : (3 : Int32) = nI 3 := rfl
theorem n4 : (4 : Int32) = nI 4 := rfl
theorem n5 : (5 : Int32) = nI 5 := rfl
theorem n6 : (6 : Int32) = nI 6 := rfl
theorem n7 : (7 : Int32) = nI 7 := rfl
theorem n8 : (8 : Int32) = nI 8 := rfl
theorem n9 : (9 : Int32) = nI 9 := rfl
theorem n10 : (10 : Int32) = nI 10 := rfl
theorem n18 : (18 : Int32) = nI 18 := rfl
theorem n36 : (36 : Int32) = nI 36 := rfl
theorem n37 : (37 : Int32) = nI 37 := rfl
theorem n44 : (44 : Int32) = nI 44 := rfl
theorem n80 : (80 : Int32) = nI 80 := rfl
theorem n144 : (144 : Int32) = nI 144 := rfl
theorem n320 : (320 : Int32) = nI 320 := rfl
theorem nI_m1 {a : Nat} (h : 1 ≤ a) : nI a + (-1) = nI (a - 1) := by
  obtain ⟨b, rfl⟩ : ∃ b, a = b + 1 := ⟨a - 1, by omega⟩
  exact pk_m1 b
theorem m1_ne {a : Nat} (h : a < 2147483648) : ¬ nI a = -1 := fun e => by
  have h1 : ¬ nI a < 0 := nI_pos (by omega)
  rw [e] at h1
  exact h1 (by decide)
theorem m1_ne' {a : Nat} (h : a < 2147483648) : ¬ (-1 : Int32) = nI a := fun e => m1_ne h e.symm
theorem nI_ge0 {a : Nat} (h : a < 2147483648) : (0 : Int32) ≤ nI a := nI_pos' (by omega)
-- ===== the mesh, in plain numbers =====
def lab (W x y : Nat) : Nat := y * W + (if y % 2 = 0 then x else W - 1 - x)
def xO (W l : Nat) : Nat := if l / W % 2 = 0 then l % W else W - 1 - l % W
def yO (W l : Nat) : Nat := l / W
def bes (W H l d : Nat) : Nat :=
  if d = 0 then (if xO W l + 1 < W then lab W (xO W l + 1) (yO W l) else 99)
  else if d = 1 then (if yO W l + 1 < H then lab W (xO W l) (yO W l + 1) else 99)
  else if d = 2 then (if 0 < xO W l then lab W (xO W l - 1) (yO W l) else 99)
  else (if 0 < yO W l then lab W (xO W l) (yO W l - 1) else 99)
def oI (b : Nat) : Int32 := if b = 99 then -1 else nI b
def nst (W H u v d f : Nat) : Nat :=
  if bes W H u d ≠ 99 ∧ (if u < v then bes W H u d ≤ v else v ≤ bes W H u d) ∧ (f = 99 ∨ (if u < v then f < bes W H u d else bes W H u d < f)) then bes W H u d else f
def nxt (W H u v : Nat) : Nat := nst W H u v 3 (nst W H u v 2 (nst W H u v 1 (nst W H u v 0 99)))
def dirOf (W H u b : Nat) : Nat := if bes W H u 0 = b then 0 else if bes W H u 1 = b then 1 else if bes W H u 2 = b then 2 else 3
def okW (W H : Nat) : Prop := 2 ≤ W ∧ W ≤ 6 ∧ 2 ≤ H ∧ H ≤ 6
def allB (n : Nat) (p : Nat → Bool) : Bool := (List.range n).all p
theorem allB_at {n : Nat} {p : Nat → Bool} (h : allB n p = true) {k : Nat} (hk : k < n) : p k = true := List.all_eq_true.mp h k (List.mem_range.mpr hk)
theorem im_of {a b : Bool} (h : (!a || b) = true) (ha : a = true) : b = true := by subst ha; simpa using h
/-- by grids: W and H from 2 to 6 -/
def allG (p : Nat → Nat → Bool) : Bool := allB 5 (fun w => allB 5 (fun h => p (w + 2) (h + 2)))
theorem allG_at {p : Nat → Nat → Bool} (h : allG p = true) {W H : Nat} (k : okW W H) : p W H = true := by
  obtain ⟨a, b, c, d⟩ := k
  have h1 := allB_at (allB_at h (k := W - 2) (by omega)) (k := H - 2) (by omega)
  rwa [show W - 2 + 2 = W by omega, show H - 2 + 2 = H by omega] at h1
theorem fin_xy0 : allG (fun W H => allB (W * H) (fun l => decide (xO W l < W ∧ yO W l < H ∧ lab W (xO W l) (yO W l) = l))) = true := by decide +kernel
theorem fin_xy {W H l : Nat} (k : okW W H) (hl : l < W * H) : xO W l < W ∧ yO W l < H ∧ lab W (xO W l) (yO W l) = l := of_decide_eq_true (allB_at (allG_at fin_xy0 k) hl)
theorem fin_lab0 : allG (fun W H => allB W (fun x => allB H (fun y => decide (lab W x y < W * H ∧ xO W (lab W x y) = x ∧ yO W (lab W x y) = y)))) = true := by decide +kernel
theorem fin_lab {W H x y : Nat} (k : okW W H) (hx : x < W) (hy : y < H) : lab W x y < W * H ∧ xO W (lab W x y) = x ∧ yO W (lab W x y) = y := of_decide_eq_true (allB_at (allB_at (allG_at fin_lab0 k) hx) hy)
theorem fin_bes0 : allG (fun W H => allB (W * H) (fun l => allB 4 (fun d => decide (bes W H l d = 99 ∨ (bes W H l d < W * H ∧ bes W H l d ≠ l ∧ dirOf W H l (bes W H l d) = d))))) = true := by decide +kernel
theorem fin_bes {W H l d : Nat} (k : okW W H) (hl : l < W * H) (hd : d < 4) : bes W H l d = 99 ∨ (bes W H l d < W * H ∧ bes W H l d ≠ l ∧ dirOf W H l (bes W H l d) = d) := of_decide_eq_true (allB_at (allB_at (allG_at fin_bes0 k) hl) hd)
theorem fin_nxt0 : allG (fun W H => allB (W * H) (fun u => allB (W * H) (fun v => decide (u = v ∨ (nxt W H u v < W * H ∧ (u < v → u < nxt W H u v ∧ nxt W H u v ≤ v) ∧ (v < u → nxt W H u v < u ∧ v ≤ nxt W H u v) ∧ bes W H u (dirOf W H u (nxt W H u v)) = nxt W H u v))))) = true := by decide +kernel
theorem fin_nxt {W H u v : Nat} (k : okW W H) (hu : u < W * H) (hv : v < W * H) (h : u ≠ v) : nxt W H u v < W * H ∧ (u < v → u < nxt W H u v ∧ nxt W H u v ≤ v) ∧ (v < u → nxt W H u v < u ∧ v ≤ nxt W H u v) ∧ bes W H u (dirOf W H u (nxt W H u v)) = nxt W H u v := (of_decide_eq_true (allB_at (allB_at (allG_at fin_nxt0 k) hu) hv)).resolve_left h
theorem okW_36 {W H : Nat} (k : okW W H) : 4 ≤ W * H ∧ W * H ≤ 36 := by
  obtain ⟨a, b, c, d⟩ := k
  exact ⟨Nat.mul_le_mul a c, Nat.mul_le_mul b d⟩
