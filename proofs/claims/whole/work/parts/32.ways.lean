-- ===== ways in plain numbers =====
def farF (W H : Nat) : Nat → Nat → Nat → Nat
  | 0, _, _ => 0
  | f + 1, u, v => if u = v then 0 else farF W H f (nxt W H u v) v + 1
def far (W H u v : Nat) : Nat := farF W H 36 u v
def itr (W H v u : Nat) : Nat → Nat
  | 0 => u
  | t + 1 => nxt W H (itr W H v u t) v
theorem farF_eq {W H : Nat} (k : okW W H) {v : Nat} (hv : v < W * H) : ∀ (f g u : Nat), u < W * H → (u - v) + (v - u) ≤ f → (u - v) + (v - u) ≤ g → farF W H f u v = farF W H g u v := by
  intro f
  induction f with
  | zero =>
    intro g u hu h1 h2
    cases g with
    | zero => rfl
    | succ g => rw [farF, farF, if_pos (by omega)]
  | succ f ih =>
    intro g u hu h1 h2
    cases g with
    | zero => rw [farF, farF, if_pos (by omega)]
    | succ g =>
      rw [farF, farF]
      by_cases e : u = v
      · rw [if_pos e, if_pos e]
      · obtain ⟨q1, q2, q3, -⟩ := fin_nxt k hu hv e
        rw [if_neg e, if_neg e, ih g _ q1 (by omega) (by omega)]
theorem far_self {W H u : Nat} : far W H u u = 0 := by rw [far, farF, if_pos rfl]
theorem far_step {W H u v : Nat} (k : okW W H) (hu : u < W * H) (hv : v < W * H) (e : u ≠ v) : far W H u v = far W H (nxt W H u v) v + 1 := by
  have h36 := okW_36 k
  obtain ⟨q1, q2, q3, -⟩ := fin_nxt k hu hv e
  rw [far, farF, if_neg e, far, farF_eq k hv 35 36 _ q1 (by omega) (by omega)]
theorem far_le {W H : Nat} (k : okW W H) {v : Nat} (hv : v < W * H) : ∀ (f u : Nat), u < W * H → farF W H f u v ≤ (u - v) + (v - u) := by
  intro f
  induction f with
  | zero => intro u hu; rw [farF]; omega
  | succ f ih =>
    intro u hu
    rw [farF]
    by_cases e : u = v
    · rw [if_pos e]; omega
    · obtain ⟨q1, q2, q3, -⟩ := fin_nxt k hu hv e
      have := ih _ q1
      rw [if_neg e]
      omega
theorem far_pos {W H u v : Nat} (k : okW W H) (hu : u < W * H) (hv : v < W * H) (e : u ≠ v) : 0 < far W H u v := by rw [far_step k hu hv e]; omega
/-- where one is after t channels on the way from u to v -/
theorem itr_up {W H u v : Nat} (k : okW W H) (hu : u < W * H) (hv : v < W * H) (huv : u ≤ v) : ∀ t, t ≤ far W H u v → itr W H v u t ≤ v ∧ u + t ≤ itr W H v u t ∧ far W H (itr W H v u t) v + t = far W H u v ∧ (t < far W H u v → itr W H v u t < v ∧ itr W H v u t < itr W H v u (t + 1)) := by
  intro t
  induction t with
  | zero =>
    intro ht
    refine ⟨huv, Nat.le_refl _, rfl, fun h => ?_⟩
    have e : u ≠ v := fun e => by subst e; rw [far_self] at h; omega
    have := (fin_nxt k hu hv e).2.1 (by omega)
    exact ⟨by show u < v; omega, this.1⟩
  | succ t ih =>
    intro ht
    obtain ⟨h1, h2, h3, h4⟩ := ih (by omega)
    obtain ⟨h5, h6⟩ := h4 (by omega)
    have hlt : itr W H v u t < W * H := by omega
    have hn := fin_nxt k hlt hv (by omega)
    have hs := far_step k hlt hv (by omega)
    have e1 : itr W H v u (t + 1) = nxt W H (itr W H v u t) v := rfl
    have h7 := hn.2.1 h5
    refine ⟨by omega, by omega, by rw [e1]; omega, fun h => ?_⟩
    have e : itr W H v u (t + 1) ≠ v := fun e => by
      have : far W H (itr W H v u (t + 1)) v = 0 := by rw [e, far_self]
      rw [e1] at this
      omega
    have h8 : itr W H v u (t + 1) < v := by omega
    have := (fin_nxt k (u := itr W H v u (t + 1)) (by omega) hv e).2.1 h8
    exact ⟨h8, this.1⟩
theorem itr_dn {W H u v : Nat} (k : okW W H) (hu : u < W * H) (hv : v < W * H) (huv : v ≤ u) : ∀ t, t ≤ far W H u v → v ≤ itr W H v u t ∧ itr W H v u t + t ≤ u ∧ far W H (itr W H v u t) v + t = far W H u v ∧ (t < far W H u v → v < itr W H v u t ∧ itr W H v u (t + 1) < itr W H v u t) := by
  intro t
  induction t with
  | zero =>
    intro ht
    refine ⟨huv, Nat.le_refl _, rfl, fun h => ?_⟩
    have e : u ≠ v := fun e => by subst e; rw [far_self] at h; omega
    have := (fin_nxt k hu hv e).2.2.1 (by omega)
    exact ⟨by show v < u; omega, this.1⟩
  | succ t ih =>
    intro ht
    obtain ⟨h1, h2, h3, h4⟩ := ih (by omega)
    obtain ⟨h5, h6⟩ := h4 (by omega)
    have hlt : itr W H v u t < W * H := by omega
    have hn := fin_nxt k hlt hv (by omega)
    have hs := far_step k hlt hv (by omega)
    have e1 : itr W H v u (t + 1) = nxt W H (itr W H v u t) v := rfl
    have h7 := hn.2.2.1 h5
    refine ⟨by omega, by omega, by rw [e1]; omega, fun h => ?_⟩
    have e : itr W H v u (t + 1) ≠ v := fun e => by
      have : far W H (itr W H v u (t + 1)) v = 0 := by rw [e, far_self]
      rw [e1] at this
      omega
    have h8 : v < itr W H v u (t + 1) := by omega
    have := (fin_nxt k (u := itr W H v u (t + 1)) (by omega) hv e).2.2.1 h8
    exact ⟨h8, this.1⟩
theorem itr_far {W H u v : Nat} (k : okW W H) (hu : u < W * H) (hv : v < W * H) : itr W H v u (far W H u v) = v := by
  rcases Nat.le_total u v with h | h
  · obtain ⟨h1, h2, h3, -⟩ := itr_up k hu hv h (far W H u v) (Nat.le_refl _)
    rcases Nat.lt_or_ge (itr W H v u (far W H u v)) v with q | q
    · have := far_pos k (u := itr W H v u (far W H u v)) (by omega) hv (by omega)
      omega
    · omega
  · obtain ⟨h1, h2, h3, -⟩ := itr_dn k hu hv h (far W H u v) (Nat.le_refl _)
    rcases Nat.lt_or_ge v (itr W H v u (far W H u v)) with q | q
    · have := far_pos k (u := itr W H v u (far W H u v)) (by omega) hv (by omega)
      omega
    · omega
/-- a way as it is laid: where it is, its channels, its places, its goals, where these lie -/
abbrev WY : Type := Nat × Nat × (Nat → Nat) × Nat × (Nat → Nat)
def upN (f : Nat → Nat) (k v : Nat) : Nat → Nat := fun j => if j = k then v else f j
def lbN (src side k : Nat) : Nat := if side = 0 then src + k else src - k
def tot (N src side : Nat) : Nat := if side = 0 then N - 1 - src else src
def sc1 (W H : Nat) (g : Nat → Bool) (lb : Nat) (q : WY) : WY :=
  if g lb = true then (lb, q.2.1 + far W H q.1 lb, (fun j => if j ≤ q.2.1 then q.2.2.1 j else itr W H lb q.1 (j - q.2.1)), q.2.2.2.1 + 1, upN q.2.2.2.2 q.2.2.2.1 (q.2.1 + far W H q.1 lb)) else q
def scan (W H : Nat) (g : Nat → Bool) (src side : Nat) : Nat → WY
  | 0 => (src, 0, (fun _ => src), 0, (fun _ => 0))
  | k + 1 => sc1 W H g (lbN src side (k + 1)) (scan W H g src side k)
def aG (a : Nat → Nat) (i l : Nat) : Bool := (a (6 + 8 * i) + 2 ^ 18 * a (7 + 8 * i)).testBit l
def wy (a : Nat → Nat) (w : Nat) : WY := scan (a 0) (a 1) (aG a (w / 2)) (a (4 + 8 * (w / 2))) (w % 2) (tot (a 0 * a 1) (a (4 + 8 * (w / 2))) (w % 2))
def wN (a : Nat → Nat) (w : Nat) : Nat := (wy a w).2.1
def wP (a : Nat → Nat) (w j : Nat) : Nat := (wy a w).2.2.1 j
def wC (a : Nat → Nat) (w : Nat) : Nat := (wy a w).2.2.2.1
def wQ (a : Nat → Nat) (w c : Nat) : Nat := (wy a w).2.2.2.2 c
/-- what holds of a way as far as it is laid, going up or down -/
def okY (W H : Nat) (g : Nat → Bool) (src side k : Nat) (q : WY) : Prop :=
  q.1 = q.2.2.1 q.2.1 ∧ q.2.2.1 0 = src ∧ (∀ j, j ≤ q.2.1 → q.2.2.1 j < W * H ∧ (if side = 0 then src + j ≤ q.2.2.1 j ∧ q.2.2.1 j ≤ src + k else q.2.2.1 j + j ≤ src ∧ src ≤ q.2.2.1 j + k)) ∧
  (∀ j, j < q.2.1 → (if side = 0 then q.2.2.1 j < q.2.2.1 (j + 1) else q.2.2.1 (j + 1) < q.2.2.1 j) ∧ bes W H (q.2.2.1 j) (dirOf W H (q.2.2.1 j) (q.2.2.1 (j + 1))) = q.2.2.1 (j + 1)) ∧
  q.2.2.2.1 ≤ q.2.1 ∧ (∀ c, c < q.2.2.2.1 → 1 ≤ q.2.2.2.2 c ∧ q.2.2.2.2 c ≤ q.2.1 ∧ g (q.2.2.1 (q.2.2.2.2 c)) = true) ∧ (∀ c d, c < d → d < q.2.2.2.1 → q.2.2.2.2 c < q.2.2.2.2 d) ∧
  (∀ j, 1 ≤ j → j ≤ q.2.1 → g (q.2.2.1 j) = true → ∃ c, c < q.2.2.2.1 ∧ q.2.2.2.2 c = j) ∧ (q.2.2.2.1 = 0 → q.2.1 = 0) ∧
  (∀ t, 1 ≤ t → t ≤ k → g (lbN src side t) = true → (if side = 0 then lbN src side t ≤ q.1 else q.1 ≤ lbN src side t))
