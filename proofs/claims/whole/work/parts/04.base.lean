-- ===== the mini heap: by cells; ints (fields by their slots, rows by their places), longs likewise =====
abbrev HT : Type := (Nat → Nat → Int32) × (Nat → Nat → Int64)
def wG (en : Nat → (Nat → Int32) → (Nat → Int64) → va_E) (n : Nat) (ad : Nat → Nat) (x : HT) : va_W := (List.range n).map (fun k => (ad k, en k (x.1 k) (x.2 k)))
theorem wG_at {en : Nat → (Nat → Int32) → (Nat → Int64) → va_E} {n : Nat} {ad : Nat → Nat} {x : HT} {k : Nat} (hk : k < n) : (wG en n ad x)[k]? = some (ad k, en k (x.1 k) (x.2 k)) := by
  simp [wG, hk]
theorem wG_some {en : Nat → (Nat → Int32) → (Nat → Int64) → va_E} {n : Nat} {ad : Nat → Nat} {x : HT} {k : Nat} {q : Nat × va_E} (h : (wG en n ad x)[k]? = some q) : k < n ∧ q = (ad k, en k (x.1 k) (x.2 k)) := by
  have hl : k < (wG en n ad x).length := (List.getElem?_eq_some_iff.mp h).1
  have hk : k < n := by simpa [wG] using hl
  rw [wG_at hk] at h
  exact ⟨hk, (Option.some.inj h).symm⟩
theorem wG_set {en : Nat → (Nat → Int32) → (Nat → Int64) → va_E} {n : Nat} {ad : Nat → Nat} {x x' : HT} {k : Nat} {v : va_E} (h1 : en k (x'.1 k) (x'.2 k) = v) (h2 : ∀ j, j ≠ k → x'.1 j = x.1 j ∧ x'.2 j = x.2 j) : (wG en n ad x).set k (ad k, v) = wG en n ad x' := by
  apply List.ext_getElem?
  intro j
  rw [List.getElem?_set]
  by_cases hj : j < n
  · rw [wG_at (x := x') hj]
    by_cases e : k = j
    · subst e
      have hl : k < (wG en n ad x).length := by simpa [wG] using hj
      simp [hl, h1]
    · rw [if_neg e, wG_at hj]
      obtain ⟨a, b⟩ := h2 j (fun q => e q.symm)
      rw [a, b]
  · have hl : (wG en n ad x).length = n := by simp [wG]
    have hl' : (wG en n ad x').length = n := by simp [wG]
    rw [List.getElem?_eq_none (l := wG en n ad x') (by omega), List.getElem?_eq_none (l := wG en n ad x) (by omega)]
    by_cases e : k = j
    · subst e
      simp [hl, hj]
    · simp [e]
def apart (ad : Nat → Nat) (A : Nat → Prop) (n : Nat) : Prop := (∀ i j, i < n → j < n → ad i = ad j → i = j) ∧ ∀ k, k < n → A (ad k)
theorem wG_D {en : Nat → (Nat → Int32) → (Nat → Int64) → va_E} {n : Nat} {ad : Nat → Nat} {A : Nat → Prop} {x : HT} (h : apart ad A n) : va_D A (wG en n ad x) := by
  refine ⟨fun i j p q hp hq e => ?_, fun k q hq => ?_⟩
  · obtain ⟨h1, rfl⟩ := wG_some hp
    obtain ⟨h2, rfl⟩ := wG_some hq
    exact h.1 i j h1 h2 e
  · obtain ⟨h1, rfl⟩ := wG_some hq
    exact h.2 k h1
-- writes
def sI (x : HT) (k i : Nat) (v : Int32) : HT := (va_up x.1 k (upd (x.1 k) i v), x.2)
def sL (x : HT) (k i : Nat) (v : Int64) : HT := (x.1, va_up x.2 k (vp_updL (x.2 k) i v))
def sA (x : HT) (k : Nat) (f : Nat → Int32) : HT := (va_up x.1 k f, x.2)
def sB (x : HT) (k : Nat) (f : Nat → Int64) : HT := (x.1, va_up x.2 k f)
theorem sI_ne {x : HT} {k i : Nat} {v : Int32} : ∀ j, j ≠ k → (sI x k i v).1 j = x.1 j ∧ (sI x k i v).2 j = x.2 j := fun j h => ⟨by simp [sI, va_up, h], rfl⟩
theorem sL_ne {x : HT} {k i : Nat} {v : Int64} : ∀ j, j ≠ k → (sL x k i v).1 j = x.1 j ∧ (sL x k i v).2 j = x.2 j := fun j h => ⟨rfl, by simp [sL, va_up, h]⟩
theorem sA_ne {x : HT} {k : Nat} {f : Nat → Int32} : ∀ j, j ≠ k → (sA x k f).1 j = x.1 j ∧ (sA x k f).2 j = x.2 j := fun j h => ⟨by simp [sA, va_up, h], rfl⟩
theorem sB_ne {x : HT} {k : Nat} {f : Nat → Int64} : ∀ j, j ≠ k → (sB x k f).1 j = x.1 j ∧ (sB x k f).2 j = x.2 j := fun j h => ⟨rfl, by simp [sB, va_up, h]⟩
theorem sI_at {x : HT} {k i : Nat} {v : Int32} : (sI x k i v).1 k = upd (x.1 k) i v ∧ (sI x k i v).2 k = x.2 k := ⟨by simp [sI, va_up], rfl⟩
theorem sL_at {x : HT} {k i : Nat} {v : Int64} : (sL x k i v).1 k = x.1 k ∧ (sL x k i v).2 k = vp_updL (x.2 k) i v := ⟨rfl, by simp [sL, va_up]⟩
theorem sA_at {x : HT} {k : Nat} {f : Nat → Int32} : (sA x k f).1 k = f ∧ (sA x k f).2 k = x.2 k := ⟨by simp [sA, va_up], rfl⟩
theorem sB_at {x : HT} {k : Nat} {f : Nat → Int64} : (sB x k f).1 k = x.1 k ∧ (sB x k f).2 k = f := ⟨rfl, by simp [sB, va_up]⟩
-- the pieces that the functions are made of
def inb (i : Int32) (n : Nat) : Bool := !(decide (i < 0)) && decide (i.toNatClampNeg < n)
theorem inb_in {i : Int32} {n : Nat} (h : inb i n = true) : vp_in i n := by
  simp only [inb, Bool.and_eq_true, Bool.not_eq_true', decide_eq_false_iff_not, decide_eq_true_eq] at h
  exact fun q => q.elim h.1 (fun z => by omega)
def ck {β : Type} (b : Bool) (k : Option β) : Option β := match b with
  | true => k
  | false => none
theorem ck_some {β : Type} {b : Bool} {k : Option β} {z : β} (h : ck b k = some z) : b = true ∧ k = some z := by
  cases b
  · cases h
  · exact ⟨rfl, h⟩
def bd {α β : Type} (o : Option (α × HT)) (k : α → HT → Option β) : Option β := match o with
  | some q => k q.1 q.2
  | none => none
theorem bd_some {α β : Type} {o : Option (α × HT)} {k : α → HT → Option β} {z : β} (h : bd o k = some z) : ∃ (r : α) (u : HT), o = some (r, u) ∧ k r u = some z := by
  cases o with
  | none => cases h
  | some q => exact ⟨q.1, q.2, rfl, h⟩
def lt_ {α β : Type} (a : α) (k : α → β) : β := k a
theorem lt_some {α β : Type} {a : α} {k : α → β} {z : β} (h : lt_ a k = z) : ∃ y : α, y = a ∧ k y = z := ⟨a, rfl, h⟩
theorem it_t {β : Type} {c : Prop} {d : Decidable c} {a b r : β} (h : c) (hf : @ite β c d a b = r) : a = r := by rw [← hf, if_pos h]
theorem it_f {β : Type} {c : Prop} {d : Decidable c} {a b r : β} (h : ¬ c) (hf : @ite β c d a b = r) : b = r := by rw [← hf, if_neg h]
def nz (y : Int32) : Bool := decide (y ≠ 0)
theorem nz_ne {y : Int32} (h : nz y = true) : ¬ y = 0 := by simpa [nz] using h
def isb (y : Int32) : Bool := decide (y = 0) || decide (y = 1)
theorem isb_nar {y : Int32} (h : isb y = true) : narrow .boolean (.int y) = .int y := by
  simp only [isb, Bool.or_eq_true, decide_eq_true_eq] at h
  rcases h with rfl | rfl <;> rfl
-- the words
theorem wAll_of {w : Cond} {i : Nat} (h : lw_tbl[i]? = some w) (g : goodWord w = true) : w ∈ wAll := List.mem_filter.mpr ⟨List.mem_of_getElem? h, g⟩
theorem wAll_good {w : Cond} (h : w ∈ wAll) : (w.onTables && w.keeps) = true ∨ ∃ ty, w = .arrayClass ty := good_of_word (List.mem_filter.mp h).2
theorem gdS {w : List Cond} (h : ∀ q ∈ w, q ∈ wAll) : GoodIn wAll w := fun q hq => ⟨h q hq, wAll_good (h q hq)⟩
theorem gdC {w : Cond} (h : w ∈ wAll) : GoodIn wAll (w :: wAll) := gdS (fun q hq => (List.mem_cons.mp hq).elim (fun e => e ▸ h) id)
theorem gdV {own C : String} {idx : Nat} {y : MethodName} {w : Cond} (h1 : Cond.methodLink own idx y ∈ wAll) (h2 : Cond.instanceMethod y ∈ wAll) (h3 : Cond.selects C y y ∈ wAll) (h4 : Cond.initialized C ∈ wAll) (h5 : w ∈ wAll) : GoodIn wAll (wsV own idx C y (w :: wAll)) := gdS (fun q hq => by
  simp only [wsV, List.mem_append, List.mem_cons, List.not_mem_nil, or_false] at hq
  rcases hq with (rfl | rfl | rfl | rfl) | rfl | hq
  · exact h1
  · exact h2
  · exact h3
  · exact h4
  · exact h5
  · exact hq)
theorem gdSt {own : String} {idx : Nat} {y : MethodName} {w : Cond} (h1 : Cond.methodLink own idx y ∈ wAll) (h2 : Cond.static y ∈ wAll) (h4 : Cond.initialized y.cls ∈ wAll) (h5 : w ∈ wAll) : GoodIn wAll (va_wsS own idx y (w :: wAll)) := gdS (fun q hq => by
  simp only [va_wsS, List.mem_append, List.mem_cons, List.not_mem_nil, or_false] at hq
  rcases hq with (rfl | rfl | rfl) | rfl | hq
  · exact h1
  · exact h2
  · exact h4
  · exact h5
  · exact hq)
