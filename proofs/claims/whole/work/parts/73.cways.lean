-- ===== rows of rows: 'new int[10][36]' over the machine itself =====
section RR
variable {p : Program} {l : Launch} {e : Env} {R : Room} {s : State} {m : MethodId} {args : Array Value} {below : List Frame} {meth : Method} {c : Code} {T : State} {locs : List Loc} {cells slots : Nat} {E : CtlPost} {d : Bool} {acts : List Action}
/-- one new row, each place the same default -/
theorem wp_row {u : State} {cA comp : ClassId} {k : Class} {ty : FieldType} {len : Nat} {v : Value} {Q : Addr → Pre} (hk : u.vm.classes[cA]? = some k) (hkd : k.kind = .array comp ty) (hfit : fits ty v = true) (hv : v.isDefault = true) (h1 : len ≤ e.platform.arrayLengthLimit) (h2 : len * componentBytes ty ≤ e.platform.maxHeapBytes) (h3 : u.heap.size + 1 ≤ e.platform.maxCells) (h4 : u.slotsUsed + len ≤ e.platform.maxSlots) (hq : Q u.heap.size d acts (u.pushCell (arrV cA len (fun _ => v)))) : wp (Jvm.newArray cA len v) Q E e d acts u := by
  rw [← arrV_new] at hq
  have ha : allocActs (Array.replicate len v) u.heap.size acts = acts := by
    unfold allocActs
    refine if_pos ?_
    rw [Array.all_replicate]
    split
    · rfl
    · exact hv
  have hf : ∀ (i : Nat) (x : Value), (Array.replicate len v)[i]? = some x → u.fitsSlot cA .none i x = true := fun i x hx => by
    rw [Array.getElem?_replicate] at hx
    split at hx
    · cases hx
      simp [State.fitsSlot, State.slotType?, hk, hkd, hfit]
    · cases hx
  have g1 : ¬ len > e.platform.arrayLengthLimit := Nat.not_lt.mpr h1
  have g2 : ¬ len * componentBytes ty > e.platform.maxHeapBytes := Nat.not_lt.mpr h2
  have g3 : ¬ len > e.platform.maxSlots := by omega
  unfold Jvm.newArray Jvm.arrayFits
  simp only [wp_bind', W.ask, W.ite, g1, g2, g3, if_false, wp_pure', W.theClass, hk, hkd, Option.some.injEq, exists_eq_left', W.alloc, Array.size_replicate, ha]
  exact ⟨h3, h4, hf, hq⟩
theorem wp_row36 {u : State} {cI cc : ClassId} {kI : Class} {Q : Addr → Pre} (hk : u.vm.classes[cI]? = some kI) (hkd : kI.kind = .array cc .int) (hl : e.platform.arrayLengthLimit = 2147483645) (hh : e.platform.maxHeapBytes = 536870912) (h3 : u.heap.size + 1 ≤ e.platform.maxCells) (h4 : u.slotsUsed + 36 ≤ e.platform.maxSlots) (hq : Q u.heap.size d acts (u.pushCell (arrV cI 36 (fun _ => .int 0)))) : wp (Op.multianewarray.make cI [36]) Q E e d acts u := by
  have c36 : ¬ (36 : Int32) < 0 := by decide
  rw [Op.multianewarray.make]
  simp only [wp_bind', W.ite, c36, if_false, wp_pure', W.theClass, hk, hkd, Option.some.injEq, exists_eq_left']
  exact wp_row (len := 36) (v := .int 0) hk hkd rfl rfl (by rw [hl]; exact Nat.le_of_ble_eq_true rfl) (by rw [hh]; exact Nat.le_of_ble_eq_true rfl) h3 h4 hq
/-- the heap with i of the ten rows made, the row of rows at z -/
def rrI (z i : Nat) (cA cI : ClassId) (H H1 : Heap) : Prop := H1.size = z + 1 + i ∧ (∀ q : Nat, q < z → H1[q]? = H[q]?) ∧ H1[z]? = some (arrV cA 10 (fun j => if j < i then .ref (z + 1 + j) else .null)) ∧ ∀ j : Nat, j < i → H1[z + 1 + j]? = some (arrV cI 36 (fun _ => .int 0))
theorem rr_first {z : Nat} {cA cI : ClassId} {H : Heap} (hz : H.size = z) : rrI z 0 cA cI H (H.push (arrV cA 10 (fun _ => .null))) := by
  subst hz
  refine ⟨by simp, fun q hq => by rw [Array.getElem?_push, if_neg (Nat.ne_of_lt hq)], ?_, fun j hj => absurd hj (Nat.not_lt_zero j)⟩
  rw [Array.getElem?_push, if_pos rfl]
  rfl
theorem rr_next {z i : Nat} {cA cI : ClassId} {H : Heap} {u : State} (h : rrI z i cA cI H u.heap) : rrI z (i + 1) cA cI H ((u.pushCell (arrV cI 36 (fun _ => .int 0))).setCell z ((arrV cA 10 (fun j => if j < i then .ref (z + 1 + j) else .null)).setSlot i (.ref (z + 1 + i)))).heap := by
  obtain ⟨h1, h2, h3, h4⟩ := h
  have hs : (u.pushCell (arrV cI 36 (fun _ => .int 0))).heap = u.heap.push (arrV cI 36 (fun _ => .int 0)) := rfl
  have hsz : (u.pushCell (arrV cI 36 (fun _ => .int 0))).heap.size = z + 2 + i := by rw [hs, Array.size_push, h1]; omega
  have ho : ∀ q : Nat, q ≠ z → ((u.pushCell (arrV cI 36 (fun _ => .int 0))).setCell z ((arrV cA 10 (fun j => if j < i then .ref (z + 1 + j) else .null)).setSlot i (.ref (z + 1 + i)))).heap[q]? = (u.heap.push (arrV cI 36 (fun _ => .int 0)))[q]? := fun q hq => by
    rw [heapAt_setCell_ne _ (Ne.symm hq), hs]
  refine ⟨by rw [size_setCell, hsz]; omega, fun q hq => ?_, ?_, fun j hj => ?_⟩
  · rw [ho q (by omega), Array.getElem?_push, if_neg (by omega)]
    exact h2 q hq
  · have hzl : z < (u.pushCell (arrV cI 36 (fun _ => .int 0))).heap.size := by rw [hsz]; omega
    rw [heapAt_setCell_self _ hzl, arrV_store]
    refine congrArg some (congrArg (arrV cA 10) (funext fun j => ?_))
    unfold updV
    by_cases ej : j = i
    · rw [if_pos ej, if_pos (by omega), ej]
    · rw [if_neg ej]
      show (if j < i then Value.ref (z + 1 + j) else Value.null) = _
      by_cases hj : j < i
      · rw [if_pos hj, if_pos (by omega)]
      · rw [if_neg hj, if_neg (by omega)]
  · rw [ho _ (by omega), Array.getElem?_push]
    by_cases ej : j = i
    · rw [if_pos (by rw [h1, ej])]
    · rw [if_neg (by omega)]
      exact h4 j (by omega)
/-- the states between: z the row of rows' place -/
def rrT (cA cI : ClassId) (T : State) : Nat → State
  | 0 => T.pushCell (arrV cA 10 (fun _ => .null))
  | i + 1 => ((rrT cA cI T i).pushCell (arrV cI 36 (fun _ => .int 0))).setCell T.heap.size ((arrV cA 10 (fun j => if j < i then .ref (T.heap.size + 1 + j) else .null)).setSlot i (.ref (T.heap.size + 1 + i)))
theorem rr_is (cA cI : ClassId) (T : State) : ∀ i : Nat, rrI T.heap.size i cA cI T.heap (rrT cA cI T i).heap
  | 0 => rr_first rfl
  | i + 1 => rr_next (rr_is cA cI T i)
theorem rr_vm (cA cI : ClassId) (T : State) : ∀ i : Nat, (rrT cA cI T i).vm = T.vm
  | 0 => rfl
  | i + 1 => rr_vm cA cI T i
theorem rr_cell {cA cI : ClassId} {T : State} (i : Nat) : ((rrT cA cI T i).pushCell (arrV cI 36 (fun _ => .int 0))).heap[T.heap.size]? = some (arrV cA 10 (fun j => if j < i then .ref (T.heap.size + 1 + j) else .null)) := by
  obtain ⟨b1, -, b3, -⟩ := rr_is cA cI T i
  show ((rrT cA cI T i).heap.push _)[T.heap.size]? = _
  rw [Array.getElem?_push, if_neg (by omega)]
  exact b3
theorem rr_stand (X : Stand p l e R s m args below meth c T locs cells slots) (cA cI : ClassId) : ∀ i : Nat, ∃ locs1 : List Loc, Stand p l e R s m args below meth c (rrT cA cI T i) locs1 (cells + 1 + i) (slots + 10 + 36 * i) ∧ ∀ x ∈ locs1, x ∈ locs ∨ x.base = T.heap.size
  | 0 => by
    have h := X.pushed (arrV cA 10 (fun _ => .null))
    rw [arrV_size] at h
    exact ⟨locs, h, fun x hx => Or.inl hx⟩
  | i + 1 => by
    obtain ⟨locs1, X1, hlo⟩ := rr_stand X cA cI i
    have h := (X1.pushed (arrV cI 36 (fun _ => .int 0))).stored (rr_cell i) i (.ref (T.heap.size + 1 + i))
    rw [arrV_size] at h
    refine ⟨locs1 ++ [⟨T.heap.size, i⟩], ?_, fun y hy => ?_⟩
    · rw [show cells + 1 + (i + 1) = cells + 1 + i + 1 by omega, show slots + 10 + 36 * (i + 1) = slots + 10 + 36 * i + 36 by omega]
      exact h
    · rcases List.mem_append.mp hy with h | h
      · exact hlo y h
      · rw [List.mem_singleton.mp h]
        exact Or.inr rfl
/-- the whole of it, where the walk stands -/
theorem wp_rows (X : Stand p l e R s m args below meth c T locs cells slots) {cA cI cc : ClassId} {kA kI : Class} {g : JFrame} (hkA : T.vm.classes[cA]? = some kA) (hA : kA.kind = .array cI (.array .int)) (hkI : T.vm.classes[cI]? = some kI) (hI : kI.kind = .array cc .int) (hcells : cells + 11 ≤ R.cells) (hslots : slots + 370 ≤ R.slots) {Q : Addr → Pre}
    (hq : ∀ (d1 : Bool) (acts1 : List Action), Q T.heap.size d1 acts1 ((rrT cA cI T 10).setTop g)) : wp (Op.multianewarray.make cA [10, 36]) Q E e d acts (T.setTop g) := by
  have hl := Launch.admits_arrayLengthLimit X.admits
  have hh := Launch.admits_maxHeapBytes X.admits
  have c10 : ¬ (10 : Int32) < 0 := by decide
  have e10 : ((10 : Int32) == 0) = false := by decide
  have n10 : (10 : Int32).toNatClampNeg = 10 := by decide
  obtain ⟨r1, r2⟩ := X.roomAbove (a := 1) (b := 10) (by omega) (by omega)
  rw [Op.multianewarray.make]
  simp only [wp_bind', W.ite, c10, if_false, wp_pure', W.theClass, State.vm_setTop, hkA, hA, Option.some.injEq, exists_eq_left', n10]
  refine wp_row (len := 10) (v := .null) (ty := .array .int) hkA hA rfl rfl (by rw [hl]; exact Nat.le_of_ble_eq_true rfl) (by rw [hh]; exact Nat.le_of_ble_eq_true rfl) r1 r2 ?_
  simp only [e10, Bool.false_eq_true, if_false, wp_pure', wp_bind']
  rw [Std.Legacy.Range.forIn_eq_forIn_range']
  show wp (forIn (List.range' 0 10 1) PUnit.unit _) _ E e d acts _
  refine wp_forIn_inv (fun rest u => ∃ i : Nat, i ≤ 10 ∧ rest = List.range' i (10 - i) ∧ u = (rrT cA cI T i).setTop g) _ _ ⟨0, Nat.zero_le _, rfl, rfl⟩ ?_ ?_
  · rintro x rest u d1 acts1 Q1 ⟨i, hi, hr, rfl⟩ hnext
    have hlt : i < 10 := by
      rcases Nat.lt_or_ge i 10 with h | h
      · exact h
      · rw [show 10 - i = 0 by omega] at hr
        cases hr
    rw [show 10 - i = (10 - (i + 1)) + 1 by omega, List.range'_succ] at hr
    obtain ⟨ex, er⟩ := List.cons.inj hr
    subst ex
    obtain ⟨locs1, X1, -⟩ := rr_stand X cA cI x
    obtain ⟨a1, a2⟩ := X1.roomAbove (a := 1) (b := 36) (by omega) (by omega)
    have hvm := rr_vm cA cI T x
    simp only [wp_bind']
    refine wp_row36 (by rw [State.vm_setTop, hvm]; exact hkI) hI hl hh a1 a2 ?_
    have ez : ((rrT cA cI T x).setTop g).heap.size = T.heap.size + 1 + x := (rr_is cA cI T x).1
    rw [ez]
    simp only [wp_bind', W.writeLoc, wp_pure']
    refine ⟨_, rr_cell x, (fun h => by cases h), by rw [arrV_size]; exact hlt, ?_, hnext _ _ _ ⟨x + 1, hlt, er, rfl⟩⟩
    show State.fitsSlot _ cA .none x _ = true
    have hk2 : (((rrT cA cI T x).setTop g).pushCell (arrV cI 36 (fun _ => .int 0))).vm.classes[cA]? = some kA := by
      show (rrT cA cI T x).vm.classes[cA]? = _
      rw [hvm]; exact hkA
    have hk3 : (rrT cA cI T x).vm.classes[cA]? = some kA := hk2
    simp [State.fitsSlot, State.slotType?, hk3, hA, fits]
  · rintro u d1 acts1 ⟨i, hi, hr, rfl⟩
    have ei : i = 10 := by
      rcases Nat.lt_or_ge i 10 with h | h
      · rw [show 10 - i = (10 - (i + 1)) + 1 by omega, List.range'_succ] at hr
        cases hr
      · omega
    subst ei
    simp only [wp_pure']
    exact hq _ _
end RR
/-- rows of rows as cells, one behind the other from q on -/
def cRR (cy : Nat → ClassId) (q k : Nat) : Nat × va_E := (q + k, if k = 0 then .inl (cy 4, 10, .inr (.inr (.inr (.inr (fun i => if i < 10 then some (q + 1 + i) else none))))) else .inl (cy 0, 36, .inl (fun _ => 0)))
theorem rr_P {D : va_G} {cy : Nat → ClassId} {z : Nat} {H H1 : Heap} (h : rrI z 10 (cy 4) (cy 0) H H1) : va_P D vwCl (wF 11 (cRR cy z)) H1 := by
  refine wF_P.mpr (fun k hk => ?_)
  by_cases e : k = 0
  · subst e
    show H1[z + 0]? = some (vp_cell (cy 4) (10, .inr (.inr (.inr (.inr (fun i => if i < 10 then some (z + 1 + i) else none))))))
    rw [vp_cell_q, Nat.add_zero, h.2.2.1]
    refine congrArg some (congrArg (arrV (cy 4) 10) (funext fun j => ?_))
    by_cases hj : j < 10
    · rw [if_pos hj, if_pos hj]; rfl
    · rw [if_neg hj, if_neg hj]; rfl
  · have hz : cRR cy z k = (z + k, .inl (cy 0, 36, .inl (fun _ => 0))) := by unfold cRR; rw [if_neg e]
    rw [hz]
    show H1[z + k]? = some (vp_cell (cy 0) (36, .inl (fun _ => 0)))
    rw [vp_cell_i, show z + k = z + 1 + (k - 1) by omega]
    exact h.2.2.2 (k - 1) (by omega)
section RM
variable {p : Program} {l : Launch} {e : Env} {R : Room} {s : State} {m : MethodId} {args : Array Value} {below : List Frame} {meth : Method} {c : Code} {H : Heap} {locs : List Loc} {cells slots : Nat} {Q : State → Prop} {cc : ByteArray} {pc : Nat} {ls : Array Slot} {rest : List Value} {D : va_G} {cy : Nat → ClassId} {A : Nat → Prop} {nL : Nat} {own : String} {ws : va_W}
theorem iMulti (hC : Ci p s m args meth c cc nL own D cy) (hP : va_P D vwCl ws H) (hD : va_D A ws) (hS : va_S A s.heap H locs) (hA : ∀ q : Nat, s.heap.size ≤ q → A q) {idx : Nat} (hcl : Cond.classLink own idx "[[I" ∈ wAll) (hcells : cells + 11 ≤ R.cells) (hslots : slots + 370 ≤ R.slots) (hdg : decode cc pc = .ok (.multianewarray idx 2, 4))
    (kk : ∀ (q : Nat) (H1 : Heap) (locs1 : List Loc), va_P D vwCl (ws ++ wF 11 (cRR cy q)) H1 → va_D A (ws ++ wF 11 (cRR cy q)) → va_S A s.heap H1 locs1 → W p l e R s m args below meth c H1 locs1 (cells + 11) (slots + 370) Q (F0 m (pc + 4) ls (.ref q :: rest))) : W p l e R s m args below meth c H locs cells slots Q (F0 m pc ls (.int 36 :: .int 10 :: rest)) := by
  obtain ⟨hx, hb, hml, hown, hts, hr, hK, hN, hCW, hlk, hin⟩ := hC
  intro T hT X
  subst hT
  have hpl : e.platform.magicAccessors = ({} : Platform).magicAccessors := by rw [X.admits.platform]
  obtain ⟨comp, cA, kA, a1, -, a3, a4, a5⟩ := ao_spec hCW.2
  obtain ⟨cI, kI, ccI, i1, i2, i3⟩ := Cond.arrayClass_spec (hts _ qwAI)
  have e0 : cI = cy 0 := Option.some.inj (i1.symm.trans (hK.2 0 _ rfl).2)
  have e4 : cA = cy 4 := Option.some.inj (a5.symm.trans (hK.2 4 _ rfl).2)
  have ec : comp = cI := Option.some.inj (a1.symm.trans i1)
  obtain ⟨c0, j1, j2⟩ := Cond.classLink_spec hown (hts _ hcl) e.platform hpl
  have ej : c0 = cA := Option.some.inj (j1.symm.trans a5)
  rw [ec, e0] at a4
  rw [e0] at i2
  rw [ej, e4] at j2
  rw [e4] at a3
  obtain ⟨g1, g2, g3⟩ := State.classEntry (e := e) X.warmed j2
  generalize T.vm.noted m.cls idx (.cls (cy 4)) = vm1 at g1 g2 g3
  obtain ⟨kA1, hkA1, heA⟩ := g2.alike.2.2 _ _ a3
  obtain ⟨kI1, hkI1, heI⟩ := g2.alike.2.2 _ _ i2
  have X1 := X.noted g2
  obtain ⟨locs1, X2, hlo⟩ := rr_stand X1 (cy 4) (cy 0) 10
  have hI := rr_is (cy 4) (cy 0) (T.setVm vm1) 10
  have hz : (T.setVm vm1).heap = T.heap := rfl
  rw [hz] at hI hlo
  have hold : ∀ (k : Nat) (x : Nat × va_E), ws[k]? = some x → (rrT (cy 4) (cy 0) (T.setVm vm1) 10).heap[x.1]? = T.heap[x.1]? := fun k x hx => hI.2.1 x.1 ((hP k x hx).lt)
  have hS1 : va_S A s.heap (rrT (cy 4) (cy 0) (T.setVm vm1) 10).heap locs1 := ⟨Nat.le_trans hS.1 (by rw [hI.1]; omega), fun x h1 h2 => (hI.2.1 x (Nat.lt_of_lt_of_le h1 hS.1)).trans (hS.2.1 x h1 h2), fun x hx => by
    rcases hlo x hx with h | h
    · exact hS.2.2 x h
    · rw [h]; exact hA _ hS.1⟩
  have hD1 : va_D A (ws ++ wF 11 (cRR cy T.heap.size)) := va_D.app hD (wF_D.mpr ⟨fun i j _ _ h => by
    have h : T.heap.size + i = T.heap.size + j := h
    omega, fun k _ => hA _ (Nat.le_trans hS.1 (Nat.le_add_right _ _))⟩) (fun i j x y hx hy hxy => by
    have h1 := (hP i x hx).lt
    obtain ⟨-, h2⟩ := wF_some hy
    have h3 : y.1 = T.heap.size + j := by rw [h2]; rfl
    omega)
  obtain ⟨t, t1, t2⟩ := kk T.heap.size (rrT (cy 4) (cy 0) (T.setVm vm1) 10).heap locs1 (va_P.app (hP.kept hold) (rr_P hI)) hD1 hS1 (rrT (cy 4) (cy 0) (T.setVm vm1) 10) rfl X2
  refine ⟨t, ?_, t2⟩
  jvm_step X.here [hx, hb, hdg]
  simp only [Op.multianewarray.sem, wp_bind', W.resolveClassAt_links (State.method?_setTop (F0 m pc ls (.int 36 :: .int 10 :: rest)) X.here.top) g1]
  rw [W.popN, if_neg (by decide)]
  refine ⟨F0 m pc ls (.int 36 :: .int 10 :: rest), State.topJava?_setTop' (s := T.setVm vm1) _ X.here.top, [.int 10, .int 36], rest, rfl, rfl, ?_⟩
  simp only [List.mapM_cons, List.mapM_nil, wp_bind', wp_pure']
  have eS : ((T.setTop (F0 m pc ls (.int 36 :: .int 10 :: rest))).setVm vm1).setTop (F0 m pc ls rest) = (T.setVm vm1).setTop (F0 m pc ls rest) := by
    show ((T.setVm vm1).setTop _).setTop _ = _
    rw [State.setTop_setTop]
  show wp _ _ _ e _ _ (((T.setTop (F0 m pc ls (.int 36 :: .int 10 :: rest))).setVm vm1).setTop (F0 m pc ls rest))
  rw [eS]
  refine wp_rows X1 (kA := kA1) (kI := kI1) (cI := cy 0) (cc := ccI) hkA1 (by rw [heA]; exact a4) hkI1 (by rw [heI]; exact i3) hcells hslots (fun d1 acts1 => ?_)
  simp only [wp_bind', W.mark, W.pushRef, State.topJava?_setTop' _ X2.here.top, Option.some.injEq, exists_eq_left', State.setTop_setTop, State.heap_setTop]
  intro acts2
  simp [jvm, X2.here.top]
  exact t1
end RM
-- ===== Ways() =====
def cW (cy : Nat → ClassId) (q : Nat → Nat) (k : Nat) : Nat × va_E := (q k, if k = 0 then .inr (5, [.ref (q 1), .ref (q 2), .ref (q 3)]) else if k = 1 then .inl (cy 0, 10, .inl (fun _ => 0)) else if k = 2 then .inl (cy 4, 10, .inr (.inr (.inr (.inr (fun i => if i < 10 then some (q (4 + i)) else none))))) else if k = 3 then .inl (cy 4, 10, .inr (.inr (.inr (.inr (fun i => if i < 10 then some (q (14 + i)) else none))))) else .inl (cy 0, 36, .inl (fun _ => 0)))
def aW (h0 q1 qa qb : Nat) : Nat → Nat := fun k => if k = 0 then h0 else if k = 1 then q1 else if k = 2 then qa else if k = 3 then qb else if k < 14 then qa + (k - 3) else qb + (k - 13)
/-- as they were made -/
def cWm (cy : Nat → ClassId) (h0 q1 qa qb : Nat) (p : Nat) : Nat × va_E := if p = 0 then (h0, .inr (5, [.ref q1, .ref qa, .ref qb])) else if p = 1 then (q1, .inl (cy 0, 10, .inl (fun _ => 0))) else if p < 13 then cRR cy qa (p - 2) else cRR cy qb (p - 13)
def sgW (k : Nat) : Nat := if k < 3 then k else if k = 3 then 13 else if k < 14 then k - 1 else k
theorem sgW_lt {k : Nat} (h : k < 24) : sgW k < 24 := by
  unfold sgW
  split
  · omega
  · split
    · omega
    · split <;> omega
theorem sgW_i {i j : Nat} (hi : i < 24) (hj : j < 24) (h : sgW i = sgW j) : i = j := by
  unfold sgW at h
  split at h <;> split at h <;> (try split at h) <;> (try split at h) <;> (try split at h) <;> (try split at h) <;> omega
theorem cW_sg {cy : Nat → ClassId} {h0 q1 qa qb k : Nat} (hk : k < 24) : cW cy (aW h0 q1 qa qb) k = cWm cy h0 q1 qa qb (sgW k) := by
  have fa : (fun i => if i < 10 then some (aW h0 q1 qa qb (4 + i)) else none) = fun i => if i < 10 then some (qa + 1 + i) else none := by
    funext i
    by_cases h : i < 10
    · rw [if_pos h, if_pos h]
      unfold aW
      rw [if_neg (by omega), if_neg (by omega), if_neg (by omega), if_neg (by omega), if_pos (by omega), show qa + (4 + i - 3) = qa + 1 + i by omega]
    · rw [if_neg h, if_neg h]
  have fb : (fun i => if i < 10 then some (aW h0 q1 qa qb (14 + i)) else none) = fun i => if i < 10 then some (qb + 1 + i) else none := by
    funext i
    by_cases h : i < 10
    · rw [if_pos h, if_pos h]
      unfold aW
      rw [if_neg (by omega), if_neg (by omega), if_neg (by omega), if_neg (by omega), if_neg (by omega), show qb + (14 + i - 13) = qb + 1 + i by omega]
    · rw [if_neg h, if_neg h]
  by_cases e0 : k = 0
  · subst e0; rfl
  by_cases e1 : k = 1
  · subst e1; rfl
  by_cases e2 : k = 2
  · subst e2
    show (qa, _) = (qa + 0, _)
    rw [fa]
    rfl
  by_cases e3 : k = 3
  · subst e3
    show (qb, _) = (qb + 0, _)
    rw [fb]
    rfl
  by_cases e4 : k < 14
  · have es : sgW k = k - 1 := by
      unfold sgW
      rw [if_neg (by omega), if_neg e3, if_pos e4]
    rw [es]
    unfold cW cWm cRR
    rw [if_neg e0, if_neg e1, if_neg e2, if_neg e3, if_neg (show ¬ k - 1 = 0 by omega), if_neg (show ¬ k - 1 = 1 by omega), if_pos (show k - 1 < 13 by omega), if_neg (show ¬ k - 1 - 2 = 0 by omega)]
    unfold aW
    rw [if_neg e0, if_neg e1, if_neg e2, if_neg e3, if_pos e4, show k - 1 - 2 = k - 3 by omega]
  · have es : sgW k = k := by
      unfold sgW
      rw [if_neg (by omega), if_neg e3, if_neg e4]
    rw [es]
    unfold cW cWm cRR
    rw [if_neg e0, if_neg e1, if_neg e2, if_neg e3, if_neg e0, if_neg e1, if_neg (show ¬ k < 13 by omega), if_neg (show ¬ k - 13 = 0 by omega)]
    unfold aW
    rw [if_neg e0, if_neg e1, if_neg e2, if_neg e3, if_neg e4]
theorem wW_eq {cy : Nat → ClassId} {h0 q1 qa qb : Nat} : ((h0, .inr (5, [.ref q1, .ref qa, .ref qb])) :: (([(q1, .inl (cy 0, 10, .inl (fun _ => 0)))] ++ wF 11 (cRR cy qa)) ++ wF 11 (cRR cy qb)) : va_W) = wF 24 (cWm cy h0 q1 qa qb) := by
  rw [show (24 : Nat) = (2 + 11) + 11 from rfl, wF_add, wF_add]
  rfl
theorem wW_P {D : va_G} {cy : Nat → ClassId} {h0 q1 qa qb : Nat} {H : Heap} (h : va_P D vwCl (wF 24 (cWm cy h0 q1 qa qb)) H) : va_P D vwCl (wF 24 (cW cy (aW h0 q1 qa qb))) H := wF_P.mpr (fun k hk => by
  rw [cW_sg hk]
  exact wF_P.mp h _ (sgW_lt hk))
theorem wW_D {A : Nat → Prop} {cy : Nat → ClassId} {h0 q1 qa qb : Nat} (h : va_D A (wF 24 (cWm cy h0 q1 qa qb))) : va_D A (wF 24 (cW cy (aW h0 q1 qa qb))) := by
  have h := wF_D.mp h
  refine wF_D.mpr ⟨fun i j hi hj e => ?_, fun k hk => ?_⟩
  · rw [cW_sg hi, cW_sg hj] at e
    exact sgW_i hi hj (h.1 _ _ (sgW_lt hi) (sgW_lt hj) e)
  · rw [cW_sg hk]
    exact h.2 _ (sgW_lt hk)
theorem qwW1 : Cond.classLink RX5 15 "[[I" ∈ wAll := by decide +kernel
set_option maxHeartbeats 4000000 in
set_option maxRecDepth 100000 in
theorem kiW (l : Launch) (D : va_G) (cy : Nat → ClassId) (h0 sz : Nat) : Met l yX5_init (Cond.code yX5_init cX5_init 1 none :: wAll) { frames := 1, cells := 23, slots := 750, locals := 12 } (iPc D cy [.ref h0] h0 sz (.inr (5, [.null, .null, .null]))) (iQ D 24 (cW cy) h0 (va_A [(h0, .inr (5, [.null, .null, .null]))] sz)) 23 750 (va_A [(h0, .inr (5, [.null, .null, .null]))] sz) := by
  refine iMet (by decide) rfl (Nat.le_of_ble_eq_true rfl) (fun p e s m below meth c hC hsz ls hP hl => ?_)
  have hC : Ci p s m _ meth c cX5_init 1 RX5 D cy := hC
  have hl : lv_has ls 1 [(0, .ref h0)] := hl
  obtain ⟨hx, hb, hml9, hown9, hts9, hr9, hK9, -⟩ := id hC
  generalize hAe : va_A [(h0, .inr (5, [.null, .null, .null]))] sz = A
  have hA : ∀ q : Nat, s.heap.size ≤ q → A q := fun q h => by rw [← hAe, ← hsz]; exact Or.inr h
  have hS : va_S A s.heap s.heap [] := va_S.rf
  have hD : va_D A [(h0, (.inr (5, [.null, .null, .null]) : va_E))] := va_D1 (by rw [← hAe]; exact Or.inl ⟨0, _, rfl⟩)
  refine lv_aload_n hx hb dX5_init_0 rfl (lv_at hl 0 rfl) ?_
  refine iObj hC (idx := 3) (by decide +kernel) hl.1 ⟨Nat.le_of_ble_eq_true rfl, Nat.le_of_ble_eq_true rfl⟩ dX5_init_1 ?_
  refine lv_aload_n hx hb dX5_init_4 rfl (lv_at hl 0 rfl) ?_
  refine lv_bipush (v := 10) hx hb dX5_init_5 (by decide) ?_
  refine iNewI hC hP hD hS hA (N := 10) (by decide) (by decide) (Nat.le_of_ble_eq_true rfl) (Nat.le_of_ble_eq_true rfl) (Nat.le_of_ble_eq_true rfl) dX5_init_7 (fun q1 H hP hD hS => ?_)
  have hP : va_P D vwCl [(h0, .inr (5, [.null, .null, .null])), (q1, .inl (cy 0, 10, .inl (fun _ => 0)))] H := hP
  have hD : va_D A [(h0, .inr (5, [.null, .null, .null])), (q1, .inl (cy 0, 10, .inl (fun _ => 0)))] := hD
  refine iPutF hC hP hD hS (ci := 5) (N := 3) (T := TX5) rfl iX5 tyX5_ok nmX5 0 (by decide) (index := 9) (by decide +kernel) rfl rfl (ty := .array .int) (by decide +kernel) rfl rfl (Nat.le_of_ble_eq_true rfl) dX5_init_9 (fun H locs hP hD hS => ?_)
  have hP : va_P D vwCl [(h0, .inr (5, [.ref q1, .null, .null])), (q1, .inl (cy 0, 10, .inl (fun _ => 0)))] H := hP
  have hD : va_D A [(h0, .inr (5, [.ref q1, .null, .null])), (q1, .inl (cy 0, 10, .inl (fun _ => 0)))] := hD
  refine lv_aload_n hx hb dX5_init_12 rfl (lv_at hl 0 rfl) ?_
  refine lv_bipush (v := 10) hx hb dX5_init_13 (by decide) ?_
  refine lv_bipush (v := 36) hx hb dX5_init_15 (by decide) ?_
  refine iMulti hC hP hD hS hA qwW1 (Nat.le_of_ble_eq_true rfl) (Nat.le_of_ble_eq_true rfl) dX5_init_17 (fun qa H locs hP hD hS => ?_)
  have hP : va_P D vwCl ((h0, .inr (5, [.ref q1, .null, .null])) :: ([(q1, .inl (cy 0, 10, .inl (fun _ => 0)))] ++ wF 11 (cRR cy qa))) H := hP
  have hD : va_D A ((h0, .inr (5, [.ref q1, .null, .null])) :: ([(q1, .inl (cy 0, 10, .inl (fun _ => 0)))] ++ wF 11 (cRR cy qa))) := hD
  refine iPutF hC hP hD hS (ci := 5) (N := 3) (T := TX5) rfl iX5 tyX5_ok nmX5 1 (by decide) (index := 17) (by decide +kernel) rfl rfl (ty := .array (.array .int)) (by decide +kernel) rfl rfl (Nat.le_of_ble_eq_true rfl) dX5_init_21 (fun H locs hP hD hS => ?_)
  have hP : va_P D vwCl ((h0, .inr (5, [.ref q1, .ref qa, .null])) :: ([(q1, .inl (cy 0, 10, .inl (fun _ => 0)))] ++ wF 11 (cRR cy qa))) H := hP
  have hD : va_D A ((h0, .inr (5, [.ref q1, .ref qa, .null])) :: ([(q1, .inl (cy 0, 10, .inl (fun _ => 0)))] ++ wF 11 (cRR cy qa))) := hD
  refine lv_aload_n hx hb dX5_init_24 rfl (lv_at hl 0 rfl) ?_
  refine lv_bipush (v := 10) hx hb dX5_init_25 (by decide) ?_
  refine lv_bipush (v := 36) hx hb dX5_init_27 (by decide) ?_
  refine iMulti hC hP hD hS hA qwW1 (Nat.le_of_ble_eq_true rfl) (Nat.le_of_ble_eq_true rfl) dX5_init_29 (fun qb H locs hP hD hS => ?_)
  have hP : va_P D vwCl ((h0, .inr (5, [.ref q1, .ref qa, .null])) :: (([(q1, .inl (cy 0, 10, .inl (fun _ => 0)))] ++ wF 11 (cRR cy qa)) ++ wF 11 (cRR cy qb))) H := hP
  have hD : va_D A ((h0, .inr (5, [.ref q1, .ref qa, .null])) :: (([(q1, .inl (cy 0, 10, .inl (fun _ => 0)))] ++ wF 11 (cRR cy qa)) ++ wF 11 (cRR cy qb))) := hD
  refine iPutF hC hP hD hS (ci := 5) (N := 3) (T := TX5) rfl iX5 tyX5_ok nmX5 2 (by decide) (index := 20) (by decide +kernel) rfl rfl (ty := .array (.array .int)) (by decide +kernel) rfl rfl (Nat.le_of_ble_eq_true rfl) dX5_init_33 (fun H locs hP hD hS => ?_)
  have hP : va_P D vwCl ((h0, .inr (5, [.ref q1, .ref qa, .ref qb])) :: (([(q1, .inl (cy 0, 10, .inl (fun _ => 0)))] ++ wF 11 (cRR cy qa)) ++ wF 11 (cRR cy qb))) H := hP
  have hD : va_D A ((h0, .inr (5, [.ref q1, .ref qa, .ref qb])) :: (([(q1, .inl (cy 0, 10, .inl (fun _ => 0)))] ++ wF 11 (cRR cy qa)) ++ wF 11 (cRR cy qb))) := hD
  rw [wW_eq] at hP hD
  exact iRet hC (q := aW h0 q1 qa qb) rfl (wW_P hP) (wW_D hD) hS rfl rfl dX5_init_36
