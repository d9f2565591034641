-- ===== constructors: worlds that grow =====
def wF (n : Nat) (c : Nat → Nat × va_E) : va_W := (List.range n).map c
theorem wF_at {n k : Nat} {c : Nat → Nat × va_E} (hk : k < n) : (wF n c)[k]? = some (c k) := by simp [wF, hk]
theorem wF_len {n : Nat} {c : Nat → Nat × va_E} : (wF n c).length = n := by simp [wF]
theorem wF_some {n k : Nat} {c : Nat → Nat × va_E} {q : Nat × va_E} (h : (wF n c)[k]? = some q) : k < n ∧ q = c k := by
  have hl : k < (wF n c).length := (List.getElem?_eq_some_iff.mp h).1
  rw [wF_len] at hl
  rw [wF_at hl] at h
  exact ⟨hl, (Option.some.inj h).symm⟩
theorem wF_cg {n : Nat} {c d : Nat → Nat × va_E} (h : ∀ k, k < n → c k = d k) : wF n c = wF n d := by
  unfold wF
  exact List.map_congr_left (fun k hk => h k (List.mem_range.mp hk))
theorem wF_add {n m : Nat} {c : Nat → Nat × va_E} : wF (n + m) c = wF n c ++ wF m (fun k => c (n + k)) := by
  apply List.ext_getElem?
  intro k
  by_cases h : k < n
  · rw [wF_at (by omega), List.getElem?_append_left (by rw [wF_len]; exact h), wF_at h]
  · rw [List.getElem?_append_right (by rw [wF_len]; omega), wF_len]
    by_cases h2 : k < n + m
    · rw [wF_at h2, wF_at (by omega), show n + (k - n) = k by omega]
    · rw [List.getElem?_eq_none (by rw [wF_len]; omega), List.getElem?_eq_none (by rw [wF_len]; omega)]
theorem wF_P {D : va_G} {cl : List vw_C} {n : Nat} {c : Nat → Nat × va_E} {H : Heap} : va_P D cl (wF n c) H ↔ ∀ k, k < n → va_at D cl (c k) H :=
  ⟨fun h k hk => h k _ (wF_at hk), fun h k q hq => by obtain ⟨h1, rfl⟩ := wF_some hq; exact h k h1⟩
theorem wF_D {A : Nat → Prop} {n : Nat} {c : Nat → Nat × va_E} : va_D A (wF n c) ↔ (∀ i j, i < n → j < n → (c i).1 = (c j).1 → i = j) ∧ ∀ k, k < n → A (c k).1 :=
  ⟨fun h => ⟨fun i j hi hj e => h.1 i j _ _ (wF_at hi) (wF_at hj) e, fun k hk => h.2 k _ (wF_at hk)⟩, fun h => ⟨fun i j p q hp hq e => by
    obtain ⟨h1, rfl⟩ := wF_some hp
    obtain ⟨h2, rfl⟩ := wF_some hq
    exact h.1 i j h1 h2 e, fun k q hq => by obtain ⟨h1, rfl⟩ := wF_some hq; exact h.2 k h1⟩⟩
/-- behind a constructor's call: the rest of the world, and what came of the new object -/
theorem joinL {A0 : Nat → Prop} {D : va_G} {cl : List vw_C} {ws w1 : va_W} {q : Nat} {e0 : va_E} {H H1 : Heap} (hP : va_P D cl (ws ++ [(q, e0)]) H) (hD : va_D A0 (ws ++ [(q, e0)])) (hk : ∀ a : Nat, a < H.size → ¬ va_A [(q, e0)] H.size a → H1[a]? = H[a]?) (hF : ∀ a, va_A [(q, e0)] H.size a → A0 a) (hP1 : va_P D cl w1 H1) (hD1 : va_D (va_A [(q, e0)] H.size) w1) : va_P D cl (ws ++ w1) H1 ∧ va_D A0 (ws ++ w1) := by
  have lf : ∀ (k : Nat) (x : Nat × va_E), ws[k]? = some x → (ws ++ [(q, e0)])[k]? = some x := fun k x hx => by
    rw [List.getElem?_append_left (List.getElem?_eq_some_iff.mp hx).1]; exact hx
  have rt : (ws ++ [(q, e0)])[ws.length]? = some (q, e0) := by rw [List.getElem?_append_right (Nat.le_refl _), Nat.sub_self]; rfl
  have ap : ∀ (k : Nat) (x : Nat × va_E), ws[k]? = some x → x.1 < H.size ∧ ¬ va_A [(q, e0)] H.size x.1 := fun k x hx => by
    have hl := (hP k x (lf k x hx)).lt
    refine ⟨hl, fun h => ?_⟩
    rcases h with ⟨j, e, h⟩ | h
    · have hj : j = 0 := by
        have := (List.getElem?_eq_some_iff.mp h).1
        simp at this
        exact this
      subst hj
      have hq : q = x.1 := by
        have : (q, e0) = (x.1, e) := Option.some.inj h
        exact congrArg Prod.fst this
      have := hD.1 k ws.length x (q, e0) (lf k x hx) rt hq.symm
      have := (List.getElem?_eq_some_iff.mp hx).1
      omega
    · omega
  refine ⟨va_P.app (fun k x hx => (hP k x (lf k x hx)).kept (hk x.1 (ap k x hx).1 (ap k x hx).2)) hP1, va_D.app ⟨fun i j x y hx hy e => hD.1 i j x y (lf i x hx) (lf j y hy) e, fun k x hx => hD.2 k x (lf k x hx)⟩ (hD1.weaken (fun k x _ h => hF x.1 h)) (fun i j x y hx hy hxy => ?_)⟩
  exact (ap i x hx).2 (by rw [hxy]; exact hD1.2 j y hy)
/-- array classes over arrays and over states are there -/
def CW (U : State) : Prop := va_AO "SnakeMesh$State" U ∧ (Cond.arrayOver (.array .int)).before #[] U = true
theorem ao_spec {s : State} (h : (Cond.arrayOver (.array .int)).before #[] s = true) : ∃ comp c k, s.vm.findClass (FieldType.array .int).toString = some comp ∧ (s.vm.classes.findIdx? fun (x : Class) => match x.kind with | .array component _ => component == comp | _ => false) = some c ∧ s.vm.classes[c]? = some k ∧ k.kind = .array comp (.array .int) ∧ s.vm.findClass ("[" ++ (FieldType.array .int).toString) = some c := by
  unfold Cond.before Cond.holds at h
  simp only [Cond.value, beq_iff_eq] at h
  cases hc : s.vm.findClass (FieldType.array .int).toString with
  | none => simp [hc] at h
  | some comp =>
    simp only [hc, Option.bind_some, Option.bind_eq_some_iff, Option.map_eq_some_iff] at h
    obtain ⟨c, hi, k, hk, hb⟩ := h
    obtain ⟨hlt, hp, -⟩ := Array.findIdx?_eq_some_iff_getElem.mp hi
    have hkk : s.vm.classes[c] = k := (Array.getElem?_eq_some_iff.mp hk).2
    rw [hkk] at hp
    cases hkind : k.kind with
    | array component ty =>
      rw [hkind] at hb hp
      simp at hb hp
      exact ⟨comp, c, k, rfl, hi, hk, by rw [hkind, hp, hb.1], hb.2⟩
    | _ => rw [hkind] at hb; simp at hb
theorem ao_moved {u U : State} (hvm : u.vm.Alike U.vm) (h : (Cond.arrayOver (.array .int)).before #[] u = true) : (Cond.arrayOver (.array .int)).before #[] U = true := by
  obtain ⟨comp, c, k, h1, h2, h3, h4, h5⟩ := ao_spec h
  obtain ⟨k', hk', he⟩ := hvm.2.2 _ _ h3
  have hi : (U.vm.classes.findIdx? fun (x : Class) => match x.kind with | .array component _ => component == comp | _ => false) = some c := by
    have e1 := va_idx_bare U.vm comp
    have e2 := va_idx_bare u.vm comp
    have e3 : U.vm.bare = u.vm.bare := by first | exact hvm.bare_eq | exact hvm.bare_eq.symm
    rw [e3] at e1
    exact (e1.symm.trans e2).trans h2
  have hkind : k'.kind = .array comp (.array .int) := by rw [he]; exact h4
  have f1 : U.vm.findClass (FieldType.array .int).toString = some comp := by rw [hvm.findClass]; exact h1
  have f2 : U.vm.findClass ("[" ++ (FieldType.array .int).toString) = some c := by rw [hvm.findClass]; exact h5
  unfold Cond.before Cond.holds
  simp only [Cond.value]
  rw [f1, Option.bind_some]
  refine (congrArg (fun o : Option Nat => (o.bind (fun c => (U.vm.classes[c]?).map fun (k : Class) => match k.kind with | .array _ ty => decide (ty = FieldType.array .int) && decide (U.vm.findClass ("[" ++ (FieldType.array .int).toString) = some c) | _ => false) == some true)) hi).trans ?_
  simp [hk', hkind, f2]
theorem CW.moved {u U : State} (hvm : u.vm.Alike U.vm) (h : CW u) : CW U := ⟨h.1.moved hvm, ao_moved hvm h.2⟩
/-- a constructor's start: its object alone -/
def iPc (D : va_G) (cy : Nat → ClassId) (av : List Value) (h0 sz : Nat) (e0 : va_E) : Array Value → State → Prop := va_Pc av (fun U => U.heap.size = sz ∧ va_P D vwCl [(h0, e0)] U.heap ∧ va_K D vwCl (tyL cy) U ∧ NW U ∧ CW U)
theorem iPc_blind {D : va_G} {cy : Nat → ClassId} {av : List Value} {h0 sz : Nat} {e0 : va_E} : FrameBlind (iPc D cy av h0 sz e0) := fun a U g mk q => ⟨q.1, q.2.1, q.2.2.1, va_K.moved (u := U) (U := U.calling g mk a) (Vm.Alike.refl U.vm) q.2.2.2.1, NW.same (u := U) (U := U.calling g mk a) rfl q.2.2.2.2.1, CW.moved (u := U) (U := U.calling g mk a) (Vm.Alike.refl U.vm) q.2.2.2.2.2⟩
/-- its end: n cells, the first one the object -/
def iB (D : va_G) (n : Nat) (c : (Nat → Nat) → Nat → Nat × va_E) (A : Nat → Prop) (q : Nat → Nat) (t : State) : Prop := va_P D vwCl (wF n (c q)) t.heap ∧ va_D A (wF n (c q))
def iQ (D : va_G) (n : Nat) (c : (Nat → Nat) → Nat → Nat × va_E) (h0 : Nat) (A : Nat → Prop) : Array Value → State → Outcome → State → Prop := va_Qv (fun q : Nat → Nat => q 0 = h0) (iB D n c A) A
def Ci (p : Program) (s : State) (m : MethodId) (args : Array Value) (meth : Method) (c : Code) (cc : ByteArray) (nL : Nat) (own : String) (D : va_G) (cy : Nat → ClassId) : Prop :=
  p.tables.exec = Jvm.exec ∧ c.code = cc ∧ c.maxLocals = nL ∧ s.vm.findClass own = some m.cls ∧ (∀ w ∈ wAll, w.before args s = true) ∧ meth.sig.returnType = none ∧ va_K D vwCl (tyL cy) s ∧ NW s ∧ CW s ∧ meth.locks = false ∧ meth.name = "<init>"
theorem va_D1 {q : Nat} {e0 : va_E} {A : Nat → Prop} (h : A q) : va_D A [(q, e0)] := ⟨fun i j x y hx hy _ => by
  have h1 := (List.getElem?_eq_some_iff.mp hx).1
  have h2 := (List.getElem?_eq_some_iff.mp hy).1
  simp at h1 h2
  omega, fun k x hx => by
  have h1 := (List.getElem?_eq_some_iff.mp hx).1
  simp at h1
  subst h1
  cases hx
  exact h⟩
theorem iMet {D : va_G} {cy : Nat → ClassId} {av : List Value} {h0 sz : Nat} {e0 : va_E} {l : Launch} {y : MethodName} {cc : ByteArray} {nL : Nat} {rm : Room} {Qc : Array Value → State → Outcome → State → Prop} {mc ms : Nat} (hy : plainName y.cls = true) (hyn : y.name = "<init>") (hn : (lg_sl av).length ≤ nL)
    (K : ∀ (p : Program) (e : Env) (s : State) (m : MethodId) (below : List Frame) (meth : Method) (c : Code), Ci p s m av.toArray meth c cc nL y.cls D cy → s.heap.size = sz → ∀ (ls : Array Slot), va_P D vwCl [(h0, e0)] s.heap → lv_has ls nL (lv_args 0 av) → W p l e rm s m av.toArray below meth c s.heap [] 0 0 (MQ below Qc av.toArray s mc ms (va_A [(h0, e0)] sz)) (F0 m 0 ls [])) :
    Met l y (Cond.code y cc nL none :: wAll) rm (iPc D cy av h0 sz e0) Qc mc ms (va_A [(h0, e0)] sz) := by
  refine Met.ofW (cc := cc) (maxL := nL) (ret := none) hy rfl ?_
  intro p e s m args below meth c s₁ B hml hv
  obtain ⟨rfl, hsz, hP, hK, hN, hCW⟩ := hv
  have hts := atoms_spec (ws := Cond.code y cc nL none :: wAll) B.pre
  have hin : meth.name = y.name := (name_of_methodNamed B.named B.method).1
  have hC : Ci p s m av.toArray meth c cc nL y.cls D cy := ⟨B.exec, B.bytes, hml, findClass_of_methodNamed B.named, fun w hw => hts w (List.mem_cons_of_mem _ hw), B.returns, hK, hN, hCW, B.notSynchronized, hin.trans hyn⟩
  have hl := lv_entry av (n := nL) hn
  rw [lg_entry_eq]
  exact K p e s m below meth c hC hsz _ hP hl
theorem qwOI : Cond.instanceMethod objectInit ∈ wAll := by decide +kernel
theorem qwOC : Cond.code objectInit ⟨#[0xb1]⟩ 1 none ∈ wAll := by decide +kernel
theorem qwAI : Cond.arrayClass .int ∈ wAll := by decide +kernel
theorem qwAL : Cond.arrayClass .long ∈ wAll := by decide +kernel
theorem qwAZ : Cond.arrayClass .boolean ∈ wAll := by decide +kernel
section CR
variable {p : Program} {l : Launch} {e : Env} {R : Room} {s : State} {m : MethodId} {args : Array Value} {below : List Frame} {meth : Method} {c : Code} {H : Heap} {locs : List Loc} {cells slots : Nat} {Q : State → Prop} {cc : ByteArray} {pc : Nat} {ls : Array Slot} {rest : List Value} {D : va_G} {cy : Nat → ClassId} {A : Nat → Prop} {nL : Nat} {own : String} {ws : va_W}
theorem iObj (hC : Ci p s m args meth c cc nL own D cy) {idx a : Nat} (hl : Cond.methodLink own idx objectInit ∈ wAll) (hsize : ls.size = nL) (hR : 1 ≤ R.frames ∧ 12 ≤ R.locals) (hdg : decode cc pc = .ok (.invokespecial idx, 3)) (kk : W p l e R s m args below meth c H locs cells slots Q (F0 m (pc + 3) ls [])) : W p l e R s m args below meth c H locs cells slots Q (F0 m pc ls [.ref a]) := by
  obtain ⟨hx, hb, hml, hown, hts, hr, hK, hN, hCW, hlk, hin⟩ := hC
  exact W.objInit hx hb hown (hts _ hl) (hts _ qwOI) (hts _ qwOC) rfl (by rw [hml]; exact hsize) rfl hdg hR.1 hR.2 kk
theorem cy_eq {s : State} {D : va_G} {cy : Nat → ClassId} {tys : List (ClassId × FieldType)} {cA : ClassId} {ty : FieldType} {k : Nat} (hK : va_K D vwCl (tyL cy) s) (hK2 : va_K D vwCl (tys ++ [(cA, ty)]) s) (hk : (tyL cy)[k]? = some (cy k, ty)) : cA = cy k := by
  have h1 := (hK.2 k _ hk).2
  have h2 := (hK2.2 tys.length (cA, ty) (by rw [List.getElem?_append_right (Nat.le_refl _), Nat.sub_self]; rfl)).2
  cases ty with
  | object C =>
    obtain ⟨kA, comp, -, -, -, h4⟩ := h1
    obtain ⟨kA', comp', -, -, -, h4'⟩ := h2
    exact Option.some.inj (h4'.symm.trans h4)
  | _ => exact Option.some.inj (h2.symm.trans h1)
theorem iNewI (hC : Ci p s m args meth c cc nL own D cy) (hP : va_P D vwCl ws H) (hD : va_D A ws) (hS : va_S A s.heap H locs) (hA : ∀ q, s.heap.size ≤ q → A q) {n : Int32} {N : Nat} (hn : ¬ n < 0) (hN : n.toNatClampNeg = N) (hby : N * componentBytes .int ≤ 536870912) (hcells : cells + 1 ≤ R.cells) (hslots : slots + N ≤ R.slots) (hdg : decode cc pc = .ok (.newarray .int, 2))
    (kk : ∀ (q : Nat) (H1 : Heap), va_P D vwCl (ws ++ [(q, .inl (cy 0, N, .inl (fun _ => 0)))]) H1 → va_D A (ws ++ [(q, .inl (cy 0, N, .inl (fun _ => 0)))]) → va_S A s.heap H1 locs → W p l e R s m args below meth c H1 locs (cells + 1) (slots + N) Q (F0 m (pc + 2) ls (.ref q :: rest))) : W p l e R s m args below meth c H locs cells slots Q (F0 m pc ls (.int n :: rest)) := by
  obtain ⟨hx, hb, hml, hown, hts, hr, hK, hNw, hCW, hlk, hin⟩ := hC
  refine va_newa (atype := .int) (ty := .int) (a0 := (N, .inl (fun _ => 0))) hx hb (hts _ qwAI) rfl hK hP hD hS hA (fun _ => rfl) hn hN hby hcells hslots hdg (fun q cA H1 hK2 hP1 hD1 hS1 => ?_)
  have e : cA = cy 0 := cy_eq (k := 0) hK hK2 rfl
  subst e
  exact kk q H1 hP1 hD1 hS1
theorem iNewL (hC : Ci p s m args meth c cc nL own D cy) (hP : va_P D vwCl ws H) (hD : va_D A ws) (hS : va_S A s.heap H locs) (hA : ∀ q, s.heap.size ≤ q → A q) {n : Int32} {N : Nat} (hn : ¬ n < 0) (hN : n.toNatClampNeg = N) (hby : N * componentBytes .long ≤ 536870912) (hcells : cells + 1 ≤ R.cells) (hslots : slots + N ≤ R.slots) (hdg : decode cc pc = .ok (.newarray .long, 2))
    (kk : ∀ (q : Nat) (H1 : Heap), va_P D vwCl (ws ++ [(q, .inl (cy 1, N, .inr (.inl (fun _ => 0))))]) H1 → va_D A (ws ++ [(q, .inl (cy 1, N, .inr (.inl (fun _ => 0))))]) → va_S A s.heap H1 locs → W p l e R s m args below meth c H1 locs (cells + 1) (slots + N) Q (F0 m (pc + 2) ls (.ref q :: rest))) : W p l e R s m args below meth c H locs cells slots Q (F0 m pc ls (.int n :: rest)) := by
  obtain ⟨hx, hb, hml, hown, hts, hr, hK, hNw, hCW, hlk, hin⟩ := hC
  refine va_newa (atype := .long) (ty := .long) (a0 := (N, .inr (.inl (fun _ => 0)))) hx hb (hts _ qwAL) rfl hK hP hD hS hA (fun _ => rfl) hn hN hby hcells hslots hdg (fun q cA H1 hK2 hP1 hD1 hS1 => ?_)
  have e : cA = cy 1 := cy_eq (k := 1) hK hK2 rfl
  subst e
  exact kk q H1 hP1 hD1 hS1
theorem iNewZ (hC : Ci p s m args meth c cc nL own D cy) (hP : va_P D vwCl ws H) (hD : va_D A ws) (hS : va_S A s.heap H locs) (hA : ∀ q, s.heap.size ≤ q → A q) {n : Int32} {N : Nat} (hn : ¬ n < 0) (hN : n.toNatClampNeg = N) (hby : N * componentBytes .boolean ≤ 536870912) (hcells : cells + 1 ≤ R.cells) (hslots : slots + N ≤ R.slots) (hdg : decode cc pc = .ok (.newarray .boolean, 2))
    (kk : ∀ (q : Nat) (H1 : Heap), va_P D vwCl (ws ++ [(q, .inl (cy 2, N, .inl (fun _ => 0)))]) H1 → va_D A (ws ++ [(q, .inl (cy 2, N, .inl (fun _ => 0)))]) → va_S A s.heap H1 locs → W p l e R s m args below meth c H1 locs (cells + 1) (slots + N) Q (F0 m (pc + 2) ls (.ref q :: rest))) : W p l e R s m args below meth c H locs cells slots Q (F0 m pc ls (.int n :: rest)) := by
  obtain ⟨hx, hb, hml, hown, hts, hr, hK, hNw, hCW, hlk, hin⟩ := hC
  refine va_newa (atype := .boolean) (ty := .boolean) (a0 := (N, .inl (fun _ => 0))) hx hb (hts _ qwAZ) rfl hK hP hD hS hA (fun _ => rfl) hn hN hby hcells hslots hdg (fun q cA H1 hK2 hP1 hD1 hS1 => ?_)
  have e : cA = cy 2 := cy_eq (k := 2) hK hK2 rfl
  subst e
  exact kk q H1 hP1 hD1 hS1
/-- a final field of the object itself, which is the world's first cell -/
theorem iPutF (hC : Ci p s m args meth c cc nL own D cy) {h0 ci N index : Nat} {fs : List Value} {T : u_T} (hP : va_P D vwCl ((h0, .inr (ci, fs)) :: ws) H) (hD : va_D A ((h0, .inr (ci, fs)) :: ws)) (hS : va_S A s.heap H locs) (hc : vwCl[ci]? = some (own, T, N)) (hin : ∀ w ∈ u_ws own T N, w ∈ wAll) {ty0 : Nat → FieldType} (hty : ∀ k, k < N → parseFieldDescriptor (T k).2.2.1 = some (ty0 k)) (hnm : ∀ a, a < N → ∀ b, b < N → a ≠ b → (T a).2.1 ≠ (T b).2.1) (k : Nat) (hk : k < N) (hl : Cond.fieldLink own index (T k).1 (T k).2.1 (T k).2.2.1 ∈ wAll) (hfin : (T k).2.2.2 = true) (hdecl : (T k).1 = own) {ty : FieldType} {v : Value} (hd : parseFieldDescriptor (T k).2.2.1 = some ty) (hn : narrow ty v = v) (hfit : fits ty v = true) (hlen : k < fs.length) (hdg : decode cc pc = .ok (.putfield index, 3))
    (kk : ∀ (H1 : Heap) (locs1 : List Loc), va_P D vwCl ((h0, .inr (ci, fs.set k v)) :: ws) H1 → va_D A ((h0, .inr (ci, fs.set k v)) :: ws) → va_S A s.heap H1 locs1 → W p l e R s m args below meth c H1 locs1 cells slots Q (F0 m (pc + 3) ls rest)) : W p l e R s m args below meth c H locs cells slots Q (F0 m pc ls (v :: .ref h0 :: rest)) := by
  obtain ⟨hx, hb, hml, hown, hts, hr, hK, hNw, hCW, hlk, hin2⟩ := hC
  exact va_putF (D := D) (ci := ci) (v := v) (ty := ty) (C := own) (T := T) (N := N) hx hb hts hin ty0 hty hnm hown hK hP hD hS 0 rfl hc k hk (hts _ hl) (fun _ h => h) hfin hin2 hdecl hd hn hfit hlen hdg kk
/-- a new object -/
theorem iNewC (hC : Ci p s m args meth c cc nL own D cy) (hP : va_P D vwCl ws H) (hD : va_D A ws) (hS : va_S A s.heap H locs) (hA : ∀ q, s.heap.size ≤ q → A q) {ci N index : Nat} {C : String} {T : u_T} {fs : List Value} (hc : vwCl[ci]? = some (C, T, N)) (hin : ∀ w ∈ u_ws C T N, w ∈ wAll) {ty0 : Nat → FieldType} (hty : ∀ k, k < N → parseFieldDescriptor (T k).2.2.1 = some (ty0 k)) (hcl : Cond.classLink own index C ∈ wAll) (hin1 : Cond.instantiable C N ∈ wAll) (hini : Cond.initialized C ∈ wAll) (hfs : ∀ j, j < N → defaultValue (ty0 j) = vp_V fs j) (hcells : cells + 1 ≤ R.cells) (hslots : slots + N ≤ R.slots) (hdg : decode cc pc = .ok (.new index, 3))
    (kk : ∀ (q : Nat) (H1 : Heap), va_P D vwCl (ws ++ [(q, .inr (ci, fs))]) H1 → va_D A (ws ++ [(q, .inr (ci, fs))]) → va_S A s.heap H1 locs → W p l e R s m args below meth c H1 locs (cells + 1) (slots + N) Q (F0 m (pc + 3) ls (.ref q :: rest))) : W p l e R s m args below meth c H locs cells slots Q (F0 m pc ls rest) := by
  obtain ⟨hx, hb, hml, hown, hts, hr, hK, hNw, hCW, hlk, hin2⟩ := hC
  exact va_new (ci := ci) (fs := fs) (C := C) (T := T) (N := N) hx hb hts hin ty0 hty hown (hts _ hcl) (hts _ hin1) (hts _ hini) hK hP hD hS hA hc hfs hcells hslots hdg kk
theorem va_A_sub {q : Nat} {e0 : va_E} (hD : va_D A (ws ++ [(q, e0)])) (hS : va_S A s.heap H locs) (hA : ∀ q, s.heap.size ≤ q → A q) : ∀ a, va_A [(q, e0)] H.size a → A a := fun a h => by
  rcases h with ⟨j, e, h⟩ | h
  · have hj : j = 0 := by
      have := (List.getElem?_eq_some_iff.mp h).1
      simp at this
      exact this
    subst hj
    have hq : q = a := by
      have : (q, e0) = (a, e) := Option.some.inj h
      exact congrArg Prod.fst this
    subst hq
    exact hD.2 ws.length (q, e0) (by rw [List.getElem?_append_right (Nat.le_refl _), Nat.sub_self]; rfl)
  · exact hA a (Nat.le_trans hS.1 h)
/-- a nest mate's constructor is called on the newest object -/
theorem iCallN (hC : Ci p s m args meth c cc nL own D cy) {q : Nat} {e0 : va_E} (hP : va_P D vwCl (ws ++ [(q, e0)]) H) (hD : va_D A (ws ++ [(q, e0)])) (hS : va_S A s.heap H locs) (hA : ∀ q, s.heap.size ≤ q → A q) {y : MethodName} {bytes : ByteArray} {maxL index nn n mc ms : Nat} {rm : Room} {As : List Value} {cE : (Nat → Nat) → Nat → Nat × va_E} {st : List Value} (hM : Met l y (Cond.code y bytes maxL none :: wAll) rm (iPc D cy (.ref q :: As) q H.size e0) (iQ D n cE q (va_A [(q, e0)] H.size)) mc ms (va_A [(q, e0)] H.size)) (hcode : Cond.code y bytes maxL none ∈ wAll) (hrm : rm.cells = mc ∧ rm.slots = ms) (hl : va_Nw (.methodLinkNest own index y "SnakeMesh") s) (hini : Cond.initialized y.cls ∈ wAll) (hinst : Cond.instanceMethod y ∈ wAll) (hyn : y.name = "<init>")
    (hd : y.cls ≠ "java/lang/invoke/MethodHandle" ∧ y.cls ≠ "java/lang/invoke/VarHandle" ∧ (parseMethodDescriptor y.desc).map (fun d => d.parameters.length) = some nn) (hR : rm.frames + 1 ≤ R.frames ∧ 8 + (maxL + 11) + rm.locals ≤ R.locals) (hn : As.length = nn) (hsize : ls.size = nL) (hst : st = As.reverse ++ .ref q :: rest) (hW : (rest.map fun v => v.category).sum ≤ 8) (hdg : decode cc pc = .ok (.invokespecial index, 3)) (hcs : cells + mc ≤ R.cells ∧ slots + ms ≤ R.slots)
    (kk : ∀ (r : Nat → Nat) (H1 : Heap) (locs1 : List Loc), r 0 = q → va_P D vwCl (ws ++ wF n (cE r)) H1 → va_D A (ws ++ wF n (cE r)) → va_S A s.heap H1 locs1 → W p l e R s m args below meth c H1 locs1 (cells + mc) (slots + ms) Q (F0 m (pc + 3) ls rest)) : W p l e R s m args below meth c H locs cells slots Q (F0 m pc ls st) := by
  obtain ⟨hx, hb, hml, hown, hts, hr, hK, hNw, hCW, hlk, hin2⟩ := hC
  have hF := va_A_sub hD hS hA
  have hPq : va_P D vwCl [(q, e0)] H := fun k x hx => by
    have h1 := (List.getElem?_eq_some_iff.mp hx).1
    simp at h1
    subst h1
    exact hP ws.length x (by rw [List.getElem?_append_right (Nat.le_refl _), Nat.sub_self]; exact hx)
  refine va_callv (va_runIN (As := As) (rest := rest) ⟨hx, hb, hml, hown, hts⟩ hM ⟨va_cnB nn hts (gdC hcode) rfl hrm.1 hrm.2 hl (hts _ hini) hd hR, hyn, hts _ hinst⟩ ⟨iPc_blind, fun U hU hW => ⟨rfl, by rw [hU], by rw [hU]; exact hPq, va_K.moved hW.alike hK, NW.warm hW hNw, CW.moved hW.alike hCW⟩⟩ rfl hn hsize hst (lv_room hW) hdg hcs) hS (fun a _ h => hF a h) hF (fun r t H1 locs1 ht hvm hw hB hz1 hk1 hS1 => ?_)
  obtain ⟨b1, b2⟩ := hB
  rw [ht] at b1
  obtain ⟨j1, j2⟩ := joinL hP hD hk1 hF b1 b2
  exact kk r H1 locs1 hw j1 j2 hS1
/-- a constructor is called on the newest object -/
theorem iCallI (hC : Ci p s m args meth c cc nL own D cy) {q : Nat} {e0 : va_E} (hP : va_P D vwCl (ws ++ [(q, e0)]) H) (hD : va_D A (ws ++ [(q, e0)])) (hS : va_S A s.heap H locs) (hA : ∀ q, s.heap.size ≤ q → A q) {y : MethodName} {bytes : ByteArray} {maxL index nn n mc ms : Nat} {rm : Room} {As : List Value} {cE : (Nat → Nat) → Nat → Nat × va_E} {st : List Value} (hM : Met l y (Cond.code y bytes maxL none :: wAll) rm (iPc D cy (.ref q :: As) q H.size e0) (iQ D n cE q (va_A [(q, e0)] H.size)) mc ms (va_A [(q, e0)] H.size)) (hcode : Cond.code y bytes maxL none ∈ wAll) (hrm : rm.cells = mc ∧ rm.slots = ms) (hl : Cond.methodLink own index y ∈ wAll) (hini : Cond.initialized y.cls ∈ wAll) (hinst : Cond.instanceMethod y ∈ wAll) (hyn : y.name = "<init>")
    (hd : y.cls ≠ "java/lang/invoke/MethodHandle" ∧ y.cls ≠ "java/lang/invoke/VarHandle" ∧ (parseMethodDescriptor y.desc).map (fun d => d.parameters.length) = some nn) (hR : rm.frames + 1 ≤ R.frames ∧ 8 + (maxL + 11) + rm.locals ≤ R.locals) (hn : As.length = nn) (hsize : ls.size = nL) (hst : st = As.reverse ++ .ref q :: rest) (hW : (rest.map fun v => v.category).sum ≤ 8) (hdg : decode cc pc = .ok (.invokespecial index, 3)) (hcs : cells + mc ≤ R.cells ∧ slots + ms ≤ R.slots)
    (kk : ∀ (r : Nat → Nat) (H1 : Heap) (locs1 : List Loc), r 0 = q → va_P D vwCl (ws ++ wF n (cE r)) H1 → va_D A (ws ++ wF n (cE r)) → va_S A s.heap H1 locs1 → W p l e R s m args below meth c H1 locs1 (cells + mc) (slots + ms) Q (F0 m (pc + 3) ls rest)) : W p l e R s m args below meth c H locs cells slots Q (F0 m pc ls st) := by
  obtain ⟨hx, hb, hml, hown, hts, hr, hK, hNw, hCW, hlk, hin2⟩ := hC
  have hF := va_A_sub hD hS hA
  have hPq : va_P D vwCl [(q, e0)] H := fun k x hx => by
    have h1 := (List.getElem?_eq_some_iff.mp hx).1
    simp at h1
    subst h1
    exact hP ws.length x (by rw [List.getElem?_append_right (Nat.le_refl _), Nat.sub_self]; exact hx)
  refine va_callv (va_runI (As := As) (rest := rest) ⟨hx, hb, hml, hown, hts⟩ hM (cwI nn hts (gdC hcode) rfl hrm.1 hrm.2 (hts _ hini) (hts _ hl) (hts _ hinst) hyn hd hR) ⟨iPc_blind, fun U hU hW => ⟨rfl, by rw [hU], by rw [hU]; exact hPq, va_K.moved hW.alike hK, NW.warm hW hNw, CW.moved hW.alike hCW⟩⟩ rfl hn hsize hst (lv_room hW) hdg hcs) hS (fun a _ h => hF a h) hF (fun r t H1 locs1 ht hvm hw hB hz1 hk1 hS1 => ?_)
  obtain ⟨b1, b2⟩ := hB
  rw [ht] at b1
  obtain ⟨j1, j2⟩ := joinL hP hD hk1 hF b1 b2
  exact kk r H1 locs1 hw j1 j2 hS1
/-- a constructor's end -/
theorem iRet (hC : Ci p s m args meth c cc nL own D cy) {h0 n mc ms : Nat} {q : Nat → Nat} {cE : (Nat → Nat) → Nat → Nat × va_E} (hq : q 0 = h0) (hP : va_P D vwCl (wF n (cE q)) H) (hD : va_D A (wF n (cE q))) (hS : va_S A s.heap H locs) (h1 : cells = mc) (h2 : slots = ms) (hdg : decode cc pc = .ok (.return_, 1)) : W p l e R s m args below meth c H locs cells slots (MQ below (iQ D n cE h0 A) args s mc ms A) (F0 m pc ls []) := by
  obtain ⟨hx, hb, hml, hown, hts, hr, hK, hNw, hCW, hlk, hin2⟩ := hC
  subst h1; subst h2
  exact W.vret hx hb hr (fun t ht hW => ⟨⟨q, rfl, hq, by rw [ht]; exact hP, hD⟩, hS.F ht⟩) hS.2.2 hdg hlk
end CR
