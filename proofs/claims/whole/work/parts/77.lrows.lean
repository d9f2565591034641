-- ===== the law's rows =====
def Cl (p : Program) (s : State) (m : MethodId) (args : Array Value) (c : Code) (D : va_G) (cy : Nat → ClassId) (tX tY : Nat) (A : Nat → Prop) : Prop :=
  p.tables.exec = Jvm.exec ∧ c.code = cL_law ∧ c.maxLocals = 4 ∧ s.vm.findClass RL = some m.cls ∧ (∀ w ∈ wAll, w.before args s = true) ∧ va_K D vwCl (tyL cy) s ∧ ZS tX tY A s s.heap
theorem ZS.narrow {tX tY : Nat} {A B : Nat → Prop} {U : State} {H : Heap} (h : ZS tX tY A U H) (hAB : ∀ q, B q → A q) : ZS tX tY B U H := ⟨h.1.narrow hAB, h.2.1.narrow hAB, h.2.2.1.narrow hAB, h.2.2.2.1.narrow hAB, h.2.2.2.2⟩
section LR
variable {p : Program} {l : Launch} {e : Env} {R : Room} {s : State} {m : MethodId} {args : Array Value} {below : List Frame} {meth : Method} {c : Code} {H : Heap} {locs : List Loc} {cells slots : Nat} {Q : State → Prop} {pc : Nat} {ls : Array Slot} {rest : List Value} {D : va_G} {cy : Nat → ClassId} {tX tY : Nat} {ad : Nat → Nat} {A A1 : Nat → Prop} {n : Nat} {x : HT} {en : Nat → (Nat → Int32) → (Nat → Int64) → va_E}
theorem lVi (hC : Cl p s m args c D cy tX tY A) (hP : va_P D vwCl (wG en n ad x) H) (hS : va_S A s.heap H locs) (hsub : ∀ q, A1 q → A q) {y : MethodName} {bytes : ByteArray} {maxL index k ci N nn : Nat} {ret' : Option FieldType} {rm : Room} {As : List Value} {C : String} {T : u_T} {fs : List Value} {r0 : Int32} {x0 : HT} {st : List Value} (hM : Met l y (Cond.code y bytes maxL ret' :: wAll) rm (cPc en n ad D cy tX tY A1 (.ref (ad k) :: As) x) (cQi en n ad D A1 (r0, x0)) 0 0 A1) (hG : GoodIn wAll (wsV RL index C y (Cond.code y bytes maxL ret' :: wAll))) (hrm : rm.cells = 0 ∧ rm.slots = 0)
    (hd : y.cls = C ∧ y.cls ≠ "java/lang/invoke/MethodHandle" ∧ y.cls ≠ "java/lang/invoke/VarHandle" ∧ (parseMethodDescriptor y.desc).map (fun d => d.parameters.length) = some nn) (hR : rm.frames + 1 ≤ R.frames ∧ 8 + (maxL + 11) + rm.locals ≤ R.locals) (hk : k < n) (he : en k (x.1 k) (x.2 k) = .inr (ci, fs)) (hc : vwCl[ci]? = some (C, T, N)) (hn : As.length = nn) (hsize : ls.size = 4) (hst : st = As.reverse ++ .ref (ad k) :: rest) (hW : (rest.map fun v => v.category).sum ≤ 8) (hdg : decode cL_law pc = .ok (.invokevirtual index, 3)) (hcs : cells ≤ R.cells ∧ slots ≤ R.slots)
    (kk : ∀ (H1 : Heap) (locs1 : List Loc), va_P D vwCl (wG en n ad x0) H1 → (∀ q : Nat, q < H.size → ¬ A1 q → H1[q]? = H[q]?) → va_S A s.heap H1 locs1 → W p l e R s m args below meth c H1 locs1 cells slots Q (F0 m (pc + 3) ls (.int r0 :: rest))) : W p l e R s m args below meth c H locs cells slots Q (F0 m pc ls st) := by
  obtain ⟨hx, hb, hml, hown, hts, hK, hZ⟩ := hC
  refine va_calli (va_runV (As := As) (rest := rest) ⟨hx, hb, hml, hown, hts⟩ hM (cwV nn hts hG rfl hrm.1 hrm.2 hd hR) ⟨cPc_blind, va_recv hK hP hc (by rw [wG_at hk, he]), fun U hU hW => ⟨rfl, by rw [hU]; exact hP, va_K.moved hW.alike hK, (ZS.warm hW (hZ.kept (by rw [hU]; exact fun q h1 h2 => hS.2.1 q h1 h2))).narrow hsub⟩⟩ rfl hn hsize hst (lv_room hW) hdg hcs) hS (fun q _ h => hsub q h) hsub (fun r u t H1 locs1 ht hvm hw hB hz1 hk1 hS1 => ?_)
  obtain ⟨rfl, rfl⟩ := hw
  exact kk H1 locs1 (by rw [← ht]; exact hB) hk1 hS1
theorem lVl (hC : Cl p s m args c D cy tX tY A) (hP : va_P D vwCl (wG en n ad x) H) (hS : va_S A s.heap H locs) (hsub : ∀ q, A1 q → A q) {y : MethodName} {bytes : ByteArray} {maxL index k ci N nn : Nat} {ret' : Option FieldType} {rm : Room} {As : List Value} {C : String} {T : u_T} {fs : List Value} {r0 : Int64} {x0 : HT} {st : List Value} (hM : Met l y (Cond.code y bytes maxL ret' :: wAll) rm (cPc en n ad D cy tX tY A1 (.ref (ad k) :: As) x) (cQl en n ad D A1 (r0, x0)) 0 0 A1) (hG : GoodIn wAll (wsV RL index C y (Cond.code y bytes maxL ret' :: wAll))) (hrm : rm.cells = 0 ∧ rm.slots = 0)
    (hd : y.cls = C ∧ y.cls ≠ "java/lang/invoke/MethodHandle" ∧ y.cls ≠ "java/lang/invoke/VarHandle" ∧ (parseMethodDescriptor y.desc).map (fun d => d.parameters.length) = some nn) (hR : rm.frames + 1 ≤ R.frames ∧ 8 + (maxL + 11) + rm.locals ≤ R.locals) (hk : k < n) (he : en k (x.1 k) (x.2 k) = .inr (ci, fs)) (hc : vwCl[ci]? = some (C, T, N)) (hn : As.length = nn) (hsize : ls.size = 4) (hst : st = As.reverse ++ .ref (ad k) :: rest) (hW : (rest.map fun v => v.category).sum ≤ 8) (hdg : decode cL_law pc = .ok (.invokevirtual index, 3)) (hcs : cells ≤ R.cells ∧ slots ≤ R.slots)
    (kk : ∀ (H1 : Heap) (locs1 : List Loc), va_P D vwCl (wG en n ad x0) H1 → (∀ q : Nat, q < H.size → ¬ A1 q → H1[q]? = H[q]?) → va_S A s.heap H1 locs1 → W p l e R s m args below meth c H1 locs1 cells slots Q (F0 m (pc + 3) ls (.long r0 :: rest))) : W p l e R s m args below meth c H locs cells slots Q (F0 m pc ls st) := by
  obtain ⟨hx, hb, hml, hown, hts, hK, hZ⟩ := hC
  refine va_calll (va_runV (As := As) (rest := rest) ⟨hx, hb, hml, hown, hts⟩ hM (cwV nn hts hG rfl hrm.1 hrm.2 hd hR) ⟨cPc_blind, va_recv hK hP hc (by rw [wG_at hk, he]), fun U hU hW => ⟨rfl, by rw [hU]; exact hP, va_K.moved hW.alike hK, (ZS.warm hW (hZ.kept (by rw [hU]; exact fun q h1 h2 => hS.2.1 q h1 h2))).narrow hsub⟩⟩ rfl hn hsize hst (lv_room hW) hdg hcs) hS (fun q _ h => hsub q h) hsub (fun r u t H1 locs1 ht hvm hw hB hz1 hk1 hS1 => ?_)
  obtain ⟨rfl, rfl⟩ := hw
  exact kk H1 locs1 (by rw [← ht]; exact hB) hk1 hS1
end LR
def AX (ad : Nat → Nat) : Nat → Prop := fun q => ∃ k, k < 93 ∧ q = ad k
def AM (am : Nat → Nat) : Nat → Prop := fun q => ∃ k, k < 12 ∧ q = am k
def Lw (p : Program) (s : State) (m : MethodId) (meth : Method) (c : Code) (b L : Nat) (xs : Nat → Int32) (D : va_G) (cy : Nat → ClassId) (tX tY : Nat) (ad am : Nat → Nat) : Prop :=
  Cl p s m #[Value.ref b] c D cy tX tY (fun q => s.heap.size ≤ q) ∧ va_X b L xs s s.heap ∧ b < s.heap.size ∧ ¬ s.heap.size ≤ b ∧ apart ad (AX ad) 93 ∧ apart am (AM am) 12 ∧ (∀ i j, i < 93 → j < 12 → ad i ≠ am j) ∧ (∀ q, AX ad q → s.heap.size ≤ q) ∧ ∀ q, AM am q → s.heap.size ≤ q
def Nxt (p : Program) (l : Launch) (e : Env) (s : State) (m : MethodId) (below : List Frame) (meth : Method) (c : Code) (b : Nat) (D : va_G) (cy : Nat → ClassId) (ad am : Nat → Nat) (i B : Nat) (Q : State → Prop) : Prop :=
  ∀ (x mm : HT) (H : Heap) (locs : List Loc) (ls : Array Slot), REL x mm B → va_P D vwCl (wG (eX cy ad) 93 ad x) H → va_P D vwCl (wG (eM cy am) 12 am mm) H → va_S (fun q => s.heap.size ≤ q) s.heap H locs → lv_has ls 4 [(0, .ref b), (1, .ref (ad 0)), (2, .ref (am 0)), (3, .int (nI i))] → W p l e room_1 s m #[Value.ref b] below meth c H locs 105 3842 Q (F0 m 850 ls [])
theorem keptM {D : va_G} {cy : Nat → ClassId} {ad am : Nat → Nat} {mm : HT} {H H1 : Heap} (hap : ∀ i j, i < 93 → j < 12 → ad i ≠ am j) (hP : va_P D vwCl (wG (eM cy am) 12 am mm) H) (hk : ∀ q : Nat, q < H.size → ¬ AX ad q → H1[q]? = H[q]?) : ∀ (k : Nat) (q : Nat × va_E), (wG (eM cy am) 12 am mm)[k]? = some q → H1[q.1]? = H[q.1]? := fun k q hq => by
  have hlt := (hP k q hq).lt
  obtain ⟨h1, rfl⟩ := wG_some hq
  exact hk _ hlt (fun ⟨j, h2, h3⟩ => hap j k h2 h1 h3.symm)
theorem keptX {D : va_G} {cy : Nat → ClassId} {ad am : Nat → Nat} {x : HT} {H H1 : Heap} (hap : ∀ i j, i < 93 → j < 12 → ad i ≠ am j) (hP : va_P D vwCl (wG (eX cy ad) 93 ad x) H) (hk : ∀ q : Nat, q < H.size → ¬ AM am q → H1[q]? = H[q]?) : ∀ (k : Nat) (q : Nat × va_E), (wG (eX cy ad) 93 ad x)[k]? = some q → H1[q.1]? = H[q.1]? := fun k q hq => by
  have hlt := (hP k q hq).lt
  obtain ⟨h1, rfl⟩ := wG_some hq
  exact hk _ hlt (fun ⟨j, h2, h3⟩ => hap k j h1 h2 h3)
theorem REL.le {x m : HT} {B B' : Nat} (h : REL x m B) (hB : B ≤ B') : REL x m B' := by
  obtain ⟨a, S, hs, tp, n, tx, rf, X, M, O⟩ := h
  exact ⟨a, S, hs, tp, n, tx, rf, X, M, O.le hB⟩
theorem lcmp_self (r : Int64) : lg_cmp r r = 0 := by
  unfold lg_cmp
  simp
