-- ===== the two worlds =====
/-- the reference: cell 0 the object, 1 to 11 its rows -/
def eM (cy : Nat → ClassId) (ad : Nat → Nat) (k : Nat) (f : Nat → Int32) (g : Nat → Int64) : va_E :=
  if k = 0 then .inr (7, [.ref (ad 1), .ref (ad 2), .ref (ad 3), .int (f 3), .ref (ad 4), .ref (ad 5), .int (f 6), .ref (ad 6), .ref (ad 7), .ref (ad 8), .ref (ad 9), .ref (ad 10), .ref (ad 11), .int (f 13), .int (f 14), .int (f 15), .long (g 16)])
  else .inl (cy 0, [0, 80, 80, 400, 3, 120, 370, 10, 10, 360, 60, 180].getD k 0, .inl f)
theorem eM_0 (cy : Nat → ClassId) (ad : Nat → Nat) (f : Nat → Int32) (g : Nat → Int64) : eM cy ad 0 f g = .inr (7, [.ref (ad 1), .ref (ad 2), .ref (ad 3), .int (f 3), .ref (ad 4), .ref (ad 5), .int (f 6), .ref (ad 6), .ref (ad 7), .ref (ad 8), .ref (ad 9), .ref (ad 10), .ref (ad 11), .int (f 13), .int (f 14), .int (f 15), .long (g 16)]) := rfl
theorem eM_1 (cy : Nat → ClassId) (ad : Nat → Nat) (f : Nat → Int32) (g : Nat → Int64) : eM cy ad 1 f g = .inl (cy 0, 80, .inl f) := rfl
theorem eM_2 (cy : Nat → ClassId) (ad : Nat → Nat) (f : Nat → Int32) (g : Nat → Int64) : eM cy ad 2 f g = .inl (cy 0, 80, .inl f) := rfl
theorem eM_3 (cy : Nat → ClassId) (ad : Nat → Nat) (f : Nat → Int32) (g : Nat → Int64) : eM cy ad 3 f g = .inl (cy 0, 400, .inl f) := rfl
theorem eM_4 (cy : Nat → ClassId) (ad : Nat → Nat) (f : Nat → Int32) (g : Nat → Int64) : eM cy ad 4 f g = .inl (cy 0, 3, .inl f) := rfl
theorem eM_5 (cy : Nat → ClassId) (ad : Nat → Nat) (f : Nat → Int32) (g : Nat → Int64) : eM cy ad 5 f g = .inl (cy 0, 120, .inl f) := rfl
theorem eM_6 (cy : Nat → ClassId) (ad : Nat → Nat) (f : Nat → Int32) (g : Nat → Int64) : eM cy ad 6 f g = .inl (cy 0, 370, .inl f) := rfl
theorem eM_7 (cy : Nat → ClassId) (ad : Nat → Nat) (f : Nat → Int32) (g : Nat → Int64) : eM cy ad 7 f g = .inl (cy 0, 10, .inl f) := rfl
theorem eM_8 (cy : Nat → ClassId) (ad : Nat → Nat) (f : Nat → Int32) (g : Nat → Int64) : eM cy ad 8 f g = .inl (cy 0, 10, .inl f) := rfl
theorem eM_9 (cy : Nat → ClassId) (ad : Nat → Nat) (f : Nat → Int32) (g : Nat → Int64) : eM cy ad 9 f g = .inl (cy 0, 360, .inl f) := rfl
theorem eM_10 (cy : Nat → ClassId) (ad : Nat → Nat) (f : Nat → Int32) (g : Nat → Int64) : eM cy ad 10 f g = .inl (cy 0, 60, .inl f) := rfl
theorem eM_11 (cy : Nat → ClassId) (ad : Nat → Nat) (f : Nat → Int32) (g : Nat → Int64) : eM cy ad 11 f g = .inl (cy 0, 180, .inl f) := rfl
/-- the class: 0 SnakeMesh; 1 to 56 eight States of seven cells (now, before, ahead, kept 0 to 4); 57 History, 58 kept; 59 Grid, 60 xs, 61 ys, 62 ends; 63 Ways, 64 lengths, 65 places, 66 channels, 67 to 76 rows of places, 77 to 86 rows of channels; 87 Traffic, 88 taken; 89 Text, 90 bytes, 91 letters, 92 numbers -/
def eX (cy : Nat → ClassId) (ad : Nat → Nat) (k : Nat) (f : Nat → Int32) (g : Nat → Int64) : va_E :=
  if k = 0 then .inr (6, [.ref (ad 1), .ref (ad 8), .ref (ad 15), .ref (ad 57), .ref (ad 59), .ref (ad 63), .ref (ad 87), .ref (ad 89), .int (f 8), .int (f 9), .int (f 10)])
  else if k < 57 then
    (if k % 7 = 1 then .inr (2, [.int (f 0), .int (f 1), .int (f 2), .int (f 3), .ref (ad (k + 1)), .ref (ad (k + 2)), .ref (ad (k + 3)), .ref (ad (k + 4)), .ref (ad (k + 5)), .ref (ad (k + 6))])
    else if k % 7 = 5 then .inl (cy 1, 5, .inr (.inl g))
    else .inl (cy 0, [10, 0, 36, 5, 5, 0, 10].getD (k % 7) 0, .inl f))
  else if k = 57 then .inr (1, [.ref (ad 58), .int (f 1), .int (f 2)])
  else if k = 58 then .inl (cy 3, 5, .inr (.inr (.inr (.inr (fun i => some (ad (7 * (3 + i) + 1)))))))
  else if k = 59 then .inr (0, [.int (f 0), .int (f 1), .ref (ad 60), .ref (ad 61), .ref (ad 62)])
  else if k < 63 then .inl (cy 0, if k = 62 then 144 else 36, .inl f)
  else if k = 63 then .inr (5, [.ref (ad 64), .ref (ad 65), .ref (ad 66)])
  else if k = 64 then .inl (cy 0, 10, .inl f)
  else if k = 65 then .inl (cy 4, 10, .inr (.inr (.inr (.inr (fun i => some (ad (67 + i)))))))
  else if k = 66 then .inl (cy 4, 10, .inr (.inr (.inr (.inr (fun i => some (ad (77 + i)))))))
  else if k < 87 then .inl (cy 0, 36, .inl f)
  else if k = 87 then .inr (4, [.ref (ad 88)])
  else if k = 88 then .inl (cy 2, 144, .inl f)
  else if k = 89 then .inr (3, [.ref (ad 90), .int (f 1), .ref (ad 91), .ref (ad 92), .int (f 4), .int (f 5)])
  else .inl (cy 0, if k = 90 then 120 else if k = 91 then 60 else 180, .inl f)
theorem eX_0 (cy : Nat → ClassId) (ad : Nat → Nat) (f : Nat → Int32) (g : Nat → Int64) : eX cy ad 0 f g = .inr (6, [.ref (ad 1), .ref (ad 8), .ref (ad 15), .ref (ad 57), .ref (ad 59), .ref (ad 63), .ref (ad 87), .ref (ad 89), .int (f 8), .int (f 9), .int (f 10)]) := rfl
theorem eX_S {j : Nat} (hj : j < 8) (cy : Nat → ClassId) (ad : Nat → Nat) (f : Nat → Int32) (g : Nat → Int64) : eX cy ad (7 * j + 1) f g = .inr (2, [.int (f 0), .int (f 1), .int (f 2), .int (f 3), .ref (ad (7 * j + 2)), .ref (ad (7 * j + 3)), .ref (ad (7 * j + 4)), .ref (ad (7 * j + 5)), .ref (ad (7 * j + 6)), .ref (ad (7 * j + 7))]) := by
  rw [eX, if_neg (by omega), if_pos (by omega), if_pos (by omega)]
theorem eX_S1 {j : Nat} (hj : j < 8) (cy : Nat → ClassId) (ad : Nat → Nat) (f : Nat → Int32) (g : Nat → Int64) : eX cy ad (7 * j + 2) f g = .inl (cy 0, 36, .inl f) := by
  rw [eX, if_neg (by omega), if_pos (by omega), if_neg (by omega), if_neg (by omega), show (7 * j + 2) % 7 = 2 by omega]; rfl
theorem eX_S2 {j : Nat} (hj : j < 8) (cy : Nat → ClassId) (ad : Nat → Nat) (f : Nat → Int32) (g : Nat → Int64) : eX cy ad (7 * j + 3) f g = .inl (cy 0, 5, .inl f) := by
  rw [eX, if_neg (by omega), if_pos (by omega), if_neg (by omega), if_neg (by omega), show (7 * j + 3) % 7 = 3 by omega]; rfl
theorem eX_S3 {j : Nat} (hj : j < 8) (cy : Nat → ClassId) (ad : Nat → Nat) (f : Nat → Int32) (g : Nat → Int64) : eX cy ad (7 * j + 4) f g = .inl (cy 0, 5, .inl f) := by
  rw [eX, if_neg (by omega), if_pos (by omega), if_neg (by omega), if_neg (by omega), show (7 * j + 4) % 7 = 4 by omega]; rfl
theorem eX_S4 {j : Nat} (hj : j < 8) (cy : Nat → ClassId) (ad : Nat → Nat) (f : Nat → Int32) (g : Nat → Int64) : eX cy ad (7 * j + 5) f g = .inl (cy 1, 5, .inr (.inl g)) := by
  rw [eX, if_neg (by omega), if_pos (by omega), if_neg (by omega), if_pos (by omega)]
theorem eX_S5 {j : Nat} (hj : j < 8) (cy : Nat → ClassId) (ad : Nat → Nat) (f : Nat → Int32) (g : Nat → Int64) : eX cy ad (7 * j + 6) f g = .inl (cy 0, 10, .inl f) := by
  rw [eX, if_neg (by omega), if_pos (by omega), if_neg (by omega), if_neg (by omega), show (7 * j + 6) % 7 = 6 by omega]; rfl
theorem eX_S6 {j : Nat} (hj : j < 8) (cy : Nat → ClassId) (ad : Nat → Nat) (f : Nat → Int32) (g : Nat → Int64) : eX cy ad (7 * j + 7) f g = .inl (cy 0, 10, .inl f) := by
  rw [eX, if_neg (by omega), if_pos (by omega), if_neg (by omega), if_neg (by omega), show (7 * j + 7) % 7 = 0 by omega]; rfl
theorem eX_57 (cy : Nat → ClassId) (ad : Nat → Nat) (f : Nat → Int32) (g : Nat → Int64) : eX cy ad 57 f g = .inr (1, [.ref (ad 58), .int (f 1), .int (f 2)]) := rfl
theorem eX_58 (cy : Nat → ClassId) (ad : Nat → Nat) (f : Nat → Int32) (g : Nat → Int64) : eX cy ad 58 f g = .inl (cy 3, 5, .inr (.inr (.inr (.inr (fun i => some (ad (7 * (3 + i) + 1))))))) := rfl
theorem eX_59 (cy : Nat → ClassId) (ad : Nat → Nat) (f : Nat → Int32) (g : Nat → Int64) : eX cy ad 59 f g = .inr (0, [.int (f 0), .int (f 1), .ref (ad 60), .ref (ad 61), .ref (ad 62)]) := rfl
theorem eX_60 (cy : Nat → ClassId) (ad : Nat → Nat) (f : Nat → Int32) (g : Nat → Int64) : eX cy ad 60 f g = .inl (cy 0, 36, .inl f) := rfl
theorem eX_61 (cy : Nat → ClassId) (ad : Nat → Nat) (f : Nat → Int32) (g : Nat → Int64) : eX cy ad 61 f g = .inl (cy 0, 36, .inl f) := rfl
theorem eX_62 (cy : Nat → ClassId) (ad : Nat → Nat) (f : Nat → Int32) (g : Nat → Int64) : eX cy ad 62 f g = .inl (cy 0, 144, .inl f) := rfl
theorem eX_63 (cy : Nat → ClassId) (ad : Nat → Nat) (f : Nat → Int32) (g : Nat → Int64) : eX cy ad 63 f g = .inr (5, [.ref (ad 64), .ref (ad 65), .ref (ad 66)]) := rfl
theorem eX_64 (cy : Nat → ClassId) (ad : Nat → Nat) (f : Nat → Int32) (g : Nat → Int64) : eX cy ad 64 f g = .inl (cy 0, 10, .inl f) := rfl
theorem eX_65 (cy : Nat → ClassId) (ad : Nat → Nat) (f : Nat → Int32) (g : Nat → Int64) : eX cy ad 65 f g = .inl (cy 4, 10, .inr (.inr (.inr (.inr (fun i => some (ad (67 + i))))))) := rfl
theorem eX_66 (cy : Nat → ClassId) (ad : Nat → Nat) (f : Nat → Int32) (g : Nat → Int64) : eX cy ad 66 f g = .inl (cy 4, 10, .inr (.inr (.inr (.inr (fun i => some (ad (77 + i))))))) := rfl
theorem eX_P {i : Nat} (hi : i < 10) (cy : Nat → ClassId) (ad : Nat → Nat) (f : Nat → Int32) (g : Nat → Int64) : eX cy ad (67 + i) f g = .inl (cy 0, 36, .inl f) := by
  rw [eX, if_neg (by omega), if_neg (by omega), if_neg (by omega), if_neg (by omega), if_neg (by omega), if_neg (by omega), if_neg (by omega), if_neg (by omega), if_neg (by omega), if_neg (by omega), if_pos (by omega)]
theorem eX_Q {i : Nat} (hi : i < 10) (cy : Nat → ClassId) (ad : Nat → Nat) (f : Nat → Int32) (g : Nat → Int64) : eX cy ad (77 + i) f g = .inl (cy 0, 36, .inl f) := by
  rw [eX, if_neg (by omega), if_neg (by omega), if_neg (by omega), if_neg (by omega), if_neg (by omega), if_neg (by omega), if_neg (by omega), if_neg (by omega), if_neg (by omega), if_neg (by omega), if_pos (by omega)]
theorem eX_87 (cy : Nat → ClassId) (ad : Nat → Nat) (f : Nat → Int32) (g : Nat → Int64) : eX cy ad 87 f g = .inr (4, [.ref (ad 88)]) := rfl
theorem eX_88 (cy : Nat → ClassId) (ad : Nat → Nat) (f : Nat → Int32) (g : Nat → Int64) : eX cy ad 88 f g = .inl (cy 2, 144, .inl f) := rfl
theorem eX_89 (cy : Nat → ClassId) (ad : Nat → Nat) (f : Nat → Int32) (g : Nat → Int64) : eX cy ad 89 f g = .inr (3, [.ref (ad 90), .int (f 1), .ref (ad 91), .ref (ad 92), .int (f 4), .int (f 5)]) := rfl
theorem eX_90 (cy : Nat → ClassId) (ad : Nat → Nat) (f : Nat → Int32) (g : Nat → Int64) : eX cy ad 90 f g = .inl (cy 0, 120, .inl f) := rfl
theorem eX_91 (cy : Nat → ClassId) (ad : Nat → Nat) (f : Nat → Int32) (g : Nat → Int64) : eX cy ad 91 f g = .inl (cy 0, 60, .inl f) := rfl
theorem eX_92 (cy : Nat → ClassId) (ad : Nat → Nat) (f : Nat → Int32) (g : Nat → Int64) : eX cy ad 92 f g = .inl (cy 0, 180, .inl f) := rfl
theorem inb_lt {i : Int32} {n : Nat} (h : inb i n = true) : i.toNatClampNeg < n := by
  simp only [inb, Bool.and_eq_true, decide_eq_true_eq] at h
  exact h.2
/-- a contract out of a walk from the entry -/
theorem gMet {en : Nat → (Nat → Int32) → (Nat → Int64) → va_E} {n : Nat} {ad : Nat → Nat} {D : va_G} {cy : Nat → ClassId} {tX tY : Nat} {A : Nat → Prop} {av : List Value} {x : HT} {l : Launch} {y : MethodName} {cc : ByteArray} {nL : Nat} {ret : Option FieldType} {rm : Room} {Qc : Array Value → State → Outcome → State → Prop} (hA : apart ad A n) (hy : plainName y.cls = true) (hn : (lg_sl av).length ≤ nL)
    (K : ∀ (p : Program) (e : Env) (s : State) (m : MethodId) (below : List Frame) (meth : Method) (c : Code), Cf p s m av.toArray meth c cc nL y.cls ret D cy tX tY ad A n → ∀ (H : Heap) (locs : List Loc) (ls : Array Slot), va_P D vwCl (wG en n ad x) H → va_S A s.heap H locs → lv_has ls nL (lv_args 0 av) → W p l e rm s m av.toArray below meth c H locs 0 0 (MQ below Qc av.toArray s 0 0 A) (F0 m 0 ls [])) :
    Met l y (Cond.code y cc nL ret :: wAll) rm (cPc en n ad D cy tX tY A av x) Qc 0 0 A := by
  refine Met.ofW (cc := cc) (maxL := nL) (ret := ret) hy rfl ?_
  intro p e s m args below meth c s₁ B hml hv
  obtain ⟨rfl, hP, hK, hZ⟩ := hv
  have hts := atoms_spec (ws := Cond.code y cc nL ret :: wAll) B.pre
  have hC : Cf p s m av.toArray meth c cc nL y.cls ret D cy tX tY ad A n := ⟨B.exec, B.bytes, hml, findClass_of_methodNamed B.named, fun w hw => hts w (List.mem_cons_of_mem _ hw), B.returns, hK, hZ, hA, B.notSynchronized⟩
  have hl := lv_entry av (n := nL) hn
  rw [lg_entry_eq]
  exact K p e s m below meth c hC s.heap [] _ hP va_S.rf hl
/-- a walk from a place in a method, whatever the heap -/
def Wd (p : Program) (l : Launch) (e : Env) (R : Room) (s : State) (m : MethodId) (args : Array Value) (below : List Frame) (meth : Method) (c : Code) (D : va_G) (en : Nat → (Nat → Int32) → (Nat → Int64) → va_E) (n : Nat) (ad : Nat → Nat) (A : Nat → Prop) (Qc : Array Value → State → Outcome → State → Prop) (nL pc : Nat) (L : List (Nat × Value)) (st : List Value) (x : HT) : Prop :=
  ∀ (H : Heap) (locs : List Loc) (ls : Array Slot), va_P D vwCl (wG en n ad x) H → va_S A s.heap H locs → lv_has ls nL L → W p l e R s m args below meth c H locs 0 0 (MQ below Qc args s 0 0 A) (F0 m pc ls st)
section GR2
variable {p : Program} {l : Launch} {e : Env} {R : Room} {s : State} {m : MethodId} {args : Array Value} {below : List Frame} {meth : Method} {c : Code} {H : Heap} {locs : List Loc} {cells slots : Nat} {Q : State → Prop} {cc : ByteArray} {pc : Nat} {ls : Array Slot} {rest : List Value} {D : va_G} {cy : Nat → ClassId} {tX tY : Nat} {ad : Nat → Nat} {A : Nat → Prop} {n nL : Nat} {own : String} {ret : Option FieldType} {x : HT}
theorem gKept (hC : Cf p s m args meth c cc nL own ret D cy tX tY ad A 93) (hP : va_P D vwCl (wG (eX cy ad) 93 ad x) H) {i : Int32} (hi : inb i 5 = true) (hdg : decode cc pc = .ok (.aaload, 1))
    (kk : W p l e R s m args below meth c H locs cells slots Q (F0 m (pc + 1) ls (.ref (ad (7 * (3 + i.toNatClampNeg) + 1)) :: rest))) : W p l e R s m args below meth c H locs cells slots Q (F0 m pc ls (.int i :: .ref (ad 58) :: rest)) := by
  obtain ⟨hx, hb, hml, hown, hts, hr, hK, hZ, hA, hlk⟩ := hC
  exact va_aldq (C := "SnakeMesh$State") (f := fun i => some (ad (7 * (3 + i) + 1))) hx hb hK hP 58 3 (by rw [wG_at (by decide), eX_58]) rfl (inb_in hi) hdg kk
theorem gRow (hC : Cf p s m args meth c cc nL own ret D cy tX tY ad A 93) (hP : va_P D vwCl (wG (eX cy ad) 93 ad x) H) (k b : Nat) (hk : k < 93) (he : eX cy ad k (x.1 k) (x.2 k) = .inl (cy 4, 10, .inr (.inr (.inr (.inr (fun i => some (ad (b + i)))))))) {i : Int32} (hi : inb i 10 = true) (hdg : decode cc pc = .ok (.aaload, 1))
    (kk : W p l e R s m args below meth c H locs cells slots Q (F0 m (pc + 1) ls (.ref (ad (b + i.toNatClampNeg)) :: rest))) : W p l e R s m args below meth c H locs cells slots Q (F0 m pc ls (.int i :: .ref (ad k) :: rest)) := by
  obtain ⟨hx, hb, hml, hown, hts, hr, hK, hZ, hA, hlk⟩ := hC
  have hlt : i.toNatClampNeg < 10 := inb_lt hi
  have ha : (wG (eX cy ad) 93 ad x)[k]? = some (ad k, .inl (cy 4, 10, .inr (.inr (.inr (.inr (fun i => some (ad (b + i)))))))) := by rw [wG_at hk, he]
  exact W.aald (v := .ref (ad (b + i.toNatClampNeg))) (ty := .array .int) hx hb (hP k _ ha) ((hK.2 4 (cy 4, .array .int) rfl).1 10 (fun j => va_rf (some (ad (b + j))))) rfl (fun q => by cases q) (by show ¬ (i < 0 ∨ (arrV _ _ _).slots.size ≤ _); rw [arrV_size]; exact inb_in hi) (by show (arrV _ _ _).slots[_]? = _; rw [arrV_read _ _ hlt]; rfl) rfl rfl hdg kk
theorem gStat (hC : Cf p s m args meth c cc nL own ret D cy tX tY ad A n) (hS : va_S A s.heap H locs) {i : Int32} {t : Nat} {f : Nat → Int32} (hT : va_T .int t 4 (fun j => .int (f j)) A s s.heap) (hi : inb i 4 = true) (hdg : decode cc pc = .ok (.iaload, 1))
    (kk : W p l e R s m args below meth c H locs cells slots Q (F0 m (pc + 1) ls (.int (f i.toNatClampNeg) :: rest))) : W p l e R s m args below meth c H locs cells slots Q (F0 m pc ls (.int i :: .ref t :: rest)) := by
  obtain ⟨hx, hb, hml, hown, hts, hr, hK, hZ, hA, hlk⟩ := hC
  exact va_ti hx hb hT hS (inb_in hi) rfl hdg kk
theorem gLookD {x9 : Int32} {a : Int} {k : Int32} (h : ¬ x9 = k) (hk : k.toInt = a) : ¬ x9.toInt = a := lv_neT h hk
end GR2
