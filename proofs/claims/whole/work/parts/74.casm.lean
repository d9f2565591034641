-- ===== the class as it is made: 93 cells =====
theorem app_wF {n m : Nat} {c d : Nat → Nat × va_E} : wF n c ++ wF m d = wF (n + m) (fun p => if p < n then c p else d (p - n)) := by
  rw [wF_add]
  congr 1
  · exact wF_cg (fun k hk => by rw [if_pos hk])
  · exact wF_cg (fun k hk => by rw [if_neg (by omega), show n + k - n = k by omega])
def adX (h0 : Nat) (r1 r2 r3 rh rg rw rt rx : Nat → Nat) : Nat → Nat := fun k => if k = 0 then h0 else if k < 8 then r1 (k - 1) else if k < 15 then r2 (k - 8) else if k < 22 then r3 (k - 15) else if k < 57 then rh (k - 20) else if k < 59 then rh (k - 57) else if k < 63 then rg (k - 59) else if k < 87 then rw (k - 63) else if k < 89 then rt (k - 87) else rx (k - 89)
def x0 : HT := (fun _ _ => 0, fun _ _ => 0)
def wX (cy : Nat → ClassId) (h0 : Nat) (r1 r2 r3 rh rg rw rt rx : Nat → Nat) : va_W := (h0, .inr (6, [.ref (r1 0), .ref (r2 0), .ref (r3 0), .ref (rh 0), .ref (rg 0), .ref (rw 0), .ref (rt 0), .ref (rx 0), .int 0, .int 0, .int 0])) :: (((((((wF 7 (cS cy r1) ++ wF 7 (cS cy r2)) ++ wF 7 (cS cy r3)) ++ wF 37 (cH cy rh)) ++ wF 4 (cG cy rg)) ++ wF 24 (cW cy rw)) ++ wF 2 (cR cy rt)) ++ wF 4 (cT cy rx))
def cX (cy : Nat → ClassId) (h0 : Nat) (r1 r2 r3 rh rg rw rt rx : Nat → Nat) : Nat → Nat × va_E := fun p => if p < 1 then (h0, .inr (6, [.ref (r1 0), .ref (r2 0), .ref (r3 0), .ref (rh 0), .ref (rg 0), .ref (rw 0), .ref (rt 0), .ref (rx 0), .int 0, .int 0, .int 0])) else if p < 8 then cS cy r1 (p - 1) else if p < 15 then cS cy r2 (p - 8) else if p < 22 then cS cy r3 (p - 15) else if p < 59 then cH cy rh (p - 22) else if p < 63 then cG cy rg (p - 59) else if p < 87 then cW cy rw (p - 63) else if p < 89 then cR cy rt (p - 87) else cT cy rx (p - 89)
theorem wX_eq {cy : Nat → ClassId} {h0 : Nat} {r1 r2 r3 rh rg rw rt rx : Nat → Nat} : wX cy h0 r1 r2 r3 rh rg rw rt rx = wF 93 (cX cy h0 r1 r2 r3 rh rg rw rt rx) := by
  show wF 1 (fun _ => (h0, .inr (6, [.ref (r1 0), .ref (r2 0), .ref (r3 0), .ref (rh 0), .ref (rg 0), .ref (rw 0), .ref (rt 0), .ref (rx 0), .int 0, .int 0, .int 0]))) ++ (((((((wF 7 (cS cy r1) ++ wF 7 (cS cy r2)) ++ wF 7 (cS cy r3)) ++ wF 37 (cH cy rh)) ++ wF 4 (cG cy rg)) ++ wF 24 (cW cy rw)) ++ wF 2 (cR cy rt)) ++ wF 4 (cT cy rx)) = _
  rw [app_wF, app_wF, app_wF, app_wF, app_wF, app_wF, app_wF, app_wF]
  refine wF_cg (fun p hp => ?_)
  unfold cX
  by_cases e1 : p < 1
  · rw [if_pos e1, if_pos e1]
  rw [if_neg e1, if_neg e1]
  by_cases e2 : p < 8
  · rw [if_pos e2, if_pos (by omega), if_pos (by omega), if_pos (by omega), if_pos (by omega), if_pos (by omega), if_pos (by omega), if_pos (by omega)]
  rw [if_neg e2]
  by_cases e3 : p < 15
  · rw [if_pos e3, if_pos (by omega), if_pos (by omega), if_pos (by omega), if_pos (by omega), if_pos (by omega), if_pos (by omega), if_neg (by omega), show p - 1 - 7 = p - 8 by omega]
  rw [if_neg e3]
  by_cases e4 : p < 22
  · rw [if_pos e4, if_pos (by omega), if_pos (by omega), if_pos (by omega), if_pos (by omega), if_pos (by omega), if_neg (by omega), show p - 1 - (7 + 7) = p - 15 by omega]
  rw [if_neg e4]
  by_cases e5 : p < 59
  · rw [if_pos e5, if_pos (by omega), if_pos (by omega), if_pos (by omega), if_pos (by omega), if_neg (by omega), show p - 1 - (7 + 7 + 7) = p - 22 by omega]
  rw [if_neg e5]
  by_cases e6 : p < 63
  · rw [if_pos e6, if_pos (by omega), if_pos (by omega), if_pos (by omega), if_neg (by omega), show p - 1 - (7 + 7 + 7 + 37) = p - 59 by omega]
  rw [if_neg e6]
  by_cases e7 : p < 87
  · rw [if_pos e7, if_pos (by omega), if_pos (by omega), if_neg (by omega), show p - 1 - (7 + 7 + 7 + 37 + 4) = p - 63 by omega]
  rw [if_neg e7]
  by_cases e8 : p < 89
  · rw [if_pos e8, if_pos (by omega), if_neg (by omega), show p - 1 - (7 + 7 + 7 + 37 + 4 + 24) = p - 87 by omega]
  rw [if_neg e8, if_neg (by omega), show p - 1 - (7 + 7 + 7 + 37 + 4 + 24 + 2) = p - 89 by omega]
def phi (k : Nat) : Nat := if k < 22 then k else if k < 57 then k + 2 else if k < 59 then k - 35 else k
theorem phi_i {i j : Nat} (hi : i < 93) (hj : j < 93) (h : phi i = phi j) : i = j := by
  unfold phi at h
  split at h <;> split at h <;> (try split at h) <;> (try split at h) <;> (try split at h) <;> (try split at h) <;> omega
theorem phi_lt {k : Nat} (h : k < 93) : phi k < 93 := by
  unfold phi
  split
  · omega
  · split
    · omega
    · split <;> omega
theorem arrV_cg {c : ClassId} {N : Nat} {f g : Nat → Value} (h : ∀ j, j < N → f j = g j) : arrV c N f = arrV c N g := by
  unfold arrV
  congr 1
  exact congrArg _ (funext fun j => h j.1 j.2)
theorem at_rf {D : va_G} {cl : List vw_C} {a : Nat} {c : ClassId} {N : Nat} {f g : Nat → Option Nat} {H : Heap} (h : ∀ j, j < N → f j = g j) (hh : va_at D cl (a, .inl (c, N, .inr (.inr (.inr (.inr f))))) H) : va_at D cl (a, .inl (c, N, .inr (.inr (.inr (.inr g))))) H := by
  have e : arrV c N (fun j => va_rf (f j)) = arrV c N (fun j => va_rf (g j)) := arrV_cg (fun j hj => by rw [h j hj])
  show H[a]? = some (arrV c N (fun j => va_rf (g j)))
  rw [← e]
  exact hh
set_option maxRecDepth 100000 in
set_option maxHeartbeats 4000000 in
theorem adX_phi {cy : Nat → ClassId} {h0 : Nat} {r1 r2 r3 rh rg rw rt rx : Nat → Nat} : ∀ k, k < 93 → adX h0 r1 r2 r3 rh rg rw rt rx k = (cX cy h0 r1 r2 r3 rh rg rw rt rx (phi k)).1 := by
  intro k hk
  match k, hk with
  | 0, _ => rfl
  | 1, _ => rfl
  | 2, _ => rfl
  | 3, _ => rfl
  | 4, _ => rfl
  | 5, _ => rfl
  | 6, _ => rfl
  | 7, _ => rfl
  | 8, _ => rfl
  | 9, _ => rfl
  | 10, _ => rfl
  | 11, _ => rfl
  | 12, _ => rfl
  | 13, _ => rfl
  | 14, _ => rfl
  | 15, _ => rfl
  | 16, _ => rfl
  | 17, _ => rfl
  | 18, _ => rfl
  | 19, _ => rfl
  | 20, _ => rfl
  | 21, _ => rfl
  | 22, _ => rfl
  | 23, _ => rfl
  | 24, _ => rfl
  | 25, _ => rfl
  | 26, _ => rfl
  | 27, _ => rfl
  | 28, _ => rfl
  | 29, _ => rfl
  | 30, _ => rfl
  | 31, _ => rfl
  | 32, _ => rfl
  | 33, _ => rfl
  | 34, _ => rfl
  | 35, _ => rfl
  | 36, _ => rfl
  | 37, _ => rfl
  | 38, _ => rfl
  | 39, _ => rfl
  | 40, _ => rfl
  | 41, _ => rfl
  | 42, _ => rfl
  | 43, _ => rfl
  | 44, _ => rfl
  | 45, _ => rfl
  | 46, _ => rfl
  | 47, _ => rfl
  | 48, _ => rfl
  | 49, _ => rfl
  | 50, _ => rfl
  | 51, _ => rfl
  | 52, _ => rfl
  | 53, _ => rfl
  | 54, _ => rfl
  | 55, _ => rfl
  | 56, _ => rfl
  | 57, _ => rfl
  | 58, _ => rfl
  | 59, _ => rfl
  | 60, _ => rfl
  | 61, _ => rfl
  | 62, _ => rfl
  | 63, _ => rfl
  | 64, _ => rfl
  | 65, _ => rfl
  | 66, _ => rfl
  | 67, _ => rfl
  | 68, _ => rfl
  | 69, _ => rfl
  | 70, _ => rfl
  | 71, _ => rfl
  | 72, _ => rfl
  | 73, _ => rfl
  | 74, _ => rfl
  | 75, _ => rfl
  | 76, _ => rfl
  | 77, _ => rfl
  | 78, _ => rfl
  | 79, _ => rfl
  | 80, _ => rfl
  | 81, _ => rfl
  | 82, _ => rfl
  | 83, _ => rfl
  | 84, _ => rfl
  | 85, _ => rfl
  | 86, _ => rfl
  | 87, _ => rfl
  | 88, _ => rfl
  | 89, _ => rfl
  | 90, _ => rfl
  | 91, _ => rfl
  | 92, _ => rfl
  | k + 93, h => exact absurd h (by omega)
set_option maxRecDepth 100000 in
set_option maxHeartbeats 4000000 in
theorem asm_at {D : va_G} {cy : Nat → ClassId} {h0 : Nat} {r1 r2 r3 rh rg rw rt rx : Nat → Nat} {H : Heap} (h : ∀ p, p < 93 → va_at D vwCl (cX cy h0 r1 r2 r3 rh rg rw rt rx p) H) : ∀ k, k < 93 → va_at D vwCl (adX h0 r1 r2 r3 rh rg rw rt rx k, eX cy (adX h0 r1 r2 r3 rh rg rw rt rx) k (x0.1 k) (x0.2 k)) H := by
  intro k hk
  match k, hk with
  | 0, _ => exact h 0 (by decide)
  | 1, _ => exact h 1 (by decide)
  | 2, _ => exact h 2 (by decide)
  | 3, _ => exact h 3 (by decide)
  | 4, _ => exact h 4 (by decide)
  | 5, _ => exact h 5 (by decide)
  | 6, _ => exact h 6 (by decide)
  | 7, _ => exact h 7 (by decide)
  | 8, _ => exact h 8 (by decide)
  | 9, _ => exact h 9 (by decide)
  | 10, _ => exact h 10 (by decide)
  | 11, _ => exact h 11 (by decide)
  | 12, _ => exact h 12 (by decide)
  | 13, _ => exact h 13 (by decide)
  | 14, _ => exact h 14 (by decide)
  | 15, _ => exact h 15 (by decide)
  | 16, _ => exact h 16 (by decide)
  | 17, _ => exact h 17 (by decide)
  | 18, _ => exact h 18 (by decide)
  | 19, _ => exact h 19 (by decide)
  | 20, _ => exact h 20 (by decide)
  | 21, _ => exact h 21 (by decide)
  | 22, _ => exact h 24 (by decide)
  | 23, _ => exact h 25 (by decide)
  | 24, _ => exact h 26 (by decide)
  | 25, _ => exact h 27 (by decide)
  | 26, _ => exact h 28 (by decide)
  | 27, _ => exact h 29 (by decide)
  | 28, _ => exact h 30 (by decide)
  | 29, _ => exact h 31 (by decide)
  | 30, _ => exact h 32 (by decide)
  | 31, _ => exact h 33 (by decide)
  | 32, _ => exact h 34 (by decide)
  | 33, _ => exact h 35 (by decide)
  | 34, _ => exact h 36 (by decide)
  | 35, _ => exact h 37 (by decide)
  | 36, _ => exact h 38 (by decide)
  | 37, _ => exact h 39 (by decide)
  | 38, _ => exact h 40 (by decide)
  | 39, _ => exact h 41 (by decide)
  | 40, _ => exact h 42 (by decide)
  | 41, _ => exact h 43 (by decide)
  | 42, _ => exact h 44 (by decide)
  | 43, _ => exact h 45 (by decide)
  | 44, _ => exact h 46 (by decide)
  | 45, _ => exact h 47 (by decide)
  | 46, _ => exact h 48 (by decide)
  | 47, _ => exact h 49 (by decide)
  | 48, _ => exact h 50 (by decide)
  | 49, _ => exact h 51 (by decide)
  | 50, _ => exact h 52 (by decide)
  | 51, _ => exact h 53 (by decide)
  | 52, _ => exact h 54 (by decide)
  | 53, _ => exact h 55 (by decide)
  | 54, _ => exact h 56 (by decide)
  | 55, _ => exact h 57 (by decide)
  | 56, _ => exact h 58 (by decide)
  | 57, _ => exact h 22 (by decide)
  | 58, _ => exact at_rf (fun j hj => by rcases (show j = 0 ∨ j = 1 ∨ j = 2 ∨ j = 3 ∨ j = 4 by omega) with rfl | rfl | rfl | rfl | rfl <;> rfl) (h 23 (by decide))
  | 59, _ => exact h 59 (by decide)
  | 60, _ => exact h 60 (by decide)
  | 61, _ => exact h 61 (by decide)
  | 62, _ => exact h 62 (by decide)
  | 63, _ => exact h 63 (by decide)
  | 64, _ => exact h 64 (by decide)
  | 65, _ => exact at_rf (fun j hj => by rcases (show j = 0 ∨ j = 1 ∨ j = 2 ∨ j = 3 ∨ j = 4 ∨ j = 5 ∨ j = 6 ∨ j = 7 ∨ j = 8 ∨ j = 9 by omega) with rfl | rfl | rfl | rfl | rfl | rfl | rfl | rfl | rfl | rfl <;> rfl) (h 65 (by decide))
  | 66, _ => exact at_rf (fun j hj => by rcases (show j = 0 ∨ j = 1 ∨ j = 2 ∨ j = 3 ∨ j = 4 ∨ j = 5 ∨ j = 6 ∨ j = 7 ∨ j = 8 ∨ j = 9 by omega) with rfl | rfl | rfl | rfl | rfl | rfl | rfl | rfl | rfl | rfl <;> rfl) (h 66 (by decide))
  | 67, _ => exact h 67 (by decide)
  | 68, _ => exact h 68 (by decide)
  | 69, _ => exact h 69 (by decide)
  | 70, _ => exact h 70 (by decide)
  | 71, _ => exact h 71 (by decide)
  | 72, _ => exact h 72 (by decide)
  | 73, _ => exact h 73 (by decide)
  | 74, _ => exact h 74 (by decide)
  | 75, _ => exact h 75 (by decide)
  | 76, _ => exact h 76 (by decide)
  | 77, _ => exact h 77 (by decide)
  | 78, _ => exact h 78 (by decide)
  | 79, _ => exact h 79 (by decide)
  | 80, _ => exact h 80 (by decide)
  | 81, _ => exact h 81 (by decide)
  | 82, _ => exact h 82 (by decide)
  | 83, _ => exact h 83 (by decide)
  | 84, _ => exact h 84 (by decide)
  | 85, _ => exact h 85 (by decide)
  | 86, _ => exact h 86 (by decide)
  | 87, _ => exact h 87 (by decide)
  | 88, _ => exact h 88 (by decide)
  | 89, _ => exact h 89 (by decide)
  | 90, _ => exact h 90 (by decide)
  | 91, _ => exact h 91 (by decide)
  | 92, _ => exact h 92 (by decide)
  | k + 93, h => exact absurd h (by omega)
theorem asm_P {D : va_G} {cy : Nat → ClassId} {h0 : Nat} {r1 r2 r3 rh rg rw rt rx : Nat → Nat} {H : Heap} (h : va_P D vwCl (wX cy h0 r1 r2 r3 rh rg rw rt rx) H) : va_P D vwCl (wG (eX cy (adX h0 r1 r2 r3 rh rg rw rt rx)) 93 (adX h0 r1 r2 r3 rh rg rw rt rx) x0) H := by
  rw [wX_eq] at h
  exact wF_P.mpr (asm_at (wF_P.mp h))
theorem asm_D {A : Nat → Prop} {cy : Nat → ClassId} {h0 : Nat} {r1 r2 r3 rh rg rw rt rx : Nat → Nat} (h : va_D A (wX cy h0 r1 r2 r3 rh rg rw rt rx)) : apart (adX h0 r1 r2 r3 rh rg rw rt rx) A 93 := by
  rw [wX_eq, wF_D] at h
  refine ⟨fun i j hi hj e => ?_, fun k hk => ?_⟩
  · rw [adX_phi (cy := cy) i hi, adX_phi (cy := cy) j hj] at e
    exact phi_i hi hj (h.1 _ _ (phi_lt hi) (phi_lt hj) e)
  · rw [adX_phi (cy := cy) k hk]
    exact h.2 _ (phi_lt hk)
