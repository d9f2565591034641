-- ===== the law, a case each =====
section LC
variable {p : Program} {l : Launch} {e : Env} {s : State} {m : MethodId} {below : List Frame} {meth : Method} {c : Code} {b L : Nat} {xs : Nat → Int32} {D : va_G} {cy : Nat → ClassId} {tX tY : Nat} {ad am : Nat → Nat} {x mm : HT} {H : Heap} {locs : List Loc} {ls : Array Slot} {Q : State → Prop} {i B : Nat}
set_option maxHeartbeats 4000000 in
set_option maxRecDepth 100000 in
theorem lc_mesh (hL : Lw p s m meth c b L xs D cy tX tY ad am) (hi : i + 5 ≤ L) (hLb : L ≤ 2560) (hB : B + 12000 < 2147483648) (hrel : REL x mm B) (hPX : va_P D vwCl (wG (eX cy ad) 93 ad x) H) (hPM : va_P D vwCl (wG (eM cy am) 12 am mm) H) (hS : va_S (fun q => s.heap.size ≤ q) s.heap H locs) (hl : lv_has ls 4 [(0, .ref b), (1, .ref (ad 0)), (2, .ref (am 0)), (3, .int (nI i))]) (hn : Nxt p l e s m below meth c b D cy ad am i (B + 12000) Q) : W p l e room_1 s m #[Value.ref b] below meth c H locs 105 3842 Q (F0 m 140 ls []) := by
  obtain ⟨hC, hX, hbl, hbA, haX, haM, hap, hgX, hgM⟩ := id hL
  obtain ⟨hx, hb, -⟩ := id hC
  have h1 : vp_in (nI i + 1) L := by rw [show nI i + 1 = nI (i + 1) from nI_add i 1]; exact vp_in_nI (by omega) (by omega)
  have h2 : vp_in (nI i + 2) L := by rw [show nI i + 2 = nI (i + 2) from nI_add i 2]; exact vp_in_nI (by omega) (by omega)
  obtain ⟨r, x', m', e1, e2, hrel'⟩ := b_mesh (F := 1000) (Nat.le_refl _) hrel (xs (nI i + 1).toNatClampNeg) (xs (nI i + 2).toNatClampNeg)
  have hrel9 : REL x' m' (B + 12000) := hrel'.le (by omega)
  refine lv_aload_n hx hb dL_law_140 rfl (lv_at hl 1 rfl) ?_
  refine lv_aload_n hx hb dL_law_141 rfl (lv_at hl 0 rfl) ?_
  refine lv_iload_n hx hb dL_law_142 rfl (lv_at hl 3 rfl) ?_
  refine lv_iconst (v := 1) hx hb dL_law_143 (by decide) ?_
  refine lv_iadd hx hb dL_law_144 ?_
  refine va_sld hx hb hX hbl hbA hS h1 dL_law_145 ?_
  refine lv_aload_n hx hb dL_law_146 rfl (lv_at hl 0 rfl) ?_
  refine lv_iload_n hx hb dL_law_147 rfl (lv_at hl 3 rfl) ?_
  refine lv_iconst (v := 2) hx hb dL_law_148 (by decide) ?_
  refine lv_iadd hx hb dL_law_149 ?_
  refine va_sld hx hb hX hbl hbA hS h2 dL_law_150 ?_
  refine lVi (As := [.int (xs (nI i + 1).toNatClampNeg), .int (xs (nI i + 2).toNatClampNeg)]) (rest := []) (k := 0) hC hPX hS (fun q h => hgX q h) (kX6_mesh l D cy tX tY ad (AX ad) haX 1000 x (xs (nI i + 1).toNatClampNeg) (xs (nI i + 2).toNatClampNeg) e1) glL_13 ⟨rfl, rfl⟩ hdL_13 ⟨Nat.le_of_ble_eq_true rfl, Nat.le_of_ble_eq_true rfl⟩ (by decide) (eX_0 cy ad _ _) rfl rfl hl.1 rfl (Nat.le_of_ble_eq_true rfl) dL_law_151 ⟨Nat.le_of_ble_eq_true rfl, Nat.le_of_ble_eq_true rfl⟩ (fun H locs hPX hk hS => ?_)
  have hPM := hPM.kept (keptM hap hPM hk)
  refine lv_aload_n hx hb dL_law_154 rfl (lv_at hl 2 rfl) ?_
  refine lv_aload_n hx hb dL_law_155 rfl (lv_at hl 0 rfl) ?_
  refine lv_iload_n hx hb dL_law_156 rfl (lv_at hl 3 rfl) ?_
  refine lv_iconst (v := 1) hx hb dL_law_157 (by decide) ?_
  refine lv_iadd hx hb dL_law_158 ?_
  refine va_sld hx hb hX hbl hbA hS h1 dL_law_159 ?_
  refine lv_aload_n hx hb dL_law_160 rfl (lv_at hl 0 rfl) ?_
  refine lv_iload_n hx hb dL_law_161 rfl (lv_at hl 3 rfl) ?_
  refine lv_iconst (v := 2) hx hb dL_law_162 (by decide) ?_
  refine lv_iadd hx hb dL_law_163 ?_
  refine va_sld hx hb hX hbl hbA hS h2 dL_law_164 ?_
  refine lVi (As := [.int (xs (nI i + 1).toNatClampNeg), .int (xs (nI i + 2).toNatClampNeg)]) (rest := [.int r]) (k := 0) hC hPM hS (fun q h => hgM q h) (kX7_mesh l D cy tX tY am (AM am) haM 1000 mm (xs (nI i + 1).toNatClampNeg) (xs (nI i + 2).toNatClampNeg) e2) glL_17 ⟨rfl, rfl⟩ hdL_17 ⟨Nat.le_of_ble_eq_true rfl, Nat.le_of_ble_eq_true rfl⟩ (by decide) (eM_0 cy am _ _) rfl rfl hl.1 rfl (Nat.le_of_ble_eq_true rfl) dL_law_165 ⟨Nat.le_of_ble_eq_true rfl, Nat.le_of_ble_eq_true rfl⟩ (fun H locs hPM hk hS => ?_)
  have hPX := hPX.kept (keptX hap hPX hk)
  exact lv_icmp_eq (tgt := 850) hx hb dL_law_168 (by decide) (fun _ => hn x' m' H locs ls hrel9 hPX hPM hS hl) (fun c9 => absurd rfl c9)
set_option maxHeartbeats 4000000 in
set_option maxRecDepth 100000 in
theorem lc_message (hL : Lw p s m meth c b L xs D cy tX tY ad am) (hi : i + 5 ≤ L) (hLb : L ≤ 2560) (hB : B + 12000 < 2147483648) (hrel : REL x mm B) (hPX : va_P D vwCl (wG (eX cy ad) 93 ad x) H) (hPM : va_P D vwCl (wG (eM cy am) 12 am mm) H) (hS : va_S (fun q => s.heap.size ≤ q) s.heap H locs) (hl : lv_has ls 4 [(0, .ref b), (1, .ref (ad 0)), (2, .ref (am 0)), (3, .int (nI i))]) (hn : Nxt p l e s m below meth c b D cy ad am i (B + 12000) Q) : W p l e room_1 s m #[Value.ref b] below meth c H locs 105 3842 Q (F0 m 173 ls []) := by
  obtain ⟨hC, hX, hbl, hbA, haX, haM, hap, hgX, hgM⟩ := id hL
  obtain ⟨hx, hb, -⟩ := id hC
  have h1 : vp_in (nI i + 1) L := by rw [show nI i + 1 = nI (i + 1) from nI_add i 1]; exact vp_in_nI (by omega) (by omega)
  have h2 : vp_in (nI i + 2) L := by rw [show nI i + 2 = nI (i + 2) from nI_add i 2]; exact vp_in_nI (by omega) (by omega)
  have h3 : vp_in (nI i + 3) L := by rw [show nI i + 3 = nI (i + 3) from nI_add i 3]; exact vp_in_nI (by omega) (by omega)
  obtain ⟨r, x', m', e1, e2, hrel'⟩ := b_message (F := 1000) (Nat.le_refl _) hrel (xs (nI i + 1).toNatClampNeg) (xs (nI i + 2).toNatClampNeg) (xs (nI i + 3).toNatClampNeg)
  have hrel9 : REL x' m' (B + 12000) := hrel'.le (by omega)
  refine lv_aload_n hx hb dL_law_173 rfl (lv_at hl 1 rfl) ?_
  refine lv_aload_n hx hb dL_law_174 rfl (lv_at hl 0 rfl) ?_
  refine lv_iload_n hx hb dL_law_175 rfl (lv_at hl 3 rfl) ?_
  refine lv_iconst (v := 1) hx hb dL_law_176 (by decide) ?_
  refine lv_iadd hx hb dL_law_177 ?_
  refine va_sld hx hb hX hbl hbA hS h1 dL_law_178 ?_
  refine lv_aload_n hx hb dL_law_179 rfl (lv_at hl 0 rfl) ?_
  refine lv_iload_n hx hb dL_law_180 rfl (lv_at hl 3 rfl) ?_
  refine lv_iconst (v := 2) hx hb dL_law_181 (by decide) ?_
  refine lv_iadd hx hb dL_law_182 ?_
  refine va_sld hx hb hX hbl hbA hS h2 dL_law_183 ?_
  refine lv_aload_n hx hb dL_law_184 rfl (lv_at hl 0 rfl) ?_
  refine lv_iload_n hx hb dL_law_185 rfl (lv_at hl 3 rfl) ?_
  refine lv_iconst (v := 3) hx hb dL_law_186 (by decide) ?_
  refine lv_iadd hx hb dL_law_187 ?_
  refine va_sld hx hb hX hbl hbA hS h3 dL_law_188 ?_
  refine lVi (As := [.int (xs (nI i + 1).toNatClampNeg), .int (xs (nI i + 2).toNatClampNeg), .int (xs (nI i + 3).toNatClampNeg)]) (rest := []) (k := 0) hC hPX hS (fun q h => hgX q h) (kX6_message l D cy tX tY ad (AX ad) haX 1000 x (xs (nI i + 1).toNatClampNeg) (xs (nI i + 2).toNatClampNeg) (xs (nI i + 3).toNatClampNeg) e1) glL_18 ⟨rfl, rfl⟩ hdL_18 ⟨Nat.le_of_ble_eq_true rfl, Nat.le_of_ble_eq_true rfl⟩ (by decide) (eX_0 cy ad _ _) rfl rfl hl.1 rfl (Nat.le_of_ble_eq_true rfl) dL_law_189 ⟨Nat.le_of_ble_eq_true rfl, Nat.le_of_ble_eq_true rfl⟩ (fun H locs hPX hk hS => ?_)
  have hPM := hPM.kept (keptM hap hPM hk)
  refine lv_aload_n hx hb dL_law_192 rfl (lv_at hl 2 rfl) ?_
  refine lv_aload_n hx hb dL_law_193 rfl (lv_at hl 0 rfl) ?_
  refine lv_iload_n hx hb dL_law_194 rfl (lv_at hl 3 rfl) ?_
  refine lv_iconst (v := 1) hx hb dL_law_195 (by decide) ?_
  refine lv_iadd hx hb dL_law_196 ?_
  refine va_sld hx hb hX hbl hbA hS h1 dL_law_197 ?_
  refine lv_aload_n hx hb dL_law_198 rfl (lv_at hl 0 rfl) ?_
  refine lv_iload_n hx hb dL_law_199 rfl (lv_at hl 3 rfl) ?_
  refine lv_iconst (v := 2) hx hb dL_law_200 (by decide) ?_
  refine lv_iadd hx hb dL_law_201 ?_
  refine va_sld hx hb hX hbl hbA hS h2 dL_law_202 ?_
  refine lv_aload_n hx hb dL_law_203 rfl (lv_at hl 0 rfl) ?_
  refine lv_iload_n hx hb dL_law_204 rfl (lv_at hl 3 rfl) ?_
  refine lv_iconst (v := 3) hx hb dL_law_205 (by decide) ?_
  refine lv_iadd hx hb dL_law_206 ?_
  refine va_sld hx hb hX hbl hbA hS h3 dL_law_207 ?_
  refine lVi (As := [.int (xs (nI i + 1).toNatClampNeg), .int (xs (nI i + 2).toNatClampNeg), .int (xs (nI i + 3).toNatClampNeg)]) (rest := [.int r]) (k := 0) hC hPM hS (fun q h => hgM q h) (kX7_message l D cy tX tY am (AM am) haM 1000 mm (xs (nI i + 1).toNatClampNeg) (xs (nI i + 2).toNatClampNeg) (xs (nI i + 3).toNatClampNeg) e2) glL_22 ⟨rfl, rfl⟩ hdL_22 ⟨Nat.le_of_ble_eq_true rfl, Nat.le_of_ble_eq_true rfl⟩ (by decide) (eM_0 cy am _ _) rfl rfl hl.1 rfl (Nat.le_of_ble_eq_true rfl) dL_law_208 ⟨Nat.le_of_ble_eq_true rfl, Nat.le_of_ble_eq_true rfl⟩ (fun H locs hPM hk hS => ?_)
  have hPX := hPX.kept (keptX hap hPX hk)
  exact lv_icmp_eq (tgt := 850) hx hb dL_law_211 (by decide) (fun _ => hn x' m' H locs ls hrel9 hPX hPM hS hl) (fun c9 => absurd rfl c9)
set_option maxHeartbeats 4000000 in
set_option maxRecDepth 100000 in
theorem lc_goal (hL : Lw p s m meth c b L xs D cy tX tY ad am) (hi : i + 5 ≤ L) (hLb : L ≤ 2560) (hB : B + 12000 < 2147483648) (hrel : REL x mm B) (hPX : va_P D vwCl (wG (eX cy ad) 93 ad x) H) (hPM : va_P D vwCl (wG (eM cy am) 12 am mm) H) (hS : va_S (fun q => s.heap.size ≤ q) s.heap H locs) (hl : lv_has ls 4 [(0, .ref b), (1, .ref (ad 0)), (2, .ref (am 0)), (3, .int (nI i))]) (hn : Nxt p l e s m below meth c b D cy ad am i (B + 12000) Q) : W p l e room_1 s m #[Value.ref b] below meth c H locs 105 3842 Q (F0 m 216 ls []) := by
  obtain ⟨hC, hX, hbl, hbA, haX, haM, hap, hgX, hgM⟩ := id hL
  obtain ⟨hx, hb, -⟩ := id hC
  have h1 : vp_in (nI i + 1) L := by rw [show nI i + 1 = nI (i + 1) from nI_add i 1]; exact vp_in_nI (by omega) (by omega)
  have h2 : vp_in (nI i + 2) L := by rw [show nI i + 2 = nI (i + 2) from nI_add i 2]; exact vp_in_nI (by omega) (by omega)
  have h3 : vp_in (nI i + 3) L := by rw [show nI i + 3 = nI (i + 3) from nI_add i 3]; exact vp_in_nI (by omega) (by omega)
  obtain ⟨r, x', m', e1, e2, hrel'⟩ := b_goal (F := 1000) (Nat.le_refl _) hrel (xs (nI i + 1).toNatClampNeg) (xs (nI i + 2).toNatClampNeg) (xs (nI i + 3).toNatClampNeg)
  have hrel9 : REL x' m' (B + 12000) := hrel'.le (by omega)
  refine lv_aload_n hx hb dL_law_216 rfl (lv_at hl 1 rfl) ?_
  refine lv_aload_n hx hb dL_law_217 rfl (lv_at hl 0 rfl) ?_
  refine lv_iload_n hx hb dL_law_218 rfl (lv_at hl 3 rfl) ?_
  refine lv_iconst (v := 1) hx hb dL_law_219 (by decide) ?_
  refine lv_iadd hx hb dL_law_220 ?_
  refine va_sld hx hb hX hbl hbA hS h1 dL_law_221 ?_
  refine lv_aload_n hx hb dL_law_222 rfl (lv_at hl 0 rfl) ?_
  refine lv_iload_n hx hb dL_law_223 rfl (lv_at hl 3 rfl) ?_
  refine lv_iconst (v := 2) hx hb dL_law_224 (by decide) ?_
  refine lv_iadd hx hb dL_law_225 ?_
  refine va_sld hx hb hX hbl hbA hS h2 dL_law_226 ?_
  refine lv_aload_n hx hb dL_law_227 rfl (lv_at hl 0 rfl) ?_
  refine lv_iload_n hx hb dL_law_228 rfl (lv_at hl 3 rfl) ?_
  refine lv_iconst (v := 3) hx hb dL_law_229 (by decide) ?_
  refine lv_iadd hx hb dL_law_230 ?_
  refine va_sld hx hb hX hbl hbA hS h3 dL_law_231 ?_
  refine lVi (As := [.int (xs (nI i + 1).toNatClampNeg), .int (xs (nI i + 2).toNatClampNeg), .int (xs (nI i + 3).toNatClampNeg)]) (rest := []) (k := 0) hC hPX hS (fun q h => hgX q h) (kX6_goal l D cy tX tY ad (AX ad) haX 1000 x (xs (nI i + 1).toNatClampNeg) (xs (nI i + 2).toNatClampNeg) (xs (nI i + 3).toNatClampNeg) e1) glL_23 ⟨rfl, rfl⟩ hdL_23 ⟨Nat.le_of_ble_eq_true rfl, Nat.le_of_ble_eq_true rfl⟩ (by decide) (eX_0 cy ad _ _) rfl rfl hl.1 rfl (Nat.le_of_ble_eq_true rfl) dL_law_232 ⟨Nat.le_of_ble_eq_true rfl, Nat.le_of_ble_eq_true rfl⟩ (fun H locs hPX hk hS => ?_)
  have hPM := hPM.kept (keptM hap hPM hk)
  refine lv_aload_n hx hb dL_law_235 rfl (lv_at hl 2 rfl) ?_
  refine lv_aload_n hx hb dL_law_236 rfl (lv_at hl 0 rfl) ?_
  refine lv_iload_n hx hb dL_law_237 rfl (lv_at hl 3 rfl) ?_
  refine lv_iconst (v := 1) hx hb dL_law_238 (by decide) ?_
  refine lv_iadd hx hb dL_law_239 ?_
  refine va_sld hx hb hX hbl hbA hS h1 dL_law_240 ?_
  refine lv_aload_n hx hb dL_law_241 rfl (lv_at hl 0 rfl) ?_
  refine lv_iload_n hx hb dL_law_242 rfl (lv_at hl 3 rfl) ?_
  refine lv_iconst (v := 2) hx hb dL_law_243 (by decide) ?_
  refine lv_iadd hx hb dL_law_244 ?_
  refine va_sld hx hb hX hbl hbA hS h2 dL_law_245 ?_
  refine lv_aload_n hx hb dL_law_246 rfl (lv_at hl 0 rfl) ?_
  refine lv_iload_n hx hb dL_law_247 rfl (lv_at hl 3 rfl) ?_
  refine lv_iconst (v := 3) hx hb dL_law_248 (by decide) ?_
  refine lv_iadd hx hb dL_law_249 ?_
  refine va_sld hx hb hX hbl hbA hS h3 dL_law_250 ?_
  refine lVi (As := [.int (xs (nI i + 1).toNatClampNeg), .int (xs (nI i + 2).toNatClampNeg), .int (xs (nI i + 3).toNatClampNeg)]) (rest := [.int r]) (k := 0) hC hPM hS (fun q h => hgM q h) (kX7_goal l D cy tX tY am (AM am) haM 1000 mm (xs (nI i + 1).toNatClampNeg) (xs (nI i + 2).toNatClampNeg) (xs (nI i + 3).toNatClampNeg) e2) glL_26 ⟨rfl, rfl⟩ hdL_26 ⟨Nat.le_of_ble_eq_true rfl, Nat.le_of_ble_eq_true rfl⟩ (by decide) (eM_0 cy am _ _) rfl rfl hl.1 rfl (Nat.le_of_ble_eq_true rfl) dL_law_251 ⟨Nat.le_of_ble_eq_true rfl, Nat.le_of_ble_eq_true rfl⟩ (fun H locs hPM hk hS => ?_)
  have hPX := hPX.kept (keptX hap hPX hk)
  exact lv_icmp_eq (tgt := 850) hx hb dL_law_254 (by decide) (fun _ => hn x' m' H locs ls hrel9 hPX hPM hS hl) (fun c9 => absurd rfl c9)
set_option maxHeartbeats 4000000 in
set_option maxRecDepth 100000 in
theorem lc_turns (hL : Lw p s m meth c b L xs D cy tX tY ad am) (hi : i + 5 ≤ L) (hLb : L ≤ 2560) (hB : B + 12000 < 2147483648) (hrel : REL x mm B) (hPX : va_P D vwCl (wG (eX cy ad) 93 ad x) H) (hPM : va_P D vwCl (wG (eM cy am) 12 am mm) H) (hS : va_S (fun q => s.heap.size ≤ q) s.heap H locs) (hl : lv_has ls 4 [(0, .ref b), (1, .ref (ad 0)), (2, .ref (am 0)), (3, .int (nI i))]) (hn : Nxt p l e s m below meth c b D cy ad am i (B + 12000) Q) : W p l e room_1 s m #[Value.ref b] below meth c H locs 105 3842 Q (F0 m 259 ls []) := by
  obtain ⟨hC, hX, hbl, hbA, haX, haM, hap, hgX, hgM⟩ := id hL
  obtain ⟨hx, hb, -⟩ := id hC
  have h1 : vp_in (nI i + 1) L := by rw [show nI i + 1 = nI (i + 1) from nI_add i 1]; exact vp_in_nI (by omega) (by omega)
  have h2 : vp_in (nI i + 2) L := by rw [show nI i + 2 = nI (i + 2) from nI_add i 2]; exact vp_in_nI (by omega) (by omega)
  have h3 : vp_in (nI i + 3) L := by rw [show nI i + 3 = nI (i + 3) from nI_add i 3]; exact vp_in_nI (by omega) (by omega)
  obtain ⟨r, x', m', e1, e2, hrel'⟩ := b_turns (F := 1000) (Nat.le_refl _) hrel (xs (nI i + 1).toNatClampNeg) (xs (nI i + 2).toNatClampNeg) (xs (nI i + 3).toNatClampNeg)
  have hrel9 : REL x' m' (B + 12000) := hrel'.le (by omega)
  refine lv_aload_n hx hb dL_law_259 rfl (lv_at hl 1 rfl) ?_
  refine lv_aload_n hx hb dL_law_260 rfl (lv_at hl 0 rfl) ?_
  refine lv_iload_n hx hb dL_law_261 rfl (lv_at hl 3 rfl) ?_
  refine lv_iconst (v := 1) hx hb dL_law_262 (by decide) ?_
  refine lv_iadd hx hb dL_law_263 ?_
  refine va_sld hx hb hX hbl hbA hS h1 dL_law_264 ?_
  refine lv_aload_n hx hb dL_law_265 rfl (lv_at hl 0 rfl) ?_
  refine lv_iload_n hx hb dL_law_266 rfl (lv_at hl 3 rfl) ?_
  refine lv_iconst (v := 2) hx hb dL_law_267 (by decide) ?_
  refine lv_iadd hx hb dL_law_268 ?_
  refine va_sld hx hb hX hbl hbA hS h2 dL_law_269 ?_
  refine lv_aload_n hx hb dL_law_270 rfl (lv_at hl 0 rfl) ?_
  refine lv_iload_n hx hb dL_law_271 rfl (lv_at hl 3 rfl) ?_
  refine lv_iconst (v := 3) hx hb dL_law_272 (by decide) ?_
  refine lv_iadd hx hb dL_law_273 ?_
  refine va_sld hx hb hX hbl hbA hS h3 dL_law_274 ?_
  refine lVi (As := [.int (xs (nI i + 1).toNatClampNeg), .int (xs (nI i + 2).toNatClampNeg), .int (xs (nI i + 3).toNatClampNeg)]) (rest := []) (k := 0) hC hPX hS (fun q h => hgX q h) (kX6_turns l D cy tX tY ad (AX ad) haX 1000 x (xs (nI i + 1).toNatClampNeg) (xs (nI i + 2).toNatClampNeg) (xs (nI i + 3).toNatClampNeg) e1) glL_27 ⟨rfl, rfl⟩ hdL_27 ⟨Nat.le_of_ble_eq_true rfl, Nat.le_of_ble_eq_true rfl⟩ (by decide) (eX_0 cy ad _ _) rfl rfl hl.1 rfl (Nat.le_of_ble_eq_true rfl) dL_law_275 ⟨Nat.le_of_ble_eq_true rfl, Nat.le_of_ble_eq_true rfl⟩ (fun H locs hPX hk hS => ?_)
  have hPM := hPM.kept (keptM hap hPM hk)
  refine lv_aload_n hx hb dL_law_278 rfl (lv_at hl 2 rfl) ?_
  refine lv_aload_n hx hb dL_law_279 rfl (lv_at hl 0 rfl) ?_
  refine lv_iload_n hx hb dL_law_280 rfl (lv_at hl 3 rfl) ?_
  refine lv_iconst (v := 1) hx hb dL_law_281 (by decide) ?_
  refine lv_iadd hx hb dL_law_282 ?_
  refine va_sld hx hb hX hbl hbA hS h1 dL_law_283 ?_
  refine lv_aload_n hx hb dL_law_284 rfl (lv_at hl 0 rfl) ?_
  refine lv_iload_n hx hb dL_law_285 rfl (lv_at hl 3 rfl) ?_
  refine lv_iconst (v := 2) hx hb dL_law_286 (by decide) ?_
  refine lv_iadd hx hb dL_law_287 ?_
  refine va_sld hx hb hX hbl hbA hS h2 dL_law_288 ?_
  refine lv_aload_n hx hb dL_law_289 rfl (lv_at hl 0 rfl) ?_
  refine lv_iload_n hx hb dL_law_290 rfl (lv_at hl 3 rfl) ?_
  refine lv_iconst (v := 3) hx hb dL_law_291 (by decide) ?_
  refine lv_iadd hx hb dL_law_292 ?_
  refine va_sld hx hb hX hbl hbA hS h3 dL_law_293 ?_
  refine lVi (As := [.int (xs (nI i + 1).toNatClampNeg), .int (xs (nI i + 2).toNatClampNeg), .int (xs (nI i + 3).toNatClampNeg)]) (rest := [.int r]) (k := 0) hC hPM hS (fun q h => hgM q h) (kX7_turns l D cy tX tY am (AM am) haM 1000 mm (xs (nI i + 1).toNatClampNeg) (xs (nI i + 2).toNatClampNeg) (xs (nI i + 3).toNatClampNeg) e2) glL_30 ⟨rfl, rfl⟩ hdL_30 ⟨Nat.le_of_ble_eq_true rfl, Nat.le_of_ble_eq_true rfl⟩ (by decide) (eM_0 cy am _ _) rfl rfl hl.1 rfl (Nat.le_of_ble_eq_true rfl) dL_law_294 ⟨Nat.le_of_ble_eq_true rfl, Nat.le_of_ble_eq_true rfl⟩ (fun H locs hPM hk hS => ?_)
  have hPX := hPX.kept (keptX hap hPX hk)
  exact lv_icmp_eq (tgt := 850) hx hb dL_law_297 (by decide) (fun _ => hn x' m' H locs ls hrel9 hPX hPM hS hl) (fun c9 => absurd rfl c9)
set_option maxHeartbeats 4000000 in
set_option maxRecDepth 100000 in
theorem lc_steps (hL : Lw p s m meth c b L xs D cy tX tY ad am) (hi : i + 5 ≤ L) (hLb : L ≤ 2560) (hB : B + 12000 < 2147483648) (hrel : REL x mm B) (hPX : va_P D vwCl (wG (eX cy ad) 93 ad x) H) (hPM : va_P D vwCl (wG (eM cy am) 12 am mm) H) (hS : va_S (fun q => s.heap.size ≤ q) s.heap H locs) (hl : lv_has ls 4 [(0, .ref b), (1, .ref (ad 0)), (2, .ref (am 0)), (3, .int (nI i))]) (hn : Nxt p l e s m below meth c b D cy ad am i (B + 12000) Q) : W p l e room_1 s m #[Value.ref b] below meth c H locs 105 3842 Q (F0 m 302 ls []) := by
  obtain ⟨hC, hX, hbl, hbA, haX, haM, hap, hgX, hgM⟩ := id hL
  obtain ⟨hx, hb, -⟩ := id hC
  have h1 : vp_in (nI i + 1) L := by rw [show nI i + 1 = nI (i + 1) from nI_add i 1]; exact vp_in_nI (by omega) (by omega)
  obtain ⟨r, x', m', e1, e2, hrel'⟩ := b_steps (F := 1000) (Nat.le_refl _) hrel (xs (nI i + 1).toNatClampNeg)
  have hrel9 : REL x' m' (B + 12000) := hrel'.le (by omega)
  refine lv_aload_n hx hb dL_law_302 rfl (lv_at hl 1 rfl) ?_
  refine lv_aload_n hx hb dL_law_303 rfl (lv_at hl 0 rfl) ?_
  refine lv_iload_n hx hb dL_law_304 rfl (lv_at hl 3 rfl) ?_
  refine lv_iconst (v := 1) hx hb dL_law_305 (by decide) ?_
  refine lv_iadd hx hb dL_law_306 ?_
  refine va_sld hx hb hX hbl hbA hS h1 dL_law_307 ?_
  refine lVi (As := [.int (xs (nI i + 1).toNatClampNeg)]) (rest := []) (k := 0) hC hPX hS (fun q h => hgX q h) (kX6_steps l D cy tX tY ad (AX ad) haX 1000 x (xs (nI i + 1).toNatClampNeg) e1) glL_31 ⟨rfl, rfl⟩ hdL_31 ⟨Nat.le_of_ble_eq_true rfl, Nat.le_of_ble_eq_true rfl⟩ (by decide) (eX_0 cy ad _ _) rfl rfl hl.1 rfl (Nat.le_of_ble_eq_true rfl) dL_law_308 ⟨Nat.le_of_ble_eq_true rfl, Nat.le_of_ble_eq_true rfl⟩ (fun H locs hPX hk hS => ?_)
  have hPM := hPM.kept (keptM hap hPM hk)
  refine lv_aload_n hx hb dL_law_311 rfl (lv_at hl 2 rfl) ?_
  refine lv_aload_n hx hb dL_law_312 rfl (lv_at hl 0 rfl) ?_
  refine lv_iload_n hx hb dL_law_313 rfl (lv_at hl 3 rfl) ?_
  refine lv_iconst (v := 1) hx hb dL_law_314 (by decide) ?_
  refine lv_iadd hx hb dL_law_315 ?_
  refine va_sld hx hb hX hbl hbA hS h1 dL_law_316 ?_
  refine lVi (As := [.int (xs (nI i + 1).toNatClampNeg)]) (rest := [.int r]) (k := 0) hC hPM hS (fun q h => hgM q h) (kX7_steps l D cy tX tY am (AM am) haM 1000 mm (xs (nI i + 1).toNatClampNeg) e2) glL_35 ⟨rfl, rfl⟩ hdL_35 ⟨Nat.le_of_ble_eq_true rfl, Nat.le_of_ble_eq_true rfl⟩ (by decide) (eM_0 cy am _ _) rfl rfl hl.1 rfl (Nat.le_of_ble_eq_true rfl) dL_law_317 ⟨Nat.le_of_ble_eq_true rfl, Nat.le_of_ble_eq_true rfl⟩ (fun H locs hPM hk hS => ?_)
  have hPX := hPX.kept (keptX hap hPX hk)
  exact lv_icmp_eq (tgt := 850) hx hb dL_law_320 (by decide) (fun _ => hn x' m' H locs ls hrel9 hPX hPM hS hl) (fun c9 => absurd rfl c9)
set_option maxHeartbeats 4000000 in
set_option maxRecDepth 100000 in
theorem lc_again (hL : Lw p s m meth c b L xs D cy tX tY ad am) (hi : i + 5 ≤ L) (hLb : L ≤ 2560) (hB : B + 12000 < 2147483648) (hrel : REL x mm B) (hPX : va_P D vwCl (wG (eX cy ad) 93 ad x) H) (hPM : va_P D vwCl (wG (eM cy am) 12 am mm) H) (hS : va_S (fun q => s.heap.size ≤ q) s.heap H locs) (hl : lv_has ls 4 [(0, .ref b), (1, .ref (ad 0)), (2, .ref (am 0)), (3, .int (nI i))]) (hn : Nxt p l e s m below meth c b D cy ad am i (B + 12000) Q) : W p l e room_1 s m #[Value.ref b] below meth c H locs 105 3842 Q (F0 m 325 ls []) := by
  obtain ⟨hC, hX, hbl, hbA, haX, haM, hap, hgX, hgM⟩ := id hL
  obtain ⟨hx, hb, -⟩ := id hC
  obtain ⟨r, x', m', e1, e2, hrel'⟩ := b_again (F := 1000) (Nat.le_refl _) (by omega) hrel
  have hrel9 : REL x' m' (B + 12000) := hrel'.le (by omega)
  refine lv_aload_n hx hb dL_law_325 rfl (lv_at hl 1 rfl) ?_
  refine lVi (As := []) (rest := []) (k := 0) hC hPX hS (fun q h => hgX q h) (kX6_again l D cy tX tY ad (AX ad) haX 1000 x  e1) glL_36 ⟨rfl, rfl⟩ hdL_36 ⟨Nat.le_of_ble_eq_true rfl, Nat.le_of_ble_eq_true rfl⟩ (by decide) (eX_0 cy ad _ _) rfl rfl hl.1 rfl (Nat.le_of_ble_eq_true rfl) dL_law_326 ⟨Nat.le_of_ble_eq_true rfl, Nat.le_of_ble_eq_true rfl⟩ (fun H locs hPX hk hS => ?_)
  have hPM := hPM.kept (keptM hap hPM hk)
  refine lv_aload_n hx hb dL_law_329 rfl (lv_at hl 2 rfl) ?_
  refine lVi (As := []) (rest := [.int r]) (k := 0) hC hPM hS (fun q h => hgM q h) (kX7_again l D cy tX tY am (AM am) haM 1000 mm  e2) glL_40 ⟨rfl, rfl⟩ hdL_40 ⟨Nat.le_of_ble_eq_true rfl, Nat.le_of_ble_eq_true rfl⟩ (by decide) (eM_0 cy am _ _) rfl rfl hl.1 rfl (Nat.le_of_ble_eq_true rfl) dL_law_330 ⟨Nat.le_of_ble_eq_true rfl, Nat.le_of_ble_eq_true rfl⟩ (fun H locs hPM hk hS => ?_)
  have hPX := hPX.kept (keptX hap hPX hk)
  exact lv_icmp_eq (tgt := 850) hx hb dL_law_333 (by decide) (fun _ => hn x' m' H locs ls hrel9 hPX hPM hS hl) (fun c9 => absurd rfl c9)
set_option maxHeartbeats 4000000 in
set_option maxRecDepth 100000 in
theorem lc_label (hL : Lw p s m meth c b L xs D cy tX tY ad am) (hi : i + 5 ≤ L) (hLb : L ≤ 2560) (hB : B + 12000 < 2147483648) (hrel : REL x mm B) (hPX : va_P D vwCl (wG (eX cy ad) 93 ad x) H) (hPM : va_P D vwCl (wG (eM cy am) 12 am mm) H) (hS : va_S (fun q => s.heap.size ≤ q) s.heap H locs) (hl : lv_has ls 4 [(0, .ref b), (1, .ref (ad 0)), (2, .ref (am 0)), (3, .int (nI i))]) (hn : Nxt p l e s m below meth c b D cy ad am i (B + 12000) Q) : W p l e room_1 s m #[Value.ref b] below meth c H locs 105 3842 Q (F0 m 338 ls []) := by
  obtain ⟨hC, hX, hbl, hbA, haX, haM, hap, hgX, hgM⟩ := id hL
  obtain ⟨hx, hb, -⟩ := id hC
  have h1 : vp_in (nI i + 1) L := by rw [show nI i + 1 = nI (i + 1) from nI_add i 1]; exact vp_in_nI (by omega) (by omega)
  have h2 : vp_in (nI i + 2) L := by rw [show nI i + 2 = nI (i + 2) from nI_add i 2]; exact vp_in_nI (by omega) (by omega)
  obtain ⟨r, x', m', e1, e2, hrel'⟩ := b_label (F := 1000) hrel (xs (nI i + 1).toNatClampNeg) (xs (nI i + 2).toNatClampNeg)
  have hrel9 : REL x' m' (B + 12000) := hrel'.le (by omega)
  refine lv_aload_n hx hb dL_law_338 rfl (lv_at hl 1 rfl) ?_
  refine lv_aload_n hx hb dL_law_339 rfl (lv_at hl 0 rfl) ?_
  refine lv_iload_n hx hb dL_law_340 rfl (lv_at hl 3 rfl) ?_
  refine lv_iconst (v := 1) hx hb dL_law_341 (by decide) ?_
  refine lv_iadd hx hb dL_law_342 ?_
  refine va_sld hx hb hX hbl hbA hS h1 dL_law_343 ?_
  refine lv_aload_n hx hb dL_law_344 rfl (lv_at hl 0 rfl) ?_
  refine lv_iload_n hx hb dL_law_345 rfl (lv_at hl 3 rfl) ?_
  refine lv_iconst (v := 2) hx hb dL_law_346 (by decide) ?_
  refine lv_iadd hx hb dL_law_347 ?_
  refine va_sld hx hb hX hbl hbA hS h2 dL_law_348 ?_
  refine lVi (As := [.int (xs (nI i + 1).toNatClampNeg), .int (xs (nI i + 2).toNatClampNeg)]) (rest := []) (k := 0) hC hPX hS (fun q h => hgX q h) (kX6_label l D cy tX tY ad (AX ad) haX 1000 x (xs (nI i + 1).toNatClampNeg) (xs (nI i + 2).toNatClampNeg) e1) glL_41 ⟨rfl, rfl⟩ hdL_41 ⟨Nat.le_of_ble_eq_true rfl, Nat.le_of_ble_eq_true rfl⟩ (by decide) (eX_0 cy ad _ _) rfl rfl hl.1 rfl (Nat.le_of_ble_eq_true rfl) dL_law_349 ⟨Nat.le_of_ble_eq_true rfl, Nat.le_of_ble_eq_true rfl⟩ (fun H locs hPX hk hS => ?_)
  have hPM := hPM.kept (keptM hap hPM hk)
  refine lv_aload_n hx hb dL_law_352 rfl (lv_at hl 2 rfl) ?_
  refine lv_aload_n hx hb dL_law_353 rfl (lv_at hl 0 rfl) ?_
  refine lv_iload_n hx hb dL_law_354 rfl (lv_at hl 3 rfl) ?_
  refine lv_iconst (v := 1) hx hb dL_law_355 (by decide) ?_
  refine lv_iadd hx hb dL_law_356 ?_
  refine va_sld hx hb hX hbl hbA hS h1 dL_law_357 ?_
  refine lv_aload_n hx hb dL_law_358 rfl (lv_at hl 0 rfl) ?_
  refine lv_iload_n hx hb dL_law_359 rfl (lv_at hl 3 rfl) ?_
  refine lv_iconst (v := 2) hx hb dL_law_360 (by decide) ?_
  refine lv_iadd hx hb dL_law_361 ?_
  refine va_sld hx hb hX hbl hbA hS h2 dL_law_362 ?_
  refine lVi (As := [.int (xs (nI i + 1).toNatClampNeg), .int (xs (nI i + 2).toNatClampNeg)]) (rest := [.int r]) (k := 0) hC hPM hS (fun q h => hgM q h) (kX7_label l D cy tX tY am (AM am) haM 1000 mm (xs (nI i + 1).toNatClampNeg) (xs (nI i + 2).toNatClampNeg) e2) glL_44 ⟨rfl, rfl⟩ hdL_44 ⟨Nat.le_of_ble_eq_true rfl, Nat.le_of_ble_eq_true rfl⟩ (by decide) (eM_0 cy am _ _) rfl rfl hl.1 rfl (Nat.le_of_ble_eq_true rfl) dL_law_363 ⟨Nat.le_of_ble_eq_true rfl, Nat.le_of_ble_eq_true rfl⟩ (fun H locs hPM hk hS => ?_)
  have hPX := hPX.kept (keptX hap hPX hk)
  exact lv_icmp_eq (tgt := 850) hx hb dL_law_366 (by decide) (fun _ => hn x' m' H locs ls hrel9 hPX hPM hS hl) (fun c9 => absurd rfl c9)
set_option maxHeartbeats 4000000 in
set_option maxRecDepth 100000 in
theorem lc_place (hL : Lw p s m meth c b L xs D cy tX tY ad am) (hi : i + 5 ≤ L) (hLb : L ≤ 2560) (hB : B + 12000 < 2147483648) (hrel : REL x mm B) (hPX : va_P D vwCl (wG (eX cy ad) 93 ad x) H) (hPM : va_P D vwCl (wG (eM cy am) 12 am mm) H) (hS : va_S (fun q => s.heap.size ≤ q) s.heap H locs) (hl : lv_has ls 4 [(0, .ref b), (1, .ref (ad 0)), (2, .ref (am 0)), (3, .int (nI i))]) (hn : Nxt p l e s m below meth c b D cy ad am i (B + 12000) Q) : W p l e room_1 s m #[Value.ref b] below meth c H locs 105 3842 Q (F0 m 371 ls []) := by
  obtain ⟨hC, hX, hbl, hbA, haX, haM, hap, hgX, hgM⟩ := id hL
  obtain ⟨hx, hb, -⟩ := id hC
  have h1 : vp_in (nI i + 1) L := by rw [show nI i + 1 = nI (i + 1) from nI_add i 1]; exact vp_in_nI (by omega) (by omega)
  obtain ⟨r, x', m', e1, e2, hrel'⟩ := b_place (F := 1000) hrel (xs (nI i + 1).toNatClampNeg)
  have hrel9 : REL x' m' (B + 12000) := hrel'.le (by omega)
  refine lv_aload_n hx hb dL_law_371 rfl (lv_at hl 1 rfl) ?_
  refine lv_aload_n hx hb dL_law_372 rfl (lv_at hl 0 rfl) ?_
  refine lv_iload_n hx hb dL_law_373 rfl (lv_at hl 3 rfl) ?_
  refine lv_iconst (v := 1) hx hb dL_law_374 (by decide) ?_
  refine lv_iadd hx hb dL_law_375 ?_
  refine va_sld hx hb hX hbl hbA hS h1 dL_law_376 ?_
  refine lVi (As := [.int (xs (nI i + 1).toNatClampNeg)]) (rest := []) (k := 0) hC hPX hS (fun q h => hgX q h) (kX6_place l D cy tX tY ad (AX ad) haX 1000 x (xs (nI i + 1).toNatClampNeg) e1) glL_45 ⟨rfl, rfl⟩ hdL_45 ⟨Nat.le_of_ble_eq_true rfl, Nat.le_of_ble_eq_true rfl⟩ (by decide) (eX_0 cy ad _ _) rfl rfl hl.1 rfl (Nat.le_of_ble_eq_true rfl) dL_law_377 ⟨Nat.le_of_ble_eq_true rfl, Nat.le_of_ble_eq_true rfl⟩ (fun H locs hPX hk hS => ?_)
  have hPM := hPM.kept (keptM hap hPM hk)
  refine lv_aload_n hx hb dL_law_380 rfl (lv_at hl 2 rfl) ?_
  refine lv_aload_n hx hb dL_law_381 rfl (lv_at hl 0 rfl) ?_
  refine lv_iload_n hx hb dL_law_382 rfl (lv_at hl 3 rfl) ?_
  refine lv_iconst (v := 1) hx hb dL_law_383 (by decide) ?_
  refine lv_iadd hx hb dL_law_384 ?_
  refine va_sld hx hb hX hbl hbA hS h1 dL_law_385 ?_
  refine lVi (As := [.int (xs (nI i + 1).toNatClampNeg)]) (rest := [.int r]) (k := 0) hC hPM hS (fun q h => hgM q h) (kX7_place l D cy tX tY am (AM am) haM 1000 mm (xs (nI i + 1).toNatClampNeg) e2) glL_48 ⟨rfl, rfl⟩ hdL_48 ⟨Nat.le_of_ble_eq_true rfl, Nat.le_of_ble_eq_true rfl⟩ (by decide) (eM_0 cy am _ _) rfl rfl hl.1 rfl (Nat.le_of_ble_eq_true rfl) dL_law_386 ⟨Nat.le_of_ble_eq_true rfl, Nat.le_of_ble_eq_true rfl⟩ (fun H locs hPM hk hS => ?_)
  have hPX := hPX.kept (keptX hap hPX hk)
  exact lv_icmp_eq (tgt := 850) hx hb dL_law_389 (by decide) (fun _ => hn x' m' H locs ls hrel9 hPX hPM hS hl) (fun c9 => absurd rfl c9)
set_option maxHeartbeats 4000000 in
set_option maxRecDepth 100000 in
theorem lc_next (hL : Lw p s m meth c b L xs D cy tX tY ad am) (hi : i + 5 ≤ L) (hLb : L ≤ 2560) (hB : B + 12000 < 2147483648) (hrel : REL x mm B) (hPX : va_P D vwCl (wG (eX cy ad) 93 ad x) H) (hPM : va_P D vwCl (wG (eM cy am) 12 am mm) H) (hS : va_S (fun q => s.heap.size ≤ q) s.heap H locs) (hl : lv_has ls 4 [(0, .ref b), (1, .ref (ad 0)), (2, .ref (am 0)), (3, .int (nI i))]) (hn : Nxt p l e s m below meth c b D cy ad am i (B + 12000) Q) : W p l e room_1 s m #[Value.ref b] below meth c H locs 105 3842 Q (F0 m 394 ls []) := by
  obtain ⟨hC, hX, hbl, hbA, haX, haM, hap, hgX, hgM⟩ := id hL
  obtain ⟨hx, hb, -⟩ := id hC
  have h1 : vp_in (nI i + 1) L := by rw [show nI i + 1 = nI (i + 1) from nI_add i 1]; exact vp_in_nI (by omega) (by omega)
  have h2 : vp_in (nI i + 2) L := by rw [show nI i + 2 = nI (i + 2) from nI_add i 2]; exact vp_in_nI (by omega) (by omega)
  have h3 : vp_in (nI i + 3) L := by rw [show nI i + 3 = nI (i + 3) from nI_add i 3]; exact vp_in_nI (by omega) (by omega)
  have h4 : vp_in (nI i + 4) L := by rw [show nI i + 4 = nI (i + 4) from nI_add i 4]; exact vp_in_nI (by omega) (by omega)
  obtain ⟨r, x', m', e1, e2, hrel'⟩ := b_next (F := 1000) (Nat.le_refl _) hrel (xs (nI i + 1).toNatClampNeg) (xs (nI i + 2).toNatClampNeg) (xs (nI i + 3).toNatClampNeg) (xs (nI i + 4).toNatClampNeg)
  have hrel9 : REL x' m' (B + 12000) := hrel'.le (by omega)
  refine lv_aload_n hx hb dL_law_394 rfl (lv_at hl 1 rfl) ?_
  refine lv_aload_n hx hb dL_law_395 rfl (lv_at hl 0 rfl) ?_
  refine lv_iload_n hx hb dL_law_396 rfl (lv_at hl 3 rfl) ?_
  refine lv_iconst (v := 1) hx hb dL_law_397 (by decide) ?_
  refine lv_iadd hx hb dL_law_398 ?_
  refine va_sld hx hb hX hbl hbA hS h1 dL_law_399 ?_
  refine lv_aload_n hx hb dL_law_400 rfl (lv_at hl 0 rfl) ?_
  refine lv_iload_n hx hb dL_law_401 rfl (lv_at hl 3 rfl) ?_
  refine lv_iconst (v := 2) hx hb dL_law_402 (by decide) ?_
  refine lv_iadd hx hb dL_law_403 ?_
  refine va_sld hx hb hX hbl hbA hS h2 dL_law_404 ?_
  refine lv_aload_n hx hb dL_law_405 rfl (lv_at hl 0 rfl) ?_
  refine lv_iload_n hx hb dL_law_406 rfl (lv_at hl 3 rfl) ?_
  refine lv_iconst (v := 3) hx hb dL_law_407 (by decide) ?_
  refine lv_iadd hx hb dL_law_408 ?_
  refine va_sld hx hb hX hbl hbA hS h3 dL_law_409 ?_
  refine lv_aload_n hx hb dL_law_410 rfl (lv_at hl 0 rfl) ?_
  refine lv_iload_n hx hb dL_law_411 rfl (lv_at hl 3 rfl) ?_
  refine lv_iconst (v := 4) hx hb dL_law_412 (by decide) ?_
  refine lv_iadd hx hb dL_law_413 ?_
  refine va_sld hx hb hX hbl hbA hS h4 dL_law_414 ?_
  refine lVi (As := [.int (xs (nI i + 1).toNatClampNeg), .int (xs (nI i + 2).toNatClampNeg), .int (xs (nI i + 3).toNatClampNeg), .int (xs (nI i + 4).toNatClampNeg)]) (rest := []) (k := 0) hC hPX hS (fun q h => hgX q h) (kX6_next l D cy tX tY ad (AX ad) haX 1000 x (xs (nI i + 1).toNatClampNeg) (xs (nI i + 2).toNatClampNeg) (xs (nI i + 3).toNatClampNeg) (xs (nI i + 4).toNatClampNeg) e1) glL_49 ⟨rfl, rfl⟩ hdL_49 ⟨Nat.le_of_ble_eq_true rfl, Nat.le_of_ble_eq_true rfl⟩ (by decide) (eX_0 cy ad _ _) rfl rfl hl.1 rfl (Nat.le_of_ble_eq_true rfl) dL_law_415 ⟨Nat.le_of_ble_eq_true rfl, Nat.le_of_ble_eq_true rfl⟩ (fun H locs hPX hk hS => ?_)
  have hPM := hPM.kept (keptM hap hPM hk)
  refine lv_aload_n hx hb dL_law_418 rfl (lv_at hl 2 rfl) ?_
  refine lv_aload_n hx hb dL_law_419 rfl (lv_at hl 0 rfl) ?_
  refine lv_iload_n hx hb dL_law_420 rfl (lv_at hl 3 rfl) ?_
  refine lv_iconst (v := 1) hx hb dL_law_421 (by decide) ?_
  refine lv_iadd hx hb dL_law_422 ?_
  refine va_sld hx hb hX hbl hbA hS h1 dL_law_423 ?_
  refine lv_aload_n hx hb dL_law_424 rfl (lv_at hl 0 rfl) ?_
  refine lv_iload_n hx hb dL_law_425 rfl (lv_at hl 3 rfl) ?_
  refine lv_iconst (v := 2) hx hb dL_law_426 (by decide) ?_
  refine lv_iadd hx hb dL_law_427 ?_
  refine va_sld hx hb hX hbl hbA hS h2 dL_law_428 ?_
  refine lv_aload_n hx hb dL_law_429 rfl (lv_at hl 0 rfl) ?_
  refine lv_iload_n hx hb dL_law_430 rfl (lv_at hl 3 rfl) ?_
  refine lv_iconst (v := 3) hx hb dL_law_431 (by decide) ?_
  refine lv_iadd hx hb dL_law_432 ?_
  refine va_sld hx hb hX hbl hbA hS h3 dL_law_433 ?_
  refine lv_aload_n hx hb dL_law_434 rfl (lv_at hl 0 rfl) ?_
  refine lv_iload_n hx hb dL_law_435 rfl (lv_at hl 3 rfl) ?_
  refine lv_iconst (v := 4) hx hb dL_law_436 (by decide) ?_
  refine lv_iadd hx hb dL_law_437 ?_
  refine va_sld hx hb hX hbl hbA hS h4 dL_law_438 ?_
  refine lVi (As := [.int (xs (nI i + 1).toNatClampNeg), .int (xs (nI i + 2).toNatClampNeg), .int (xs (nI i + 3).toNatClampNeg), .int (xs (nI i + 4).toNatClampNeg)]) (rest := [.int r]) (k := 0) hC hPM hS (fun q h => hgM q h) (kX7_next l D cy tX tY am (AM am) haM 1000 mm (xs (nI i + 1).toNatClampNeg) (xs (nI i + 2).toNatClampNeg) (xs (nI i + 3).toNatClampNeg) (xs (nI i + 4).toNatClampNeg) e2) glL_53 ⟨rfl, rfl⟩ hdL_53 ⟨Nat.le_of_ble_eq_true rfl, Nat.le_of_ble_eq_true rfl⟩ (by decide) (eM_0 cy am _ _) rfl rfl hl.1 rfl (Nat.le_of_ble_eq_true rfl) dL_law_439 ⟨Nat.le_of_ble_eq_true rfl, Nat.le_of_ble_eq_true rfl⟩ (fun H locs hPM hk hS => ?_)
  have hPX := hPX.kept (keptX hap hPX hk)
  exact lv_icmp_eq (tgt := 850) hx hb dL_law_442 (by decide) (fun _ => hn x' m' H locs ls hrel9 hPX hPM hS hl) (fun c9 => absurd rfl c9)
set_option maxHeartbeats 4000000 in
set_option maxRecDepth 100000 in
theorem lc_far (hL : Lw p s m meth c b L xs D cy tX tY ad am) (hi : i + 5 ≤ L) (hLb : L ≤ 2560) (hB : B + 12000 < 2147483648) (hrel : REL x mm B) (hPX : va_P D vwCl (wG (eX cy ad) 93 ad x) H) (hPM : va_P D vwCl (wG (eM cy am) 12 am mm) H) (hS : va_S (fun q => s.heap.size ≤ q) s.heap H locs) (hl : lv_has ls 4 [(0, .ref b), (1, .ref (ad 0)), (2, .ref (am 0)), (3, .int (nI i))]) (hn : Nxt p l e s m below meth c b D cy ad am i (B + 12000) Q) : W p l e room_1 s m #[Value.ref b] below meth c H locs 105 3842 Q (F0 m 447 ls []) := by
  obtain ⟨hC, hX, hbl, hbA, haX, haM, hap, hgX, hgM⟩ := id hL
  obtain ⟨hx, hb, -⟩ := id hC
  have h1 : vp_in (nI i + 1) L := by rw [show nI i + 1 = nI (i + 1) from nI_add i 1]; exact vp_in_nI (by omega) (by omega)
  have h2 : vp_in (nI i + 2) L := by rw [show nI i + 2 = nI (i + 2) from nI_add i 2]; exact vp_in_nI (by omega) (by omega)
  have h3 : vp_in (nI i + 3) L := by rw [show nI i + 3 = nI (i + 3) from nI_add i 3]; exact vp_in_nI (by omega) (by omega)
  have h4 : vp_in (nI i + 4) L := by rw [show nI i + 4 = nI (i + 4) from nI_add i 4]; exact vp_in_nI (by omega) (by omega)
  obtain ⟨r, x', m', e1, e2, hrel'⟩ := b_far (F := 1000) (Nat.le_refl _) hrel (xs (nI i + 1).toNatClampNeg) (xs (nI i + 2).toNatClampNeg) (xs (nI i + 3).toNatClampNeg) (xs (nI i + 4).toNatClampNeg)
  have hrel9 : REL x' m' (B + 12000) := hrel'.le (by omega)
  refine lv_aload_n hx hb dL_law_447 rfl (lv_at hl 1 rfl) ?_
  refine lv_aload_n hx hb dL_law_448 rfl (lv_at hl 0 rfl) ?_
  refine lv_iload_n hx hb dL_law_449 rfl (lv_at hl 3 rfl) ?_
  refine lv_iconst (v := 1) hx hb dL_law_450 (by decide) ?_
  refine lv_iadd hx hb dL_law_451 ?_
  refine va_sld hx hb hX hbl hbA hS h1 dL_law_452 ?_
  refine lv_aload_n hx hb dL_law_453 rfl (lv_at hl 0 rfl) ?_
  refine lv_iload_n hx hb dL_law_454 rfl (lv_at hl 3 rfl) ?_
  refine lv_iconst (v := 2) hx hb dL_law_455 (by decide) ?_
  refine lv_iadd hx hb dL_law_456 ?_
  refine va_sld hx hb hX hbl hbA hS h2 dL_law_457 ?_
  refine lv_aload_n hx hb dL_law_458 rfl (lv_at hl 0 rfl) ?_
  refine lv_iload_n hx hb dL_law_459 rfl (lv_at hl 3 rfl) ?_
  refine lv_iconst (v := 3) hx hb dL_law_460 (by decide) ?_
  refine lv_iadd hx hb dL_law_461 ?_
  refine va_sld hx hb hX hbl hbA hS h3 dL_law_462 ?_
  refine lv_aload_n hx hb dL_law_463 rfl (lv_at hl 0 rfl) ?_
  refine lv_iload_n hx hb dL_law_464 rfl (lv_at hl 3 rfl) ?_
  refine lv_iconst (v := 4) hx hb dL_law_465 (by decide) ?_
  refine lv_iadd hx hb dL_law_466 ?_
  refine va_sld hx hb hX hbl hbA hS h4 dL_law_467 ?_
  refine lVi (As := [.int (xs (nI i + 1).toNatClampNeg), .int (xs (nI i + 2).toNatClampNeg), .int (xs (nI i + 3).toNatClampNeg), .int (xs (nI i + 4).toNatClampNeg)]) (rest := []) (k := 0) hC hPX hS (fun q h => hgX q h) (kX6_far l D cy tX tY ad (AX ad) haX 1000 x (xs (nI i + 1).toNatClampNeg) (xs (nI i + 2).toNatClampNeg) (xs (nI i + 3).toNatClampNeg) (xs (nI i + 4).toNatClampNeg) e1) glL_54 ⟨rfl, rfl⟩ hdL_54 ⟨Nat.le_of_ble_eq_true rfl, Nat.le_of_ble_eq_true rfl⟩ (by decide) (eX_0 cy ad _ _) rfl rfl hl.1 rfl (Nat.le_of_ble_eq_true rfl) dL_law_468 ⟨Nat.le_of_ble_eq_true rfl, Nat.le_of_ble_eq_true rfl⟩ (fun H locs hPX hk hS => ?_)
  have hPM := hPM.kept (keptM hap hPM hk)
  refine lv_aload_n hx hb dL_law_471 rfl (lv_at hl 2 rfl) ?_
  refine lv_aload_n hx hb dL_law_472 rfl (lv_at hl 0 rfl) ?_
  refine lv_iload_n hx hb dL_law_473 rfl (lv_at hl 3 rfl) ?_
  refine lv_iconst (v := 1) hx hb dL_law_474 (by decide) ?_
  refine lv_iadd hx hb dL_law_475 ?_
  refine va_sld hx hb hX hbl hbA hS h1 dL_law_476 ?_
  refine lv_aload_n hx hb dL_law_477 rfl (lv_at hl 0 rfl) ?_
  refine lv_iload_n hx hb dL_law_478 rfl (lv_at hl 3 rfl) ?_
  refine lv_iconst (v := 2) hx hb dL_law_479 (by decide) ?_
  refine lv_iadd hx hb dL_law_480 ?_
  refine va_sld hx hb hX hbl hbA hS h2 dL_law_481 ?_
  refine lv_aload_n hx hb dL_law_482 rfl (lv_at hl 0 rfl) ?_
  refine lv_iload_n hx hb dL_law_483 rfl (lv_at hl 3 rfl) ?_
  refine lv_iconst (v := 3) hx hb dL_law_484 (by decide) ?_
  refine lv_iadd hx hb dL_law_485 ?_
  refine va_sld hx hb hX hbl hbA hS h3 dL_law_486 ?_
  refine lv_aload_n hx hb dL_law_487 rfl (lv_at hl 0 rfl) ?_
  refine lv_iload_n hx hb dL_law_488 rfl (lv_at hl 3 rfl) ?_
  refine lv_iconst (v := 4) hx hb dL_law_489 (by decide) ?_
  refine lv_iadd hx hb dL_law_490 ?_
  refine va_sld hx hb hX hbl hbA hS h4 dL_law_491 ?_
  refine lVi (As := [.int (xs (nI i + 1).toNatClampNeg), .int (xs (nI i + 2).toNatClampNeg), .int (xs (nI i + 3).toNatClampNeg), .int (xs (nI i + 4).toNatClampNeg)]) (rest := [.int r]) (k := 0) hC hPM hS (fun q h => hgM q h) (kX7_far l D cy tX tY am (AM am) haM 1000 mm (xs (nI i + 1).toNatClampNeg) (xs (nI i + 2).toNatClampNeg) (xs (nI i + 3).toNatClampNeg) (xs (nI i + 4).toNatClampNeg) e2) glL_57 ⟨rfl, rfl⟩ hdL_57 ⟨Nat.le_of_ble_eq_true rfl, Nat.le_of_ble_eq_true rfl⟩ (by decide) (eM_0 cy am _ _) rfl rfl hl.1 rfl (Nat.le_of_ble_eq_true rfl) dL_law_492 ⟨Nat.le_of_ble_eq_true rfl, Nat.le_of_ble_eq_true rfl⟩ (fun H locs hPM hk hS => ?_)
  have hPX := hPX.kept (keptX hap hPX hk)
  exact lv_icmp_eq (tgt := 850) hx hb dL_law_495 (by decide) (fun _ => hn x' m' H locs ls hrel9 hPX hPM hS hl) (fun c9 => absurd rfl c9)
set_option maxHeartbeats 4000000 in
set_option maxRecDepth 100000 in
theorem lc_holds (hL : Lw p s m meth c b L xs D cy tX tY ad am) (hi : i + 5 ≤ L) (hLb : L ≤ 2560) (hB : B + 12000 < 2147483648) (hrel : REL x mm B) (hPX : va_P D vwCl (wG (eX cy ad) 93 ad x) H) (hPM : va_P D vwCl (wG (eM cy am) 12 am mm) H) (hS : va_S (fun q => s.heap.size ≤ q) s.heap H locs) (hl : lv_has ls 4 [(0, .ref b), (1, .ref (ad 0)), (2, .ref (am 0)), (3, .int (nI i))]) (hn : Nxt p l e s m below meth c b D cy ad am i (B + 12000) Q) : W p l e room_1 s m #[Value.ref b] below meth c H locs 105 3842 Q (F0 m 500 ls []) := by
  obtain ⟨hC, hX, hbl, hbA, haX, haM, hap, hgX, hgM⟩ := id hL
  obtain ⟨hx, hb, -⟩ := id hC
  have h1 : vp_in (nI i + 1) L := by rw [show nI i + 1 = nI (i + 1) from nI_add i 1]; exact vp_in_nI (by omega) (by omega)
  have h2 : vp_in (nI i + 2) L := by rw [show nI i + 2 = nI (i + 2) from nI_add i 2]; exact vp_in_nI (by omega) (by omega)
  have h3 : vp_in (nI i + 3) L := by rw [show nI i + 3 = nI (i + 3) from nI_add i 3]; exact vp_in_nI (by omega) (by omega)
  obtain ⟨r, x', m', e1, e2, hrel'⟩ := b_holds (F := 1000) (Nat.le_refl _) hrel (xs (nI i + 1).toNatClampNeg) (xs (nI i + 2).toNatClampNeg) (xs (nI i + 3).toNatClampNeg)
  have hrel9 : REL x' m' (B + 12000) := hrel'.le (by omega)
  refine lv_aload_n hx hb dL_law_500 rfl (lv_at hl 1 rfl) ?_
  refine lv_aload_n hx hb dL_law_501 rfl (lv_at hl 0 rfl) ?_
  refine lv_iload_n hx hb dL_law_502 rfl (lv_at hl 3 rfl) ?_
  refine lv_iconst (v := 1) hx hb dL_law_503 (by decide) ?_
  refine lv_iadd hx hb dL_law_504 ?_
  refine va_sld hx hb hX hbl hbA hS h1 dL_law_505 ?_
  refine lv_aload_n hx hb dL_law_506 rfl (lv_at hl 0 rfl) ?_
  refine lv_iload_n hx hb dL_law_507 rfl (lv_at hl 3 rfl) ?_
  refine lv_iconst (v := 2) hx hb dL_law_508 (by decide) ?_
  refine lv_iadd hx hb dL_law_509 ?_
  refine va_sld hx hb hX hbl hbA hS h2 dL_law_510 ?_
  refine lv_aload_n hx hb dL_law_511 rfl (lv_at hl 0 rfl) ?_
  refine lv_iload_n hx hb dL_law_512 rfl (lv_at hl 3 rfl) ?_
  refine lv_iconst (v := 3) hx hb dL_law_513 (by decide) ?_
  refine lv_iadd hx hb dL_law_514 ?_
  refine va_sld hx hb hX hbl hbA hS h3 dL_law_515 ?_
  refine lVi (As := [.int (xs (nI i + 1).toNatClampNeg), .int (xs (nI i + 2).toNatClampNeg), .int (xs (nI i + 3).toNatClampNeg)]) (rest := []) (k := 0) hC hPX hS (fun q h => hgX q h) (kX6_holds l D cy tX tY ad (AX ad) haX 1000 x (xs (nI i + 1).toNatClampNeg) (xs (nI i + 2).toNatClampNeg) (xs (nI i + 3).toNatClampNeg) e1) glL_58 ⟨rfl, rfl⟩ hdL_58 ⟨Nat.le_of_ble_eq_true rfl, Nat.le_of_ble_eq_true rfl⟩ (by decide) (eX_0 cy ad _ _) rfl rfl hl.1 rfl (Nat.le_of_ble_eq_true rfl) dL_law_516 ⟨Nat.le_of_ble_eq_true rfl, Nat.le_of_ble_eq_true rfl⟩ (fun H locs hPX hk hS => ?_)
  have hPM := hPM.kept (keptM hap hPM hk)
  refine lv_aload_n hx hb dL_law_519 rfl (lv_at hl 2 rfl) ?_
  refine lv_aload_n hx hb dL_law_520 rfl (lv_at hl 0 rfl) ?_
  refine lv_iload_n hx hb dL_law_521 rfl (lv_at hl 3 rfl) ?_
  refine lv_iconst (v := 1) hx hb dL_law_522 (by decide) ?_
  refine lv_iadd hx hb dL_law_523 ?_
  refine va_sld hx hb hX hbl hbA hS h1 dL_law_524 ?_
  refine lv_aload_n hx hb dL_law_525 rfl (lv_at hl 0 rfl) ?_
  refine lv_iload_n hx hb dL_law_526 rfl (lv_at hl 3 rfl) ?_
  refine lv_iconst (v := 2) hx hb dL_law_527 (by decide) ?_
  refine lv_iadd hx hb dL_law_528 ?_
  refine va_sld hx hb hX hbl hbA hS h2 dL_law_529 ?_
  refine lv_aload_n hx hb dL_law_530 rfl (lv_at hl 0 rfl) ?_
  refine lv_iload_n hx hb dL_law_531 rfl (lv_at hl 3 rfl) ?_
  refine lv_iconst (v := 3) hx hb dL_law_532 (by decide) ?_
  refine lv_iadd hx hb dL_law_533 ?_
  refine va_sld hx hb hX hbl hbA hS h3 dL_law_534 ?_
  refine lVi (As := [.int (xs (nI i + 1).toNatClampNeg), .int (xs (nI i + 2).toNatClampNeg), .int (xs (nI i + 3).toNatClampNeg)]) (rest := [.int r]) (k := 0) hC hPM hS (fun q h => hgM q h) (kX7_holds l D cy tX tY am (AM am) haM 1000 mm (xs (nI i + 1).toNatClampNeg) (xs (nI i + 2).toNatClampNeg) (xs (nI i + 3).toNatClampNeg) e2) glL_61 ⟨rfl, rfl⟩ hdL_61 ⟨Nat.le_of_ble_eq_true rfl, Nat.le_of_ble_eq_true rfl⟩ (by decide) (eM_0 cy am _ _) rfl rfl hl.1 rfl (Nat.le_of_ble_eq_true rfl) dL_law_535 ⟨Nat.le_of_ble_eq_true rfl, Nat.le_of_ble_eq_true rfl⟩ (fun H locs hPM hk hS => ?_)
  have hPX := hPX.kept (keptX hap hPX hk)
  exact lv_icmp_eq (tgt := 850) hx hb dL_law_538 (by decide) (fun _ => hn x' m' H locs ls hrel9 hPX hPM hS hl) (fun c9 => absurd rfl c9)
set_option maxHeartbeats 4000000 in
set_option maxRecDepth 100000 in
theorem lc_worm (hL : Lw p s m meth c b L xs D cy tX tY ad am) (hi : i + 5 ≤ L) (hLb : L ≤ 2560) (hB : B + 12000 < 2147483648) (hrel : REL x mm B) (hPX : va_P D vwCl (wG (eX cy ad) 93 ad x) H) (hPM : va_P D vwCl (wG (eM cy am) 12 am mm) H) (hS : va_S (fun q => s.heap.size ≤ q) s.heap H locs) (hl : lv_has ls 4 [(0, .ref b), (1, .ref (ad 0)), (2, .ref (am 0)), (3, .int (nI i))]) (hn : Nxt p l e s m below meth c b D cy ad am i (B + 12000) Q) : W p l e room_1 s m #[Value.ref b] below meth c H locs 105 3842 Q (F0 m 543 ls []) := by
  obtain ⟨hC, hX, hbl, hbA, haX, haM, hap, hgX, hgM⟩ := id hL
  obtain ⟨hx, hb, -⟩ := id hC
  have h1 : vp_in (nI i + 1) L := by rw [show nI i + 1 = nI (i + 1) from nI_add i 1]; exact vp_in_nI (by omega) (by omega)
  have h2 : vp_in (nI i + 2) L := by rw [show nI i + 2 = nI (i + 2) from nI_add i 2]; exact vp_in_nI (by omega) (by omega)
  have h3 : vp_in (nI i + 3) L := by rw [show nI i + 3 = nI (i + 3) from nI_add i 3]; exact vp_in_nI (by omega) (by omega)
  obtain ⟨r, x', m', e1, e2, hrel'⟩ := b_worm (F := 1000) (Nat.le_refl _) hrel (xs (nI i + 1).toNatClampNeg) (xs (nI i + 2).toNatClampNeg) (xs (nI i + 3).toNatClampNeg)
  have hrel9 : REL x' m' (B + 12000) := hrel'.le (by omega)
  refine lv_aload_n hx hb dL_law_543 rfl (lv_at hl 1 rfl) ?_
  refine lv_aload_n hx hb dL_law_544 rfl (lv_at hl 0 rfl) ?_
  refine lv_iload_n hx hb dL_law_545 rfl (lv_at hl 3 rfl) ?_
  refine lv_iconst (v := 1) hx hb dL_law_546 (by decide) ?_
  refine lv_iadd hx hb dL_law_547 ?_
  refine va_sld hx hb hX hbl hbA hS h1 dL_law_548 ?_
  refine lv_aload_n hx hb dL_law_549 rfl (lv_at hl 0 rfl) ?_
  refine lv_iload_n hx hb dL_law_550 rfl (lv_at hl 3 rfl) ?_
  refine lv_iconst (v := 2) hx hb dL_law_551 (by decide) ?_
  refine lv_iadd hx hb dL_law_552 ?_
  refine va_sld hx hb hX hbl hbA hS h2 dL_law_553 ?_
  refine lv_aload_n hx hb dL_law_554 rfl (lv_at hl 0 rfl) ?_
  refine lv_iload_n hx hb dL_law_555 rfl (lv_at hl 3 rfl) ?_
  refine lv_iconst (v := 3) hx hb dL_law_556 (by decide) ?_
  refine lv_iadd hx hb dL_law_557 ?_
  refine va_sld hx hb hX hbl hbA hS h3 dL_law_558 ?_
  refine lVi (As := [.int (xs (nI i + 1).toNatClampNeg), .int (xs (nI i + 2).toNatClampNeg), .int (xs (nI i + 3).toNatClampNeg)]) (rest := []) (k := 0) hC hPX hS (fun q h => hgX q h) (kX6_worm l D cy tX tY ad (AX ad) haX 1000 x (xs (nI i + 1).toNatClampNeg) (xs (nI i + 2).toNatClampNeg) (xs (nI i + 3).toNatClampNeg) e1) glL_62 ⟨rfl, rfl⟩ hdL_62 ⟨Nat.le_of_ble_eq_true rfl, Nat.le_of_ble_eq_true rfl⟩ (by decide) (eX_0 cy ad _ _) rfl rfl hl.1 rfl (Nat.le_of_ble_eq_true rfl) dL_law_559 ⟨Nat.le_of_ble_eq_true rfl, Nat.le_of_ble_eq_true rfl⟩ (fun H locs hPX hk hS => ?_)
  have hPM := hPM.kept (keptM hap hPM hk)
  refine lv_aload_n hx hb dL_law_562 rfl (lv_at hl 2 rfl) ?_
  refine lv_aload_n hx hb dL_law_563 rfl (lv_at hl 0 rfl) ?_
  refine lv_iload_n hx hb dL_law_564 rfl (lv_at hl 3 rfl) ?_
  refine lv_iconst (v := 1) hx hb dL_law_565 (by decide) ?_
  refine lv_iadd hx hb dL_law_566 ?_
  refine va_sld hx hb hX hbl hbA hS h1 dL_law_567 ?_
  refine lv_aload_n hx hb dL_law_568 rfl (lv_at hl 0 rfl) ?_
  refine lv_iload_n hx hb dL_law_569 rfl (lv_at hl 3 rfl) ?_
  refine lv_iconst (v := 2) hx hb dL_law_570 (by decide) ?_
  refine lv_iadd hx hb dL_law_571 ?_
  refine va_sld hx hb hX hbl hbA hS h2 dL_law_572 ?_
  refine lv_aload_n hx hb dL_law_573 rfl (lv_at hl 0 rfl) ?_
  refine lv_iload_n hx hb dL_law_574 rfl (lv_at hl 3 rfl) ?_
  refine lv_iconst (v := 3) hx hb dL_law_575 (by decide) ?_
  refine lv_iadd hx hb dL_law_576 ?_
  refine va_sld hx hb hX hbl hbA hS h3 dL_law_577 ?_
  refine lVi (As := [.int (xs (nI i + 1).toNatClampNeg), .int (xs (nI i + 2).toNatClampNeg), .int (xs (nI i + 3).toNatClampNeg)]) (rest := [.int r]) (k := 0) hC hPM hS (fun q h => hgM q h) (kX7_worm l D cy tX tY am (AM am) haM 1000 mm (xs (nI i + 1).toNatClampNeg) (xs (nI i + 2).toNatClampNeg) (xs (nI i + 3).toNatClampNeg) e2) glL_65 ⟨rfl, rfl⟩ hdL_65 ⟨Nat.le_of_ble_eq_true rfl, Nat.le_of_ble_eq_true rfl⟩ (by decide) (eM_0 cy am _ _) rfl rfl hl.1 rfl (Nat.le_of_ble_eq_true rfl) dL_law_578 ⟨Nat.le_of_ble_eq_true rfl, Nat.le_of_ble_eq_true rfl⟩ (fun H locs hPM hk hS => ?_)
  have hPX := hPX.kept (keptX hap hPX hk)
  exact lv_icmp_eq (tgt := 850) hx hb dL_law_581 (by decide) (fun _ => hn x' m' H locs ls hrel9 hPX hPM hS hl) (fun c9 => absurd rfl c9)
set_option maxHeartbeats 4000000 in
set_option maxRecDepth 100000 in
theorem lc_way (hL : Lw p s m meth c b L xs D cy tX tY ad am) (hi : i + 5 ≤ L) (hLb : L ≤ 2560) (hB : B + 12000 < 2147483648) (hrel : REL x mm B) (hPX : va_P D vwCl (wG (eX cy ad) 93 ad x) H) (hPM : va_P D vwCl (wG (eM cy am) 12 am mm) H) (hS : va_S (fun q => s.heap.size ≤ q) s.heap H locs) (hl : lv_has ls 4 [(0, .ref b), (1, .ref (ad 0)), (2, .ref (am 0)), (3, .int (nI i))]) (hn : Nxt p l e s m below meth c b D cy ad am i (B + 12000) Q) : W p l e room_1 s m #[Value.ref b] below meth c H locs 105 3842 Q (F0 m 586 ls []) := by
  obtain ⟨hC, hX, hbl, hbA, haX, haM, hap, hgX, hgM⟩ := id hL
  obtain ⟨hx, hb, -⟩ := id hC
  have h1 : vp_in (nI i + 1) L := by rw [show nI i + 1 = nI (i + 1) from nI_add i 1]; exact vp_in_nI (by omega) (by omega)
  have h2 : vp_in (nI i + 2) L := by rw [show nI i + 2 = nI (i + 2) from nI_add i 2]; exact vp_in_nI (by omega) (by omega)
  have h3 : vp_in (nI i + 3) L := by rw [show nI i + 3 = nI (i + 3) from nI_add i 3]; exact vp_in_nI (by omega) (by omega)
  obtain ⟨r, x', m', e1, e2, hrel'⟩ := b_way (F := 1000) (Nat.le_refl _) hrel (xs (nI i + 1).toNatClampNeg) (xs (nI i + 2).toNatClampNeg) (xs (nI i + 3).toNatClampNeg)
  have hrel9 : REL x' m' (B + 12000) := hrel'.le (by omega)
  refine lv_aload_n hx hb dL_law_586 rfl (lv_at hl 1 rfl) ?_
  refine lv_aload_n hx hb dL_law_587 rfl (lv_at hl 0 rfl) ?_
  refine lv_iload_n hx hb dL_law_588 rfl (lv_at hl 3 rfl) ?_
  refine lv_iconst (v := 1) hx hb dL_law_589 (by decide) ?_
  refine lv_iadd hx hb dL_law_590 ?_
  refine va_sld hx hb hX hbl hbA hS h1 dL_law_591 ?_
  refine lv_aload_n hx hb dL_law_592 rfl (lv_at hl 0 rfl) ?_
  refine lv_iload_n hx hb dL_law_593 rfl (lv_at hl 3 rfl) ?_
  refine lv_iconst (v := 2) hx hb dL_law_594 (by decide) ?_
  refine lv_iadd hx hb dL_law_595 ?_
  refine va_sld hx hb hX hbl hbA hS h2 dL_law_596 ?_
  refine lv_aload_n hx hb dL_law_597 rfl (lv_at hl 0 rfl) ?_
  refine lv_iload_n hx hb dL_law_598 rfl (lv_at hl 3 rfl) ?_
  refine lv_iconst (v := 3) hx hb dL_law_599 (by decide) ?_
  refine lv_iadd hx hb dL_law_600 ?_
  refine va_sld hx hb hX hbl hbA hS h3 dL_law_601 ?_
  refine lVi (As := [.int (xs (nI i + 1).toNatClampNeg), .int (xs (nI i + 2).toNatClampNeg), .int (xs (nI i + 3).toNatClampNeg)]) (rest := []) (k := 0) hC hPX hS (fun q h => hgX q h) (kX6_way l D cy tX tY ad (AX ad) haX 1000 x (xs (nI i + 1).toNatClampNeg) (xs (nI i + 2).toNatClampNeg) (xs (nI i + 3).toNatClampNeg) e1) glL_66 ⟨rfl, rfl⟩ hdL_66 ⟨Nat.le_of_ble_eq_true rfl, Nat.le_of_ble_eq_true rfl⟩ (by decide) (eX_0 cy ad _ _) rfl rfl hl.1 rfl (Nat.le_of_ble_eq_true rfl) dL_law_602 ⟨Nat.le_of_ble_eq_true rfl, Nat.le_of_ble_eq_true rfl⟩ (fun H locs hPX hk hS => ?_)
  have hPM := hPM.kept (keptM hap hPM hk)
  refine lv_aload_n hx hb dL_law_605 rfl (lv_at hl 2 rfl) ?_
  refine lv_aload_n hx hb dL_law_606 rfl (lv_at hl 0 rfl) ?_
  refine lv_iload_n hx hb dL_law_607 rfl (lv_at hl 3 rfl) ?_
  refine lv_iconst (v := 1) hx hb dL_law_608 (by decide) ?_
  refine lv_iadd hx hb dL_law_609 ?_
  refine va_sld hx hb hX hbl hbA hS h1 dL_law_610 ?_
  refine lv_aload_n hx hb dL_law_611 rfl (lv_at hl 0 rfl) ?_
  refine lv_iload_n hx hb dL_law_612 rfl (lv_at hl 3 rfl) ?_
  refine lv_iconst (v := 2) hx hb dL_law_613 (by decide) ?_
  refine lv_iadd hx hb dL_law_614 ?_
  refine va_sld hx hb hX hbl hbA hS h2 dL_law_615 ?_
  refine lv_aload_n hx hb dL_law_616 rfl (lv_at hl 0 rfl) ?_
  refine lv_iload_n hx hb dL_law_617 rfl (lv_at hl 3 rfl) ?_
  refine lv_iconst (v := 3) hx hb dL_law_618 (by decide) ?_
  refine lv_iadd hx hb dL_law_619 ?_
  refine va_sld hx hb hX hbl hbA hS h3 dL_law_620 ?_
  refine lVi (As := [.int (xs (nI i + 1).toNatClampNeg), .int (xs (nI i + 2).toNatClampNeg), .int (xs (nI i + 3).toNatClampNeg)]) (rest := [.int r]) (k := 0) hC hPM hS (fun q h => hgM q h) (kX7_way l D cy tX tY am (AM am) haM 1000 mm (xs (nI i + 1).toNatClampNeg) (xs (nI i + 2).toNatClampNeg) (xs (nI i + 3).toNatClampNeg) e2) glL_69 ⟨rfl, rfl⟩ hdL_69 ⟨Nat.le_of_ble_eq_true rfl, Nat.le_of_ble_eq_true rfl⟩ (by decide) (eM_0 cy am _ _) rfl rfl hl.1 rfl (Nat.le_of_ble_eq_true rfl) dL_law_621 ⟨Nat.le_of_ble_eq_true rfl, Nat.le_of_ble_eq_true rfl⟩ (fun H locs hPM hk hS => ?_)
  have hPX := hPX.kept (keptX hap hPX hk)
  exact lv_icmp_eq (tgt := 850) hx hb dL_law_624 (by decide) (fun _ => hn x' m' H locs ls hrel9 hPX hPM hS hl) (fun c9 => absurd rfl c9)
set_option maxHeartbeats 4000000 in
set_option maxRecDepth 100000 in
theorem lc_goalAt (hL : Lw p s m meth c b L xs D cy tX tY ad am) (hi : i + 5 ≤ L) (hLb : L ≤ 2560) (hB : B + 12000 < 2147483648) (hrel : REL x mm B) (hPX : va_P D vwCl (wG (eX cy ad) 93 ad x) H) (hPM : va_P D vwCl (wG (eM cy am) 12 am mm) H) (hS : va_S (fun q => s.heap.size ≤ q) s.heap H locs) (hl : lv_has ls 4 [(0, .ref b), (1, .ref (ad 0)), (2, .ref (am 0)), (3, .int (nI i))]) (hn : Nxt p l e s m below meth c b D cy ad am i (B + 12000) Q) : W p l e room_1 s m #[Value.ref b] below meth c H locs 105 3842 Q (F0 m 629 ls []) := by
  obtain ⟨hC, hX, hbl, hbA, haX, haM, hap, hgX, hgM⟩ := id hL
  obtain ⟨hx, hb, -⟩ := id hC
  have h1 : vp_in (nI i + 1) L := by rw [show nI i + 1 = nI (i + 1) from nI_add i 1]; exact vp_in_nI (by omega) (by omega)
  have h2 : vp_in (nI i + 2) L := by rw [show nI i + 2 = nI (i + 2) from nI_add i 2]; exact vp_in_nI (by omega) (by omega)
  have h3 : vp_in (nI i + 3) L := by rw [show nI i + 3 = nI (i + 3) from nI_add i 3]; exact vp_in_nI (by omega) (by omega)
  obtain ⟨r, x', m', e1, e2, hrel'⟩ := b_goalAt (F := 1000) (Nat.le_refl _) hrel (xs (nI i + 1).toNatClampNeg) (xs (nI i + 2).toNatClampNeg) (xs (nI i + 3).toNatClampNeg)
  have hrel9 : REL x' m' (B + 12000) := hrel'.le (by omega)
  refine lv_aload_n hx hb dL_law_629 rfl (lv_at hl 1 rfl) ?_
  refine lv_aload_n hx hb dL_law_630 rfl (lv_at hl 0 rfl) ?_
  refine lv_iload_n hx hb dL_law_631 rfl (lv_at hl 3 rfl) ?_
  refine lv_iconst (v := 1) hx hb dL_law_632 (by decide) ?_
  refine lv_iadd hx hb dL_law_633 ?_
  refine va_sld hx hb hX hbl hbA hS h1 dL_law_634 ?_
  refine lv_aload_n hx hb dL_law_635 rfl (lv_at hl 0 rfl) ?_
  refine lv_iload_n hx hb dL_law_636 rfl (lv_at hl 3 rfl) ?_
  refine lv_iconst (v := 2) hx hb dL_law_637 (by decide) ?_
  refine lv_iadd hx hb dL_law_638 ?_
  refine va_sld hx hb hX hbl hbA hS h2 dL_law_639 ?_
  refine lv_aload_n hx hb dL_law_640 rfl (lv_at hl 0 rfl) ?_
  refine lv_iload_n hx hb dL_law_641 rfl (lv_at hl 3 rfl) ?_
  refine lv_iconst (v := 3) hx hb dL_law_642 (by decide) ?_
  refine lv_iadd hx hb dL_law_643 ?_
  refine va_sld hx hb hX hbl hbA hS h3 dL_law_644 ?_
  refine lVi (As := [.int (xs (nI i + 1).toNatClampNeg), .int (xs (nI i + 2).toNatClampNeg), .int (xs (nI i + 3).toNatClampNeg)]) (rest := []) (k := 0) hC hPX hS (fun q h => hgX q h) (kX6_goalAt l D cy tX tY ad (AX ad) haX 1000 x (xs (nI i + 1).toNatClampNeg) (xs (nI i + 2).toNatClampNeg) (xs (nI i + 3).toNatClampNeg) e1) glL_70 ⟨rfl, rfl⟩ hdL_70 ⟨Nat.le_of_ble_eq_true rfl, Nat.le_of_ble_eq_true rfl⟩ (by decide) (eX_0 cy ad _ _) rfl rfl hl.1 rfl (Nat.le_of_ble_eq_true rfl) dL_law_645 ⟨Nat.le_of_ble_eq_true rfl, Nat.le_of_ble_eq_true rfl⟩ (fun H locs hPX hk hS => ?_)
  have hPM := hPM.kept (keptM hap hPM hk)
  refine lv_aload_n hx hb dL_law_648 rfl (lv_at hl 2 rfl) ?_
  refine lv_aload_n hx hb dL_law_649 rfl (lv_at hl 0 rfl) ?_
  refine lv_iload_n hx hb dL_law_650 rfl (lv_at hl 3 rfl) ?_
  refine lv_iconst (v := 1) hx hb dL_law_651 (by decide) ?_
  refine lv_iadd hx hb dL_law_652 ?_
  refine va_sld hx hb hX hbl hbA hS h1 dL_law_653 ?_
  refine lv_aload_n hx hb dL_law_654 rfl (lv_at hl 0 rfl) ?_
  refine lv_iload_n hx hb dL_law_655 rfl (lv_at hl 3 rfl) ?_
  refine lv_iconst (v := 2) hx hb dL_law_656 (by decide) ?_
  refine lv_iadd hx hb dL_law_657 ?_
  refine va_sld hx hb hX hbl hbA hS h2 dL_law_658 ?_
  refine lv_aload_n hx hb dL_law_659 rfl (lv_at hl 0 rfl) ?_
  refine lv_iload_n hx hb dL_law_660 rfl (lv_at hl 3 rfl) ?_
  refine lv_iconst (v := 3) hx hb dL_law_661 (by decide) ?_
  refine lv_iadd hx hb dL_law_662 ?_
  refine va_sld hx hb hX hbl hbA hS h3 dL_law_663 ?_
  refine lVi (As := [.int (xs (nI i + 1).toNatClampNeg), .int (xs (nI i + 2).toNatClampNeg), .int (xs (nI i + 3).toNatClampNeg)]) (rest := [.int r]) (k := 0) hC hPM hS (fun q h => hgM q h) (kX7_goalAt l D cy tX tY am (AM am) haM 1000 mm (xs (nI i + 1).toNatClampNeg) (xs (nI i + 2).toNatClampNeg) (xs (nI i + 3).toNatClampNeg) e2) glL_73 ⟨rfl, rfl⟩ hdL_73 ⟨Nat.le_of_ble_eq_true rfl, Nat.le_of_ble_eq_true rfl⟩ (by decide) (eM_0 cy am _ _) rfl rfl hl.1 rfl (Nat.le_of_ble_eq_true rfl) dL_law_664 ⟨Nat.le_of_ble_eq_true rfl, Nat.le_of_ble_eq_true rfl⟩ (fun H locs hPM hk hS => ?_)
  have hPX := hPX.kept (keptX hap hPX hk)
  exact lv_icmp_eq (tgt := 850) hx hb dL_law_667 (by decide) (fun _ => hn x' m' H locs ls hrel9 hPX hPM hS hl) (fun c9 => absurd rfl c9)
set_option maxHeartbeats 4000000 in
set_option maxRecDepth 100000 in
theorem lc_of (hL : Lw p s m meth c b L xs D cy tX tY ad am) (hi : i + 5 ≤ L) (hLb : L ≤ 2560) (hB : B + 12000 < 2147483648) (hrel : REL x mm B) (hPX : va_P D vwCl (wG (eX cy ad) 93 ad x) H) (hPM : va_P D vwCl (wG (eM cy am) 12 am mm) H) (hS : va_S (fun q => s.heap.size ≤ q) s.heap H locs) (hl : lv_has ls 4 [(0, .ref b), (1, .ref (ad 0)), (2, .ref (am 0)), (3, .int (nI i))]) (hn : Nxt p l e s m below meth c b D cy ad am i (B + 12000) Q) : W p l e room_1 s m #[Value.ref b] below meth c H locs 105 3842 Q (F0 m 672 ls []) := by
  obtain ⟨hC, hX, hbl, hbA, haX, haM, hap, hgX, hgM⟩ := id hL
  obtain ⟨hx, hb, -⟩ := id hC
  have h1 : vp_in (nI i + 1) L := by rw [show nI i + 1 = nI (i + 1) from nI_add i 1]; exact vp_in_nI (by omega) (by omega)
  have h2 : vp_in (nI i + 2) L := by rw [show nI i + 2 = nI (i + 2) from nI_add i 2]; exact vp_in_nI (by omega) (by omega)
  obtain ⟨r, x', m', e1, e2, hrel'⟩ := b_of (F := 1000) (Nat.le_refl _) hrel (xs (nI i + 1).toNatClampNeg) (xs (nI i + 2).toNatClampNeg)
  have hrel9 : REL x' m' (B + 12000) := hrel'.le (by omega)
  refine lv_aload_n hx hb dL_law_672 rfl (lv_at hl 1 rfl) ?_
  refine lv_aload_n hx hb dL_law_673 rfl (lv_at hl 0 rfl) ?_
  refine lv_iload_n hx hb dL_law_674 rfl (lv_at hl 3 rfl) ?_
  refine lv_iconst (v := 1) hx hb dL_law_675 (by decide) ?_
  refine lv_iadd hx hb dL_law_676 ?_
  refine va_sld hx hb hX hbl hbA hS h1 dL_law_677 ?_
  refine lv_aload_n hx hb dL_law_678 rfl (lv_at hl 0 rfl) ?_
  refine lv_iload_n hx hb dL_law_679 rfl (lv_at hl 3 rfl) ?_
  refine lv_iconst (v := 2) hx hb dL_law_680 (by decide) ?_
  refine lv_iadd hx hb dL_law_681 ?_
  refine va_sld hx hb hX hbl hbA hS h2 dL_law_682 ?_
  refine lVi (As := [.int (xs (nI i + 1).toNatClampNeg), .int (xs (nI i + 2).toNatClampNeg)]) (rest := []) (k := 0) hC hPX hS (fun q h => hgX q h) (kX6_of l D cy tX tY ad (AX ad) haX 1000 x (xs (nI i + 1).toNatClampNeg) (xs (nI i + 2).toNatClampNeg) e1) glL_74 ⟨rfl, rfl⟩ hdL_74 ⟨Nat.le_of_ble_eq_true rfl, Nat.le_of_ble_eq_true rfl⟩ (by decide) (eX_0 cy ad _ _) rfl rfl hl.1 rfl (Nat.le_of_ble_eq_true rfl) dL_law_683 ⟨Nat.le_of_ble_eq_true rfl, Nat.le_of_ble_eq_true rfl⟩ (fun H locs hPX hk hS => ?_)
  have hPM := hPM.kept (keptM hap hPM hk)
  refine lv_aload_n hx hb dL_law_686 rfl (lv_at hl 2 rfl) ?_
  refine lv_aload_n hx hb dL_law_687 rfl (lv_at hl 0 rfl) ?_
  refine lv_iload_n hx hb dL_law_688 rfl (lv_at hl 3 rfl) ?_
  refine lv_iconst (v := 1) hx hb dL_law_689 (by decide) ?_
  refine lv_iadd hx hb dL_law_690 ?_
  refine va_sld hx hb hX hbl hbA hS h1 dL_law_691 ?_
  refine lv_aload_n hx hb dL_law_692 rfl (lv_at hl 0 rfl) ?_
  refine lv_iload_n hx hb dL_law_693 rfl (lv_at hl 3 rfl) ?_
  refine lv_iconst (v := 2) hx hb dL_law_694 (by decide) ?_
  refine lv_iadd hx hb dL_law_695 ?_
  refine va_sld hx hb hX hbl hbA hS h2 dL_law_696 ?_
  refine lVi (As := [.int (xs (nI i + 1).toNatClampNeg), .int (xs (nI i + 2).toNatClampNeg)]) (rest := [.int r]) (k := 0) hC hPM hS (fun q h => hgM q h) (kX7_of l D cy tX tY am (AM am) haM 1000 mm (xs (nI i + 1).toNatClampNeg) (xs (nI i + 2).toNatClampNeg) e2) glL_77 ⟨rfl, rfl⟩ hdL_77 ⟨Nat.le_of_ble_eq_true rfl, Nat.le_of_ble_eq_true rfl⟩ (by decide) (eM_0 cy am _ _) rfl rfl hl.1 rfl (Nat.le_of_ble_eq_true rfl) dL_law_697 ⟨Nat.le_of_ble_eq_true rfl, Nat.le_of_ble_eq_true rfl⟩ (fun H locs hPM hk hS => ?_)
  have hPX := hPX.kept (keptX hap hPX hk)
  exact lv_icmp_eq (tgt := 850) hx hb dL_law_700 (by decide) (fun _ => hn x' m' H locs ls hrel9 hPX hPM hS hl) (fun c9 => absurd rfl c9)
set_option maxHeartbeats 4000000 in
set_option maxRecDepth 100000 in
theorem lc_when (hL : Lw p s m meth c b L xs D cy tX tY ad am) (hi : i + 5 ≤ L) (hLb : L ≤ 2560) (hB : B + 12000 < 2147483648) (hrel : REL x mm B) (hPX : va_P D vwCl (wG (eX cy ad) 93 ad x) H) (hPM : va_P D vwCl (wG (eM cy am) 12 am mm) H) (hS : va_S (fun q => s.heap.size ≤ q) s.heap H locs) (hl : lv_has ls 4 [(0, .ref b), (1, .ref (ad 0)), (2, .ref (am 0)), (3, .int (nI i))]) (hn : Nxt p l e s m below meth c b D cy ad am i (B + 12000) Q) : W p l e room_1 s m #[Value.ref b] below meth c H locs 105 3842 Q (F0 m 705 ls []) := by
  obtain ⟨hC, hX, hbl, hbA, haX, haM, hap, hgX, hgM⟩ := id hL
  obtain ⟨hx, hb, -⟩ := id hC
  have h1 : vp_in (nI i + 1) L := by rw [show nI i + 1 = nI (i + 1) from nI_add i 1]; exact vp_in_nI (by omega) (by omega)
  obtain ⟨r, x', m', e1, e2, hrel'⟩ := b_when (F := 1000) (Nat.le_refl _) hrel (xs (nI i + 1).toNatClampNeg)
  have hrel9 : REL x' m' (B + 12000) := hrel'.le (by omega)
  refine lv_aload_n hx hb dL_law_705 rfl (lv_at hl 1 rfl) ?_
  refine lv_aload_n hx hb dL_law_706 rfl (lv_at hl 0 rfl) ?_
  refine lv_iload_n hx hb dL_law_707 rfl (lv_at hl 3 rfl) ?_
  refine lv_iconst (v := 1) hx hb dL_law_708 (by decide) ?_
  refine lv_iadd hx hb dL_law_709 ?_
  refine va_sld hx hb hX hbl hbA hS h1 dL_law_710 ?_
  refine lVi (As := [.int (xs (nI i + 1).toNatClampNeg)]) (rest := []) (k := 0) hC hPX hS (fun q h => hgX q h) (kX6_when l D cy tX tY ad (AX ad) haX 1000 x (xs (nI i + 1).toNatClampNeg) e1) glL_78 ⟨rfl, rfl⟩ hdL_78 ⟨Nat.le_of_ble_eq_true rfl, Nat.le_of_ble_eq_true rfl⟩ (by decide) (eX_0 cy ad _ _) rfl rfl hl.1 rfl (Nat.le_of_ble_eq_true rfl) dL_law_711 ⟨Nat.le_of_ble_eq_true rfl, Nat.le_of_ble_eq_true rfl⟩ (fun H locs hPX hk hS => ?_)
  have hPM := hPM.kept (keptM hap hPM hk)
  refine lv_aload_n hx hb dL_law_714 rfl (lv_at hl 2 rfl) ?_
  refine lv_aload_n hx hb dL_law_715 rfl (lv_at hl 0 rfl) ?_
  refine lv_iload_n hx hb dL_law_716 rfl (lv_at hl 3 rfl) ?_
  refine lv_iconst (v := 1) hx hb dL_law_717 (by decide) ?_
  refine lv_iadd hx hb dL_law_718 ?_
  refine va_sld hx hb hX hbl hbA hS h1 dL_law_719 ?_
  refine lVi (As := [.int (xs (nI i + 1).toNatClampNeg)]) (rest := [.int r]) (k := 0) hC hPM hS (fun q h => hgM q h) (kX7_when l D cy tX tY am (AM am) haM 1000 mm (xs (nI i + 1).toNatClampNeg) e2) glL_81 ⟨rfl, rfl⟩ hdL_81 ⟨Nat.le_of_ble_eq_true rfl, Nat.le_of_ble_eq_true rfl⟩ (by decide) (eM_0 cy am _ _) rfl rfl hl.1 rfl (Nat.le_of_ble_eq_true rfl) dL_law_720 ⟨Nat.le_of_ble_eq_true rfl, Nat.le_of_ble_eq_true rfl⟩ (fun H locs hPM hk hS => ?_)
  have hPX := hPX.kept (keptX hap hPX hk)
  exact lv_icmp_eq (tgt := 850) hx hb dL_law_723 (by decide) (fun _ => hn x' m' H locs ls hrel9 hPX hPM hS hl) (fun c9 => absurd rfl c9)
set_option maxHeartbeats 4000000 in
set_option maxRecDepth 100000 in
theorem lc_count (hL : Lw p s m meth c b L xs D cy tX tY ad am) (hi : i + 5 ≤ L) (hLb : L ≤ 2560) (hB : B + 12000 < 2147483648) (hrel : REL x mm B) (hPX : va_P D vwCl (wG (eX cy ad) 93 ad x) H) (hPM : va_P D vwCl (wG (eM cy am) 12 am mm) H) (hS : va_S (fun q => s.heap.size ≤ q) s.heap H locs) (hl : lv_has ls 4 [(0, .ref b), (1, .ref (ad 0)), (2, .ref (am 0)), (3, .int (nI i))]) (hn : Nxt p l e s m below meth c b D cy ad am i (B + 12000) Q) : W p l e room_1 s m #[Value.ref b] below meth c H locs 105 3842 Q (F0 m 728 ls []) := by
  obtain ⟨hC, hX, hbl, hbA, haX, haM, hap, hgX, hgM⟩ := id hL
  obtain ⟨hx, hb, -⟩ := id hC
  have h1 : vp_in (nI i + 1) L := by rw [show nI i + 1 = nI (i + 1) from nI_add i 1]; exact vp_in_nI (by omega) (by omega)
  obtain ⟨r, x', m', e1, e2, hrel'⟩ := b_count (F := 1000) (Nat.le_refl _) hrel (xs (nI i + 1).toNatClampNeg)
  have hrel9 : REL x' m' (B + 12000) := hrel'.le (by omega)
  refine lv_aload_n hx hb dL_law_728 rfl (lv_at hl 1 rfl) ?_
  refine lv_aload_n hx hb dL_law_729 rfl (lv_at hl 0 rfl) ?_
  refine lv_iload_n hx hb dL_law_730 rfl (lv_at hl 3 rfl) ?_
  refine lv_iconst (v := 1) hx hb dL_law_731 (by decide) ?_
  refine lv_iadd hx hb dL_law_732 ?_
  refine va_sld hx hb hX hbl hbA hS h1 dL_law_733 ?_
  refine lVi (As := [.int (xs (nI i + 1).toNatClampNeg)]) (rest := []) (k := 0) hC hPX hS (fun q h => hgX q h) (kX6_count l D cy tX tY ad (AX ad) haX 1000 x (xs (nI i + 1).toNatClampNeg) e1) glL_82 ⟨rfl, rfl⟩ hdL_82 ⟨Nat.le_of_ble_eq_true rfl, Nat.le_of_ble_eq_true rfl⟩ (by decide) (eX_0 cy ad _ _) rfl rfl hl.1 rfl (Nat.le_of_ble_eq_true rfl) dL_law_734 ⟨Nat.le_of_ble_eq_true rfl, Nat.le_of_ble_eq_true rfl⟩ (fun H locs hPX hk hS => ?_)
  have hPM := hPM.kept (keptM hap hPM hk)
  refine lv_aload_n hx hb dL_law_737 rfl (lv_at hl 2 rfl) ?_
  refine lv_aload_n hx hb dL_law_738 rfl (lv_at hl 0 rfl) ?_
  refine lv_iload_n hx hb dL_law_739 rfl (lv_at hl 3 rfl) ?_
  refine lv_iconst (v := 1) hx hb dL_law_740 (by decide) ?_
  refine lv_iadd hx hb dL_law_741 ?_
  refine va_sld hx hb hX hbl hbA hS h1 dL_law_742 ?_
  refine lVi (As := [.int (xs (nI i + 1).toNatClampNeg)]) (rest := [.int r]) (k := 0) hC hPM hS (fun q h => hgM q h) (kX7_count l D cy tX tY am (AM am) haM 1000 mm (xs (nI i + 1).toNatClampNeg) e2) glL_85 ⟨rfl, rfl⟩ hdL_85 ⟨Nat.le_of_ble_eq_true rfl, Nat.le_of_ble_eq_true rfl⟩ (by decide) (eM_0 cy am _ _) rfl rfl hl.1 rfl (Nat.le_of_ble_eq_true rfl) dL_law_743 ⟨Nat.le_of_ble_eq_true rfl, Nat.le_of_ble_eq_true rfl⟩ (fun H locs hPM hk hS => ?_)
  have hPX := hPX.kept (keptX hap hPX hk)
  exact lv_icmp_eq (tgt := 850) hx hb dL_law_746 (by decide) (fun _ => hn x' m' H locs ls hrel9 hPX hPM hS hl) (fun c9 => absurd rfl c9)
set_option maxHeartbeats 4000000 in
set_option maxRecDepth 100000 in
theorem lc_type (hL : Lw p s m meth c b L xs D cy tX tY ad am) (hi : i + 5 ≤ L) (hLb : L ≤ 2560) (hB : B + 12000 < 2147483648) (hrel : REL x mm B) (hPX : va_P D vwCl (wG (eX cy ad) 93 ad x) H) (hPM : va_P D vwCl (wG (eM cy am) 12 am mm) H) (hS : va_S (fun q => s.heap.size ≤ q) s.heap H locs) (hl : lv_has ls 4 [(0, .ref b), (1, .ref (ad 0)), (2, .ref (am 0)), (3, .int (nI i))]) (hn : Nxt p l e s m below meth c b D cy ad am i (B + 12000) Q) : W p l e room_1 s m #[Value.ref b] below meth c H locs 105 3842 Q (F0 m 751 ls []) := by
  obtain ⟨hC, hX, hbl, hbA, haX, haM, hap, hgX, hgM⟩ := id hL
  obtain ⟨hx, hb, -⟩ := id hC
  have h1 : vp_in (nI i + 1) L := by rw [show nI i + 1 = nI (i + 1) from nI_add i 1]; exact vp_in_nI (by omega) (by omega)
  obtain ⟨r, x', m', e1, e2, hrel'⟩ := b_type (F := 1000) hrel (xs (nI i + 1).toNatClampNeg)
  have hrel9 : REL x' m' (B + 12000) := hrel'.le (by omega)
  refine lv_aload_n hx hb dL_law_751 rfl (lv_at hl 1 rfl) ?_
  refine lv_aload_n hx hb dL_law_752 rfl (lv_at hl 0 rfl) ?_
  refine lv_iload_n hx hb dL_law_753 rfl (lv_at hl 3 rfl) ?_
  refine lv_iconst (v := 1) hx hb dL_law_754 (by decide) ?_
  refine lv_iadd hx hb dL_law_755 ?_
  refine va_sld hx hb hX hbl hbA hS h1 dL_law_756 ?_
  refine lVi (As := [.int (xs (nI i + 1).toNatClampNeg)]) (rest := []) (k := 0) hC hPX hS (fun q h => hgX q h) (kX6_type l D cy tX tY ad (AX ad) haX 1000 x (xs (nI i + 1).toNatClampNeg) e1) glL_86 ⟨rfl, rfl⟩ hdL_86 ⟨Nat.le_of_ble_eq_true rfl, Nat.le_of_ble_eq_true rfl⟩ (by decide) (eX_0 cy ad _ _) rfl rfl hl.1 rfl (Nat.le_of_ble_eq_true rfl) dL_law_757 ⟨Nat.le_of_ble_eq_true rfl, Nat.le_of_ble_eq_true rfl⟩ (fun H locs hPX hk hS => ?_)
  have hPM := hPM.kept (keptM hap hPM hk)
  refine lv_aload_n hx hb dL_law_760 rfl (lv_at hl 2 rfl) ?_
  refine lv_aload_n hx hb dL_law_761 rfl (lv_at hl 0 rfl) ?_
  refine lv_iload_n hx hb dL_law_762 rfl (lv_at hl 3 rfl) ?_
  refine lv_iconst (v := 1) hx hb dL_law_763 (by decide) ?_
  refine lv_iadd hx hb dL_law_764 ?_
  refine va_sld hx hb hX hbl hbA hS h1 dL_law_765 ?_
  refine lVi (As := [.int (xs (nI i + 1).toNatClampNeg)]) (rest := [.int r]) (k := 0) hC hPM hS (fun q h => hgM q h) (kX7_type l D cy tX tY am (AM am) haM 1000 mm (xs (nI i + 1).toNatClampNeg) e2) glL_89 ⟨rfl, rfl⟩ hdL_89 ⟨Nat.le_of_ble_eq_true rfl, Nat.le_of_ble_eq_true rfl⟩ (by decide) (eM_0 cy am _ _) rfl rfl hl.1 rfl (Nat.le_of_ble_eq_true rfl) dL_law_766 ⟨Nat.le_of_ble_eq_true rfl, Nat.le_of_ble_eq_true rfl⟩ (fun H locs hPM hk hS => ?_)
  have hPX := hPX.kept (keptX hap hPX hk)
  exact lv_icmp_eq (tgt := 850) hx hb dL_law_769 (by decide) (fun _ => hn x' m' H locs ls hrel9 hPX hPM hS hl) (fun c9 => absurd rfl c9)
set_option maxHeartbeats 4000000 in
set_option maxRecDepth 100000 in
theorem lc_clear (hL : Lw p s m meth c b L xs D cy tX tY ad am) (hi : i + 5 ≤ L) (hLb : L ≤ 2560) (hB : B + 12000 < 2147483648) (hrel : REL x mm B) (hPX : va_P D vwCl (wG (eX cy ad) 93 ad x) H) (hPM : va_P D vwCl (wG (eM cy am) 12 am mm) H) (hS : va_S (fun q => s.heap.size ≤ q) s.heap H locs) (hl : lv_has ls 4 [(0, .ref b), (1, .ref (ad 0)), (2, .ref (am 0)), (3, .int (nI i))]) (hn : Nxt p l e s m below meth c b D cy ad am i (B + 12000) Q) : W p l e room_1 s m #[Value.ref b] below meth c H locs 105 3842 Q (F0 m 774 ls []) := by
  obtain ⟨hC, hX, hbl, hbA, haX, haM, hap, hgX, hgM⟩ := id hL
  obtain ⟨hx, hb, -⟩ := id hC
  obtain ⟨r, x', m', e1, e2, hrel'⟩ := b_clear (F := 1000) hrel 
  have hrel9 : REL x' m' (B + 12000) := hrel'.le (by omega)
  refine lv_aload_n hx hb dL_law_774 rfl (lv_at hl 1 rfl) ?_
  refine lVi (As := []) (rest := []) (k := 0) hC hPX hS (fun q h => hgX q h) (kX6_clear l D cy tX tY ad (AX ad) haX 1000 x  e1) glL_90 ⟨rfl, rfl⟩ hdL_90 ⟨Nat.le_of_ble_eq_true rfl, Nat.le_of_ble_eq_true rfl⟩ (by decide) (eX_0 cy ad _ _) rfl rfl hl.1 rfl (Nat.le_of_ble_eq_true rfl) dL_law_775 ⟨Nat.le_of_ble_eq_true rfl, Nat.le_of_ble_eq_true rfl⟩ (fun H locs hPX hk hS => ?_)
  have hPM := hPM.kept (keptM hap hPM hk)
  refine lv_aload_n hx hb dL_law_778 rfl (lv_at hl 2 rfl) ?_
  refine lVi (As := []) (rest := [.int r]) (k := 0) hC hPM hS (fun q h => hgM q h) (kX7_clear l D cy tX tY am (AM am) haM 1000 mm  e2) glL_93 ⟨rfl, rfl⟩ hdL_93 ⟨Nat.le_of_ble_eq_true rfl, Nat.le_of_ble_eq_true rfl⟩ (by decide) (eM_0 cy am _ _) rfl rfl hl.1 rfl (Nat.le_of_ble_eq_true rfl) dL_law_779 ⟨Nat.le_of_ble_eq_true rfl, Nat.le_of_ble_eq_true rfl⟩ (fun H locs hPM hk hS => ?_)
  have hPX := hPX.kept (keptX hap hPX hk)
  exact lv_icmp_eq (tgt := 850) hx hb dL_law_782 (by decide) (fun _ => hn x' m' H locs ls hrel9 hPX hPM hS hl) (fun c9 => absurd rfl c9)
set_option maxHeartbeats 4000000 in
set_option maxRecDepth 100000 in
theorem lc_does (hL : Lw p s m meth c b L xs D cy tX tY ad am) (hi : i + 5 ≤ L) (hLb : L ≤ 2560) (hB : B + 12000 < 2147483648) (hrel : REL x mm B) (hPX : va_P D vwCl (wG (eX cy ad) 93 ad x) H) (hPM : va_P D vwCl (wG (eM cy am) 12 am mm) H) (hS : va_S (fun q => s.heap.size ≤ q) s.heap H locs) (hl : lv_has ls 4 [(0, .ref b), (1, .ref (ad 0)), (2, .ref (am 0)), (3, .int (nI i))]) (hn : Nxt p l e s m below meth c b D cy ad am i (B + 12000) Q) : W p l e room_1 s m #[Value.ref b] below meth c H locs 105 3842 Q (F0 m 787 ls []) := by
  obtain ⟨hC, hX, hbl, hbA, haX, haM, hap, hgX, hgM⟩ := id hL
  obtain ⟨hx, hb, -⟩ := id hC
  obtain ⟨r, x', m', e1, e2, hrel'⟩ := b_does (F := 1000) (Nat.le_refl _) hB hrel
  have hrel9 : REL x' m' (B + 12000) := hrel'.le (by omega)
  refine lv_aload_n hx hb dL_law_787 rfl (lv_at hl 1 rfl) ?_
  refine lVi (As := []) (rest := []) (k := 0) hC hPX hS (fun q h => hgX q h) (kX6_does l D cy tX tY ad (AX ad) haX 1000 x  e1) glL_94 ⟨rfl, rfl⟩ hdL_94 ⟨Nat.le_of_ble_eq_true rfl, Nat.le_of_ble_eq_true rfl⟩ (by decide) (eX_0 cy ad _ _) rfl rfl hl.1 rfl (Nat.le_of_ble_eq_true rfl) dL_law_788 ⟨Nat.le_of_ble_eq_true rfl, Nat.le_of_ble_eq_true rfl⟩ (fun H locs hPX hk hS => ?_)
  have hPM := hPM.kept (keptM hap hPM hk)
  refine lv_aload_n hx hb dL_law_791 rfl (lv_at hl 2 rfl) ?_
  refine lVi (As := []) (rest := [.int r]) (k := 0) hC hPM hS (fun q h => hgM q h) (kX7_does l D cy tX tY am (AM am) haM 1000 mm  e2) glL_97 ⟨rfl, rfl⟩ hdL_97 ⟨Nat.le_of_ble_eq_true rfl, Nat.le_of_ble_eq_true rfl⟩ (by decide) (eM_0 cy am _ _) rfl rfl hl.1 rfl (Nat.le_of_ble_eq_true rfl) dL_law_792 ⟨Nat.le_of_ble_eq_true rfl, Nat.le_of_ble_eq_true rfl⟩ (fun H locs hPM hk hS => ?_)
  have hPX := hPX.kept (keptX hap hPX hk)
  exact lv_icmp_eq (tgt := 850) hx hb dL_law_795 (by decide) (fun _ => hn x' m' H locs ls hrel9 hPX hPM hS hl) (fun c9 => absurd rfl c9)
set_option maxHeartbeats 4000000 in
set_option maxRecDepth 100000 in
theorem lc_back (hL : Lw p s m meth c b L xs D cy tX tY ad am) (hi : i + 5 ≤ L) (hLb : L ≤ 2560) (hB : B + 12000 < 2147483648) (hrel : REL x mm B) (hPX : va_P D vwCl (wG (eX cy ad) 93 ad x) H) (hPM : va_P D vwCl (wG (eM cy am) 12 am mm) H) (hS : va_S (fun q => s.heap.size ≤ q) s.heap H locs) (hl : lv_has ls 4 [(0, .ref b), (1, .ref (ad 0)), (2, .ref (am 0)), (3, .int (nI i))]) (hn : Nxt p l e s m below meth c b D cy ad am i (B + 12000) Q) : W p l e room_1 s m #[Value.ref b] below meth c H locs 105 3842 Q (F0 m 800 ls []) := by
  obtain ⟨hC, hX, hbl, hbA, haX, haM, hap, hgX, hgM⟩ := id hL
  obtain ⟨hx, hb, -⟩ := id hC
  obtain ⟨r, x', m', e1, e2, hrel'⟩ := b_back (F := 1000) (Nat.le_refl _) hrel 
  have hrel9 : REL x' m' (B + 12000) := hrel'.le (by omega)
  refine lv_aload_n hx hb dL_law_800 rfl (lv_at hl 1 rfl) ?_
  refine lVi (As := []) (rest := []) (k := 0) hC hPX hS (fun q h => hgX q h) (kX6_back l D cy tX tY ad (AX ad) haX 1000 x  e1) glL_98 ⟨rfl, rfl⟩ hdL_98 ⟨Nat.le_of_ble_eq_true rfl, Nat.le_of_ble_eq_true rfl⟩ (by decide) (eX_0 cy ad _ _) rfl rfl hl.1 rfl (Nat.le_of_ble_eq_true rfl) dL_law_801 ⟨Nat.le_of_ble_eq_true rfl, Nat.le_of_ble_eq_true rfl⟩ (fun H locs hPX hk hS => ?_)
  have hPM := hPM.kept (keptM hap hPM hk)
  refine lv_aload_n hx hb dL_law_804 rfl (lv_at hl 2 rfl) ?_
  refine lVi (As := []) (rest := [.int r]) (k := 0) hC hPM hS (fun q h => hgM q h) (kX7_back l D cy tX tY am (AM am) haM 1000 mm  e2) glL_101 ⟨rfl, rfl⟩ hdL_101 ⟨Nat.le_of_ble_eq_true rfl, Nat.le_of_ble_eq_true rfl⟩ (by decide) (eM_0 cy am _ _) rfl rfl hl.1 rfl (Nat.le_of_ble_eq_true rfl) dL_law_805 ⟨Nat.le_of_ble_eq_true rfl, Nat.le_of_ble_eq_true rfl⟩ (fun H locs hPM hk hS => ?_)
  have hPX := hPX.kept (keptX hap hPX hk)
  exact lv_icmp_eq (tgt := 850) hx hb dL_law_808 (by decide) (fun _ => hn x' m' H locs ls hrel9 hPX hPM hS hl) (fun c9 => absurd rfl c9)
set_option maxHeartbeats 4000000 in
set_option maxRecDepth 100000 in
theorem lc_told (hL : Lw p s m meth c b L xs D cy tX tY ad am) (hi : i + 5 ≤ L) (hLb : L ≤ 2560) (hB : B + 12000 < 2147483648) (hrel : REL x mm B) (hPX : va_P D vwCl (wG (eX cy ad) 93 ad x) H) (hPM : va_P D vwCl (wG (eM cy am) 12 am mm) H) (hS : va_S (fun q => s.heap.size ≤ q) s.heap H locs) (hl : lv_has ls 4 [(0, .ref b), (1, .ref (ad 0)), (2, .ref (am 0)), (3, .int (nI i))]) (hn : Nxt p l e s m below meth c b D cy ad am i (B + 12000) Q) : W p l e room_1 s m #[Value.ref b] below meth c H locs 105 3842 Q (F0 m 813 ls []) := by
  obtain ⟨hC, hX, hbl, hbA, haX, haM, hap, hgX, hgM⟩ := id hL
  obtain ⟨hx, hb, -⟩ := id hC
  have h1 : vp_in (nI i + 1) L := by rw [show nI i + 1 = nI (i + 1) from nI_add i 1]; exact vp_in_nI (by omega) (by omega)
  obtain ⟨r, x', m', e1, e2, hrel'⟩ := b_told (F := 1000) hrel (xs (nI i + 1).toNatClampNeg)
  have hrel9 : REL x' m' (B + 12000) := hrel'.le (by omega)
  refine lv_aload_n hx hb dL_law_813 rfl (lv_at hl 1 rfl) ?_
  refine lv_aload_n hx hb dL_law_814 rfl (lv_at hl 0 rfl) ?_
  refine lv_iload_n hx hb dL_law_815 rfl (lv_at hl 3 rfl) ?_
  refine lv_iconst (v := 1) hx hb dL_law_816 (by decide) ?_
  refine lv_iadd hx hb dL_law_817 ?_
  refine va_sld hx hb hX hbl hbA hS h1 dL_law_818 ?_
  refine lVi (As := [.int (xs (nI i + 1).toNatClampNeg)]) (rest := []) (k := 0) hC hPX hS (fun q h => hgX q h) (kX6_told l D cy tX tY ad (AX ad) haX 1000 x (xs (nI i + 1).toNatClampNeg) e1) glL_102 ⟨rfl, rfl⟩ hdL_102 ⟨Nat.le_of_ble_eq_true rfl, Nat.le_of_ble_eq_true rfl⟩ (by decide) (eX_0 cy ad _ _) rfl rfl hl.1 rfl (Nat.le_of_ble_eq_true rfl) dL_law_819 ⟨Nat.le_of_ble_eq_true rfl, Nat.le_of_ble_eq_true rfl⟩ (fun H locs hPX hk hS => ?_)
  have hPM := hPM.kept (keptM hap hPM hk)
  refine lv_aload_n hx hb dL_law_822 rfl (lv_at hl 2 rfl) ?_
  refine lv_aload_n hx hb dL_law_823 rfl (lv_at hl 0 rfl) ?_
  refine lv_iload_n hx hb dL_law_824 rfl (lv_at hl 3 rfl) ?_
  refine lv_iconst (v := 1) hx hb dL_law_825 (by decide) ?_
  refine lv_iadd hx hb dL_law_826 ?_
  refine va_sld hx hb hX hbl hbA hS h1 dL_law_827 ?_
  refine lVi (As := [.int (xs (nI i + 1).toNatClampNeg)]) (rest := [.int r]) (k := 0) hC hPM hS (fun q h => hgM q h) (kX7_told l D cy tX tY am (AM am) haM 1000 mm (xs (nI i + 1).toNatClampNeg) e2) glL_105 ⟨rfl, rfl⟩ hdL_105 ⟨Nat.le_of_ble_eq_true rfl, Nat.le_of_ble_eq_true rfl⟩ (by decide) (eM_0 cy am _ _) rfl rfl hl.1 rfl (Nat.le_of_ble_eq_true rfl) dL_law_828 ⟨Nat.le_of_ble_eq_true rfl, Nat.le_of_ble_eq_true rfl⟩ (fun H locs hPM hk hS => ?_)
  have hPX := hPX.kept (keptX hap hPX hk)
  exact lv_icmp_eq (tgt := 850) hx hb dL_law_831 (by decide) (fun _ => hn x' m' H locs ls hrel9 hPX hPM hS hl) (fun c9 => absurd rfl c9)
set_option maxHeartbeats 4000000 in
set_option maxRecDepth 100000 in
theorem lc_digest (hL : Lw p s m meth c b L xs D cy tX tY ad am) (hi : i + 5 ≤ L) (hLb : L ≤ 2560) (hB : B + 12000 < 2147483648) (hrel : REL x mm B) (hPX : va_P D vwCl (wG (eX cy ad) 93 ad x) H) (hPM : va_P D vwCl (wG (eM cy am) 12 am mm) H) (hS : va_S (fun q => s.heap.size ≤ q) s.heap H locs) (hl : lv_has ls 4 [(0, .ref b), (1, .ref (ad 0)), (2, .ref (am 0)), (3, .int (nI i))]) (hn : Nxt p l e s m below meth c b D cy ad am i (B + 12000) Q) : W p l e room_1 s m #[Value.ref b] below meth c H locs 105 3842 Q (F0 m 836 ls []) := by
  obtain ⟨hC, hX, hbl, hbA, haX, haM, hap, hgX, hgM⟩ := id hL
  obtain ⟨hx, hb, -⟩ := id hC
  obtain ⟨r, x', m', e1, e2, hrel'⟩ := b_digest (F := 1000) (Nat.le_refl _) hrel 
  have hrel9 : REL x' m' (B + 12000) := hrel'.le (by omega)
  refine lv_aload_n hx hb dL_law_836 rfl (lv_at hl 1 rfl) ?_
  refine lVl (As := []) (rest := []) (k := 0) hC hPX hS (fun q h => hgX q h) (kX6_digest l D cy tX tY ad (AX ad) haX 1000 x  e1) glL_106 ⟨rfl, rfl⟩ hdL_106 ⟨Nat.le_of_ble_eq_true rfl, Nat.le_of_ble_eq_true rfl⟩ (by decide) (eX_0 cy ad _ _) rfl rfl hl.1 rfl (Nat.le_of_ble_eq_true rfl) dL_law_837 ⟨Nat.le_of_ble_eq_true rfl, Nat.le_of_ble_eq_true rfl⟩ (fun H locs hPX hk hS => ?_)
  have hPM := hPM.kept (keptM hap hPM hk)
  refine lv_aload_n hx hb dL_law_840 rfl (lv_at hl 2 rfl) ?_
  refine lVl (As := []) (rest := [.long r]) (k := 0) hC hPM hS (fun q h => hgM q h) (kX7_digest l D cy tX tY am (AM am) haM 1000 mm  e2) glL_110 ⟨rfl, rfl⟩ hdL_110 ⟨Nat.le_of_ble_eq_true rfl, Nat.le_of_ble_eq_true rfl⟩ (by decide) (eM_0 cy am _ _) rfl rfl hl.1 rfl (Nat.le_of_ble_eq_true rfl) dL_law_841 ⟨Nat.le_of_ble_eq_true rfl, Nat.le_of_ble_eq_true rfl⟩ (fun H locs hPM hk hS => ?_)
  have hPX := hPX.kept (keptX hap hPX hk)
  refine W.lcmp hx hb dL_law_844 ?_
  exact lv_if_eq (tgt := 850) hx hb dL_law_845 (by decide) (fun _ => hn x' m' H locs ls hrel9 hPX hPM hS hl) (fun c9 => absurd (lcmp_self r) c9)
end LC
