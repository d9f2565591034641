-- ===== bits of longs, how many are set =====
theorem lb_tb (n : Nat) : (lN n).toBitVec = BitVec.ofNat 64 n := rfl
theorem lb_c : ∀ k, k < 64 → ((nI k).toInt64 &&& 63) = lN k := by decide +kernel
theorem lb_cu : ∀ k, k < 64 → ((nI k).toInt64.toUInt64 &&& Int64.toUInt64 63) = UInt64.ofNat k := by decide +kernel
theorem and_lN (a b : Nat) : lN a &&& lN b = lN (a &&& b) := by
  apply Int64.toBitVec_inj.1
  show BitVec.ofNat 64 a &&& BitVec.ofNat 64 b = BitVec.ofNat 64 (a &&& b)
  apply BitVec.eq_of_getLsbD_eq
  intro i hi
  simp [hi]
theorem xor_lN (a b : Nat) : lN a ^^^ lN b = lN (a ^^^ b) := by
  apply Int64.toBitVec_inj.1
  show BitVec.ofNat 64 a ^^^ BitVec.ofNat 64 b = BitVec.ofNat 64 (a ^^^ b)
  apply BitVec.eq_of_getLsbD_eq
  intro i hi
  simp [hi]
theorem inj_lN {a b : Nat} (ha : a < 9223372036854775808) (hb : b < 9223372036854775808) : (lN a = lN b) = (a = b) := propext (pk_lEQ (by omega) (by omega))
theorem ushr_lN {n k : Nat} (hn : n < 18446744073709551616) (hk : k < 64) : ((lN n).toUInt64 >>> ((nI k).toInt64.toUInt64 &&& Int64.toUInt64 63)).toInt64 = lN (n / 2 ^ k) := by
  rw [lb_cu k hk]
  apply Int64.toBitVec_inj.1
  show (BitVec.ofNat 64 n) >>> ((BitVec.ofNat 64 k) % 64#64) = BitVec.ofNat 64 (n / 2 ^ k)
  apply BitVec.eq_of_toNat_eq
  have h1 : ((BitVec.ofNat 64 k) % 64#64).toNat = k := by
    rw [BitVec.toNat_umod, BitVec.toNat_ofNat, Nat.mod_eq_of_lt (show k < 2 ^ 64 by omega)]
    show k % 64 = k
    omega
  have h2 : n / 2 ^ k ≤ n := Nat.div_le_self _ _
  rw [BitVec.ushiftRight_eq', BitVec.toNat_ushiftRight, h1, BitVec.toNat_ofNat, BitVec.toNat_ofNat, Nat.mod_eq_of_lt (by omega), Nat.mod_eq_of_lt (by omega), Nat.shiftRight_eq_div_pow]
theorem shl_lN (n : Nat) {k : Nat} (hk : k < 64) : lN n <<< ((nI k).toInt64 &&& 63) = lN (n * 2 ^ k) := by
  rw [lb_c k hk]
  apply Int64.toBitVec_inj.1
  show (BitVec.ofNat 64 n) <<< ((BitVec.ofNat 64 k).smod 64#64) = BitVec.ofNat 64 (n * 2 ^ k)
  have h1 : ∀ k, k < 64 → ((BitVec.ofNat 64 k).smod 64#64) = BitVec.ofNat 64 k := by decide +kernel
  rw [h1 k hk]
  apply BitVec.eq_of_toNat_eq
  rw [BitVec.shiftLeft_eq', BitVec.toNat_shiftLeft, BitVec.toNat_ofNat, BitVec.toNat_ofNat, BitVec.toNat_ofNat, Nat.mod_eq_of_lt (show k < 2 ^ 64 by omega), Nat.shiftLeft_eq]
  exact Nat.mod_mul_mod n (2 ^ k) (2 ^ 64)
theorem shr_lN {n k : Nat} (hn : n < 4611686018427387904) (hk : k < 64) : lN n >>> ((nI k).toInt64 &&& 63) = lN (n / 2 ^ k) := by
  rw [lb_c k hk]
  have h1 : ∀ k, k < 64 → ((lN k).toBitVec.smod 64#64).toNat = k := by decide +kernel
  have hd : ((lN k).toBitVec.smod 64#64).toNat = k := h1 k hk
  have h2 : n / 2 ^ k ≤ n := Nat.div_le_self _ _
  apply Int64.toInt_inj.mp
  rw [pk_lT (by omega)]
  show ((lN n).toBitVec.sshiftRight' ((lN k).toBitVec.smod 64#64)).toInt = _
  rw [BitVec.sshiftRight_eq', BitVec.toInt_sshiftRight, hd]
  have h3 : (lN n).toBitVec.toInt = (n : Int) := pk_lT (by omega)
  rw [h3]
  exact Int.natCast_shiftRight n k ▸ (by rw [Nat.shiftRight_eq_div_pow])
-- bytes side by side
def mkM (m : Nat) : Nat → Nat
  | 0 => 0
  | k + 1 => 256 * mkM m k + m
def nbB : (Nat → Nat) → Nat → Nat
  | _, 0 => 0
  | v, k + 1 => 256 * nbB (fun i => v (i + 1)) k + v 0
theorem and_split {q v M m : Nat} (hv : v < 256) (hm : m < 256) : (256 * q + v) &&& (256 * M + m) = 256 * (q &&& M) + (v &&& m) := by
  have hvm : v &&& m < 256 := Nat.and_lt_two_pow (n := 8) v hm
  apply Nat.eq_of_testBit_eq
  intro i
  rw [Nat.testBit_and, Nat.testBit_two_pow_mul_add (i := 8) q hv, Nat.testBit_two_pow_mul_add (i := 8) M hm, Nat.testBit_two_pow_mul_add (i := 8) (q &&& M) hvm]
  by_cases h : i < 8
  · rw [if_pos h, if_pos h, if_pos h, Nat.testBit_and]
  · rw [if_neg h, if_neg h, if_neg h, Nat.testBit_and]
theorem t1_fin : allB 256 (fun v => allB 2 (fun r => decide ((128 * r + v / 2) &&& 85 = (v / 2) &&& 85 ∧ (v / 2) &&& 85 ≤ v))) = true := by decide +kernel
theorem s1_B : ∀ k K v, k ≤ K → (∀ i, v i < 256) → nbB v k - ((nbB v k / 2) &&& mkM 85 K) = nbB (fun i => v i - ((v i / 2) &&& 85)) k := by
  intro k
  induction k with
  | zero => intro K v _ _; simp [nbB]
  | succ k ih =>
    intro K v hK hv
    obtain ⟨K, rfl⟩ : ∃ K', K = K' + 1 := ⟨K - 1, by omega⟩
    have i1 := ih K (fun i => v (i + 1)) (by omega) (fun i => hv (i + 1))
    rw [nbB, nbB, mkM]
    generalize hq : nbB (fun i => v (i + 1)) k = q at i1 ⊢
    have h0 := hv 0
    obtain ⟨f1, f2⟩ := of_decide_eq_true (allB_at (allB_at t1_fin h0) (k := q % 2) (by omega))
    have hle : (q / 2) &&& mkM 85 K ≤ q := Nat.le_trans Nat.and_le_left (Nat.div_le_self _ _)
    have e : (256 * q + v 0) / 2 = 256 * (q / 2) + (128 * (q % 2) + v 0 / 2) := by omega
    rw [e, and_split (by omega) (by omega), f1, ← i1]
    omega
theorem t2_fin : allB 256 (fun v => allB 4 (fun r => decide ((64 * r + v / 4) &&& 51 = (v / 4) &&& 51 ∧ (v &&& 51) + ((v / 4) &&& 51) < 256))) = true := by decide +kernel
theorem s2_B : ∀ k K v, k ≤ K → (∀ i, v i < 256) → (nbB v k &&& mkM 51 K) + ((nbB v k / 4) &&& mkM 51 K) = nbB (fun i => (v i &&& 51) + ((v i / 4) &&& 51)) k := by
  intro k
  induction k with
  | zero => intro K v _ _; simp [nbB]
  | succ k ih =>
    intro K v hK hv
    obtain ⟨K, rfl⟩ : ∃ K', K = K' + 1 := ⟨K - 1, by omega⟩
    have i1 := ih K (fun i => v (i + 1)) (by omega) (fun i => hv (i + 1))
    rw [nbB, nbB, mkM]
    generalize hq : nbB (fun i => v (i + 1)) k = q at i1 ⊢
    have h0 := hv 0
    obtain ⟨f1, f2⟩ := of_decide_eq_true (allB_at (allB_at t2_fin h0) (k := q % 4) (by omega))
    have e : (256 * q + v 0) / 4 = 256 * (q / 4) + (64 * (q % 4) + v 0 / 4) := by omega
    rw [e, and_split h0 (by omega), and_split (by omega) (by omega), f1, ← i1]
    omega
theorem t3_fin : allB 256 (fun v => allB 5 (fun r => decide (4 < v % 16 ∨ 4 < v / 16 ∨ ((16 * r + v + v / 16) &&& 15 = (v + v / 16) &&& 15 ∧ 16 * r + v + v / 16 < 256 ∧ (v + v / 16) &&& 15 < 256)))) = true := by decide +kernel
theorem nbB_16 {v : Nat → Nat} {k : Nat} (h : ∀ i, v i % 16 ≤ 4) : nbB v k % 16 ≤ 4 := by
  cases k with
  | zero => simp [nbB]
  | succ k => rw [nbB]; have := h 0; omega
theorem s3_B : ∀ k K v, k ≤ K → (∀ i, v i < 256 ∧ v i % 16 ≤ 4 ∧ v i / 16 ≤ 4) → ((nbB v k + nbB v k / 16) &&& mkM 15 K) = nbB (fun i => (v i + v i / 16) &&& 15) k := by
  intro k
  induction k with
  | zero => intro K v _ _; simp [nbB]
  | succ k ih =>
    intro K v hK hv
    obtain ⟨K, rfl⟩ : ∃ K', K = K' + 1 := ⟨K - 1, by omega⟩
    have i1 := ih K (fun i => v (i + 1)) (by omega) (fun i => hv (i + 1))
    have h16 := nbB_16 (v := fun i => v (i + 1)) (k := k) (fun i => (hv (i + 1)).2.1)
    rw [nbB, nbB, mkM]
    generalize hq : nbB (fun i => v (i + 1)) k = q at i1 h16 ⊢
    obtain ⟨h0, h1, h2⟩ := hv 0
    have ff := of_decide_eq_true (allB_at (allB_at t3_fin h0) (k := q % 16) (by omega))
    have fv := (ff.resolve_left (by omega)).resolve_left (by omega)
    have e : 256 * q + v 0 + (256 * q + v 0) / 16 = 256 * (q + q / 16) + (16 * (q % 16) + v 0 + v 0 / 16) := by omega
    rw [e, and_split fv.2.1 (by omega), fv.1, i1]
/-- how many bits of a byte are set, by the three stages -/
def pc8 (v : Nat) : Nat := ((((v - ((v / 2) &&& 85)) &&& 51) + (((v - ((v / 2) &&& 85)) / 4) &&& 51)) + (((v - ((v / 2) &&& 85)) &&& 51) + (((v - ((v / 2) &&& 85)) / 4) &&& 51)) / 16) &&& 15
theorem pc8_fin : allB 256 (fun v => decide (pc8 v = cntB (fun l => v.testBit l) 8 ∧ v - ((v / 2) &&& 85) < 256 ∧ ((v - ((v / 2) &&& 85)) &&& 51) + (((v - ((v / 2) &&& 85)) / 4) &&& 51) < 256 ∧ (((v - ((v / 2) &&& 85)) &&& 51) + (((v - ((v / 2) &&& 85)) / 4) &&& 51)) % 16 ≤ 4 ∧ (((v - ((v / 2) &&& 85)) &&& 51) + (((v - ((v / 2) &&& 85)) / 4) &&& 51)) / 16 ≤ 4 ∧ pc8 v ≤ 8)) = true := by decide +kernel
theorem cntB_split {p : Nat → Bool} {m : Nat} : ∀ {n : Nat}, cntB p (m + n) = cntB p m + cntB (fun k => p (m + k)) n
  | 0 => rfl
  | n + 1 => by
    have e1 : cntB p (m + (n + 1)) = cntB p (m + n) + (if p (m + n) = true then 1 else 0) := rfl
    have e2 : cntB (fun k => p (m + k)) (n + 1) = cntB (fun k => p (m + k)) n + (if p (m + n) = true then 1 else 0) := rfl
    rw [e1, e2, cntB_split (n := n), Nat.add_assoc]
theorem cntB_congr {p q : Nat → Bool} : ∀ {n : Nat}, (∀ k, k < n → p k = q k) → cntB p n = cntB q n
  | 0, _ => rfl
  | n + 1, h => by rw [cntB, cntB, cntB_congr (fun k hk => h k (by omega)), h n (by omega)]
theorem nbB_5 {n : Nat} (hn : n < 1099511627776) : nbB (fun i => n / 256 ^ i % 256) 5 = n := by
  simp only [nbB]
  simp only [Nat.zero_add, Nat.reduceAdd, Nat.reducePow, Nat.pow_zero, Nat.pow_one, Nat.div_one]
  omega
theorem cntB_5 {n : Nat} : cntB (fun l => n.testBit l) 40 = pc8 (n % 256) + pc8 (n / 256 % 256) + pc8 (n / 65536 % 256) + pc8 (n / 16777216 % 256) + pc8 (n / 4294967296 % 256) := by
  have hb : ∀ (j k : Nat), cntB (fun l => n.testBit (j + l)) 8 = pc8 (n / 2 ^ j % 256) := by
    intro j _
    have hlt : n / 2 ^ j % 256 < 256 := Nat.mod_lt _ (by decide)
    rw [(of_decide_eq_true (allB_at pc8_fin hlt)).1]
    refine cntB_congr (fun l hl => ?_)
    rw [show (256 : Nat) = 2 ^ 8 from rfl, Nat.testBit_mod_two_pow, Nat.testBit_div_two_pow]
    simp [hl]
    rw [Nat.add_comm]
  rw [show (40 : Nat) = 8 + (8 + (8 + (8 + 8))) from rfl, cntB_split, cntB_split, cntB_split, cntB_split]
  have h0 := hb 0 0
  have h1 := hb 8 0
  have h2 := hb 16 0
  have h3 := hb 24 0
  have h4 := hb 32 0
  simp only [Nat.zero_add] at h0
  have e1 : cntB (fun k => n.testBit (8 + (8 + k))) 8 = pc8 (n / 2 ^ 16 % 256) := by rw [← h2]; exact cntB_congr (fun k _ => by rw [show 8 + (8 + k) = 16 + k by omega])
  have e2 : cntB (fun k => n.testBit (8 + (8 + (8 + k)))) 8 = pc8 (n / 2 ^ 24 % 256) := by rw [← h3]; exact cntB_congr (fun k _ => by rw [show 8 + (8 + (8 + k)) = 24 + k by omega])
  have e3 : cntB (fun k => n.testBit (8 + (8 + (8 + (8 + k))))) 8 = pc8 (n / 2 ^ 32 % 256) := by rw [← h4]; exact cntB_congr (fun k _ => by rw [show 8 + (8 + (8 + (8 + k))) = 32 + k by omega])
  rw [h0, h1, e1, e2, e3]
  simp only [Nat.pow_zero, Nat.div_one, Nat.reducePow]
  omega
theorem swar {p0 p1 p2 p3 p4 E : Nat} (h0 : p0 ≤ 8) (h1 : p1 ≤ 8) (h2 : p2 ≤ 8) (h3 : p3 ≤ 8) (h4 : p4 ≤ 8) (hE : p0 + 256 * p1 + 65536 * p2 + 16777216 * p3 + 4294967296 * p4 = E) : (E + E / 256 + (E + E / 256) / 65536 + (E + E / 256 + (E + E / 256) / 65536) / 4294967296) % 128 = p0 + p1 + p2 + p3 + p4 := by
  have e1 : E / 256 = p1 + 256 * p2 + 65536 * p3 + 16777216 * p4 := by omega
  rw [e1]
  have e2 : (E + (p1 + 256 * p2 + 65536 * p3 + 16777216 * p4)) / 65536 = (p2 + p3) + 256 * (p3 + p4) + 65536 * p4 := by omega
  rw [e2]
  have e3 : (E + (p1 + 256 * p2 + 65536 * p3 + 16777216 * p4) + ((p2 + p3) + 256 * (p3 + p4) + 65536 * p4)) / 4294967296 = p4 := by omega
  rw [e3]
  omega
theorem x_bitCountL {F : Nat} {x : HT} {n : Nat} (hn : n < 1099511627776) : fJ13_bitCount_95d88 F x (lN n) = some (nI (cntB (fun l => n.testBit l) 40), x) := by
  have hv : ∀ i, (fun i => n / 256 ^ i % 256) i < 256 := fun i => Nat.mod_lt _ (by decide)
  have hf := fun i => of_decide_eq_true (allB_at pc8_fin (hv i))
  have a1 := s1_B 5 8 (fun i => n / 256 ^ i % 256) (by omega) hv
  have a2 := s2_B 5 8 (fun i => (n / 256 ^ i % 256) - (((n / 256 ^ i % 256) / 2) &&& 85)) (by omega) (fun i => (hf i).2.1)
  have a3 := s3_B 5 8 (fun i => (((n / 256 ^ i % 256) - (((n / 256 ^ i % 256) / 2) &&& 85)) &&& 51) + ((((n / 256 ^ i % 256) - (((n / 256 ^ i % 256) / 2) &&& 85)) / 4) &&& 51)) (by omega) (fun i => ⟨(hf i).2.2.1, (hf i).2.2.2.1, (hf i).2.2.2.2.1⟩)
  rw [nbB_5 hn] at a1
  have m1 : mkM 85 8 = 6148914691236517205 := by decide
  have m2 : mkM 51 8 = 3689348814741910323 := by decide
  have m3 : mkM 15 8 = 1085102592571150095 := by decide
  rw [m1] at a1
  rw [m2] at a2
  rw [m3] at a3
  rw [← a1] at a2
  rw [← a2] at a3
  have hp : nbB (fun i => pc8 (n / 256 ^ i % 256)) 5 = pc8 (n % 256) + 256 * pc8 (n / 256 % 256) + 65536 * pc8 (n / 65536 % 256) + 16777216 * pc8 (n / 16777216 % 256) + 4294967296 * pc8 (n / 4294967296 % 256) := by
    simp only [nbB]
    simp only [Nat.zero_add, Nat.reduceAdd, Nat.reducePow, Nat.pow_zero, Nat.pow_one, Nat.div_one]
    omega
  have a4 : ((n - ((n / 2) &&& 6148914691236517205)) &&& 3689348814741910323) + (((n - ((n / 2) &&& 6148914691236517205)) / 4) &&& 3689348814741910323) + (((n - ((n / 2) &&& 6148914691236517205)) &&& 3689348814741910323) + (((n - ((n / 2) &&& 6148914691236517205)) / 4) &&& 3689348814741910323)) / 16 &&& 1085102592571150095 = nbB (fun i => pc8 (n / 256 ^ i % 256)) 5 := a3
  rw [hp] at a4
  have q0 := (of_decide_eq_true (allB_at pc8_fin (k := n % 256) (Nat.mod_lt _ (by decide)))).2.2.2.2.2
  have q1 := (of_decide_eq_true (allB_at pc8_fin (k := n / 256 % 256) (Nat.mod_lt _ (by decide)))).2.2.2.2.2
  have q2 := (of_decide_eq_true (allB_at pc8_fin (k := n / 65536 % 256) (Nat.mod_lt _ (by decide)))).2.2.2.2.2
  have q3 := (of_decide_eq_true (allB_at pc8_fin (k := n / 16777216 % 256) (Nat.mod_lt _ (by decide)))).2.2.2.2.2
  have q4 := (of_decide_eq_true (allB_at pc8_fin (k := n / 4294967296 % 256) (Nat.mod_lt _ (by decide)))).2.2.2.2.2
  rw [cntB_5]
  generalize pc8 (n % 256) = p0 at *
  generalize pc8 (n / 256 % 256) = p1 at *
  generalize pc8 (n / 65536 % 256) = p2 at *
  generalize pc8 (n / 16777216 % 256) = p3 at *
  generalize pc8 (n / 4294967296 % 256) = p4 at *
  have hle1 : (n / 2) &&& 6148914691236517205 ≤ n / 2 := Nat.and_le_left
  generalize hA : (n / 2) &&& 6148914691236517205 = A at *
  have hle2 : (n - A) &&& 3689348814741910323 ≤ n - A := Nat.and_le_left
  have hle3 : ((n - A) / 4) &&& 3689348814741910323 ≤ (n - A) / 4 := Nat.and_le_left
  generalize hB : (n - A) &&& 3689348814741910323 = B at *
  generalize hC : ((n - A) / 4) &&& 3689348814741910323 = C at *
  have k1 : (6148914691236517205 : Int64) = lN 6148914691236517205 := rfl
  have k2 : (3689348814741910323 : Int64) = lN 3689348814741910323 := rfl
  have k3 : (1085102592571150095 : Int64) = lN 1085102592571150095 := rfl
  have p21 : (2 : Nat) ^ 1 = 2 := rfl
  have p22 : (2 : Nat) ^ 2 = 4 := rfl
  have p24 : (2 : Nat) ^ 4 = 16 := rfl
  have p28 : (2 : Nat) ^ 8 = 256 := rfl
  have p216 : (2 : Nat) ^ 16 = 65536 := rfl
  have p232 : (2 : Nat) ^ 32 = 4294967296 := rfl
  unfold fJ13_bitCount_95d88
  rw [lts, lts, lts, lts, lts, lts, n1, n2, n4, n8, show (16 : Int32) = nI 16 from rfl, show (32 : Int32) = nI 32 from rfl, k1, k2, k3]
  rw [ushr_lN (by omega) (by omega), p21, and_lN, hA, lN_sub (by omega), and_lN, hB, ushr_lN (by omega) (by omega), p22, and_lN, hC, lN_add]
  rw [ushr_lN (by omega) (by omega), p24, lN_add, and_lN, a4]
  generalize hE : p0 + 256 * p1 + 65536 * p2 + 16777216 * p3 + 4294967296 * p4 = E
  rw [ushr_lN (by omega) (by omega), p28, lN_add]
  rw [ushr_lN (by omega) (by omega), p216, lN_add]
  rw [ushr_lN (by omega) (by omega), p232, lN_add, lN_i]
  have hfin : nI (E + E / 256 + (E + E / 256) / 65536 + (E + E / 256 + (E + E / 256) / 65536) / 4294967296) &&& (127 : Int32) = nI ((E + E / 256 + (E + E / 256) / 65536 + (E + E / 256 + (E + E / 256) / 65536) / 4294967296) % 128) := by
    have e1 : ∀ z : Nat, nI z &&& (127 : Int32) = nI (z % 128) := by
      intro z
      apply Int32.toBitVec_inj.1
      show BitVec.ofNat 32 z &&& BitVec.ofNat 32 127 = BitVec.ofNat 32 (z % 128)
      apply BitVec.eq_of_toNat_eq
      rw [BitVec.toNat_and, BitVec.toNat_ofNat, BitVec.toNat_ofNat, BitVec.toNat_ofNat]
      have : z % 2 ^ 32 &&& 127 % 2 ^ 32 = z % 2 ^ 32 % 2 ^ 7 := Nat.and_two_pow_sub_one_eq_mod (z % 2 ^ 32) 7
      rw [this]
      omega
    exact e1 _
  rw [hfin, show (E + E / 256 + (E + E / 256) / 65536 + (E + E / 256 + (E + E / 256) / 65536) / 4294967296) % 128 = p0 + p1 + p2 + p3 + p4 from swar q0 q1 q2 q3 q4 hE]
def bcI (a0 : Int32) : Int32 := match fJ6_bitCount_0f7a4 0 (fun _ _ => 0, fun _ _ => 0) a0 with
  | some q => q.1
  | none => 0
theorem bcI_fin : allB 16 (fun n => decide (bcI (nI n) = nI (cntB (fun l => n.testBit l) 4))) = true := by decide +kernel
theorem x_bitCountI {F : Nat} {x : HT} {n : Nat} (hn : n < 16) : fJ6_bitCount_0f7a4 F x (nI n) = some (nI (cntB (fun l => n.testBit l) 4), x) := by
  have e := of_decide_eq_true (allB_at bcI_fin hn)
  have e2 : fJ6_bitCount_0f7a4 F x (nI n) = some (bcI (nI n), x) := rfl
  rw [e2, e]
