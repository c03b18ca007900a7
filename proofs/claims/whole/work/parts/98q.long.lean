/-! ===== how many bits a long has ===== -/
def m55 : Nat → Nat
  | 0 => 0
  | j + 1 => 85 + 256 * m55 j
def m33 : Nat → Nat
  | 0 => 0
  | j + 1 => 51 + 256 * m33 j
def m0f : Nat → Nat
  | 0 => 0
  | j + 1 => 15 + 256 * m0f j
def g1 (j n : Nat) : Nat := n - (n / 2 &&& m55 j)
def g2 (j n : Nat) : Nat := (n &&& m33 j) + (n / 4 &&& m33 j)
def g3 (j n : Nat) : Nat := n + n / 16 &&& m0f j
def b2 (b : Nat) : Nat := (b - (b / 2 &&& 85) &&& 51) + ((b - (b / 2 &&& 85)) / 4 &&& 51)
theorem and_cons {a b X Y : Nat} (ha : a < 256) (hb : b < 256) : (a + 256 * X) &&& (b + 256 * Y) = (a &&& b) + 256 * (X &&& Y) := by
  have h1 : ((a + 256 * X) &&& (b + 256 * Y)) % 2 ^ 8 = a &&& b := by
    rw [Nat.and_mod_two_pow, show (a + 256 * X) % 2 ^ 8 = a by omega, show (b + 256 * Y) % 2 ^ 8 = b by omega]
  have h2 : ((a + 256 * X) &&& (b + 256 * Y)) / 2 ^ 8 = X &&& Y := by
    rw [Nat.and_div_two_pow, show (a + 256 * X) / 2 ^ 8 = X by omega, show (b + 256 * Y) / 2 ^ 8 = Y by omega]
  omega
def chkA : Bool := chk2 (fun b => (List.range 2).all fun e => decide ((b / 2 + 128 * e) &&& 85 = b / 2 &&& 85)) 8 0
def chkB : Bool := chk2 (fun b => (List.range 4).all fun e => decide ((b / 4 + 64 * e) &&& 51 = b / 4 &&& 51)) 8 0
def chkC : Bool := chk2 (fun b => decide (b2 b < 256 ∧ b2 b % 16 ≤ 4 ∧ b2 b / 16 ≤ 4 ∧ (b / 2 &&& 85) ≤ b) && ((List.range 5).all fun e => decide ((b2 b + b2 b / 16 + 16 * e) &&& 15 = bsum b 8))) 8 0
theorem chkA_t : chkA = true := by decide +kernel
theorem chkB_t : chkB = true := by decide +kernel
theorem chkC_t : chkC = true := by decide +kernel
theorem hA {b e : Nat} (hb : b < 256) (he : e < 2) : (b / 2 + 128 * e) &&& 85 = b / 2 &&& 85 := by
  have := chk2_all chkA_t b (Nat.zero_le _) (by omega)
  exact of_decide_eq_true (List.all_eq_true.mp this e (List.mem_range.mpr he))
theorem hB {b e : Nat} (hb : b < 256) (he : e < 4) : (b / 4 + 64 * e) &&& 51 = b / 4 &&& 51 := by
  have := chk2_all chkB_t b (Nat.zero_le _) (by omega)
  exact of_decide_eq_true (List.all_eq_true.mp this e (List.mem_range.mpr he))
theorem hC {b : Nat} (hb : b < 256) : (b2 b < 256 ∧ b2 b % 16 ≤ 4 ∧ b2 b / 16 ≤ 4 ∧ (b / 2 &&& 85) ≤ b) ∧ ∀ e, e < 5 → (b2 b + b2 b / 16 + 16 * e) &&& 15 = bsum b 8 := by
  have := chk2_all chkC_t b (Nat.zero_le _) (by omega)
  rw [Bool.and_eq_true, decide_eq_true_iff] at this
  exact ⟨this.1, fun e he => of_decide_eq_true (List.all_eq_true.mp this.2 e (List.mem_range.mpr he))⟩
theorem g1_cons {j b X : Nat} (hb : b < 256) : g1 (j + 1) (b + 256 * X) = (b - (b / 2 &&& 85)) + 256 * g1 j X := by
  unfold g1
  have e1 : (b + 256 * X) / 2 = (b / 2 + 128 * (X % 2)) + 256 * (X / 2) := by omega
  rw [e1]
  show b + 256 * X - ((b / 2 + 128 * (X % 2)) + 256 * (X / 2) &&& 85 + 256 * m55 j) = _
  rw [and_cons (by omega) (by decide), hA hb (Nat.mod_lt _ (by decide))]
  have h1 := (hC hb).1.2.2.2
  have h2 : (X / 2 &&& m55 j) ≤ X / 2 := Nat.and_le_left
  omega
theorem g2_cons {j c Y : Nat} (hc : c < 256) : g2 (j + 1) (c + 256 * Y) = ((c &&& 51) + (c / 4 &&& 51)) + 256 * g2 j Y := by
  unfold g2
  have e1 : (c + 256 * Y) / 4 = (c / 4 + 64 * (Y % 4)) + 256 * (Y / 4) := by omega
  rw [e1]
  show (c + 256 * Y &&& 51 + 256 * m33 j) + ((c / 4 + 64 * (Y % 4)) + 256 * (Y / 4) &&& 51 + 256 * m33 j) = _
  rw [and_cons hc (by decide), and_cons (by omega) (by decide), hB hc (Nat.mod_lt _ (by decide))]
  omega
theorem g12_cons {j b X : Nat} (hb : b < 256) : g2 (j + 1) (g1 (j + 1) (b + 256 * X)) = b2 b + 256 * g2 j (g1 j X) := by
  rw [g1_cons hb, g2_cons (by omega)]
  rfl
theorem g12_nib (j X : Nat) : g2 j (g1 j X) % 16 ≤ 4 := by
  cases j with
  | zero => unfold g2 m33; simp
  | succ j =>
    have e : X = X % 256 + 256 * (X / 256) := by omega
    rw [e, g12_cons (Nat.mod_lt _ (by decide))]
    have := (hC (b := X % 256) (Nat.mod_lt _ (by decide))).1.2.1
    omega
/-- the bytes' bits, byte by byte -/
def PB : Nat → Nat → Nat
  | 0, _ => 0
  | j + 1, X => bsum (X % 256) 8 + 256 * PB j (X / 256)
theorem g3_PB : ∀ (j X : Nat), g3 j (g2 j (g1 j X)) = PB j X
  | 0, X => by unfold g3 m0f PB; simp
  | j + 1, X => by
    have e : X = X % 256 + 256 * (X / 256) := by omega
    have hb : X % 256 < 256 := Nat.mod_lt _ (by decide)
    have ih := g3_PB j (X / 256)
    have hn := g12_nib j (X / 256)
    show g3 (j + 1) (g2 (j + 1) (g1 (j + 1) X)) = bsum (X % 256) 8 + 256 * PB j (X / 256)
    rw [← ih]
    have e2 : g2 (j + 1) (g1 (j + 1) X) = b2 (X % 256) + 256 * g2 j (g1 j (X / 256)) := by
      have := g12_cons (j := j) (b := X % 256) (X := X / 256) hb
      rw [← e] at this
      exact this
    rw [e2]
    generalize g2 j (g1 j (X / 256)) = Z at *
    obtain ⟨⟨c1, c2, c3, -⟩, c4⟩ := hC hb
    unfold g3
    have e3 : b2 (X % 256) + 256 * Z + (b2 (X % 256) + 256 * Z) / 16 = (b2 (X % 256) + b2 (X % 256) / 16 + 16 * (Z % 16)) + 256 * (Z + Z / 16) := by omega
    rw [e3]
    show ((b2 (X % 256) + b2 (X % 256) / 16 + 16 * (Z % 16)) + 256 * (Z + Z / 16) &&& 15 + 256 * m0f j) = _
    rw [and_cons (by omega) (by decide), c4 (Z % 16) (by omega)]
theorem cnt_add {p : Nat → Bool} (a : Nat) : ∀ b, cnt p (a + b) = cnt p a + cnt (fun x => p (x + a)) b
  | 0 => rfl
  | b + 1 => by
    have e : p (a + b) = p (b + a) := by rw [Nat.add_comm]
    show cnt p (a + b) + (if p (a + b) = true then 1 else 0) = cnt p a + (cnt (fun x => p (x + a)) b + (if p (b + a) = true then 1 else 0))
    rw [cnt_add a b, e]
    omega
theorem cnt_byte (n b : Nat) : cnt (fun x => n.testBit x) (8 + b) = bsum (n % 256) 8 + cnt (fun x => (n / 256).testBit x) b := by
  rw [cnt_add, bsum_cnt]
  have e1 : cnt (fun x => n.testBit x) 8 = cnt (fun x => (n % 256).testBit x) 8 := cnt_cong (fun i hi => by
    rw [show (256 : Nat) = 2 ^ 8 from rfl, Nat.testBit_mod_two_pow, decide_eq_true hi, Bool.true_and])
  have e2 : cnt (fun x => n.testBit (x + 8)) b = cnt (fun x => (n / 256).testBit x) b := cnt_cong (fun i hi => by
    rw [show (256 : Nat) = 2 ^ 8 from rfl, Nat.testBit_div_two_pow])
  rw [e1, e2]
theorem PB_sum {n : Nat} (hn : n < 2 ^ 40) : ∃ p0 p1 p2 p3 p4, p0 ≤ 8 ∧ p1 ≤ 8 ∧ p2 ≤ 8 ∧ p3 ≤ 8 ∧ p4 ≤ 8 ∧ PB 8 n = p0 + 256 * p1 + 65536 * p2 + 16777216 * p3 + 4294967296 * p4 ∧ cnt (fun x => n.testBit x) 40 = p0 + p1 + p2 + p3 + p4 := by
  refine ⟨bsum (n % 256) 8, bsum (n / 256 % 256) 8, bsum (n / 256 / 256 % 256) 8, bsum (n / 256 / 256 / 256 % 256) 8, bsum (n / 256 / 256 / 256 / 256 % 256) 8, bsum_le _ _, bsum_le _ _, bsum_le _ _, bsum_le _ _, bsum_le _ _, ?_, ?_⟩
  · unfold PB PB PB PB PB PB PB PB PB
    rw [show n / 256 / 256 / 256 / 256 / 256 = 0 by omega]
    rw [show bsum (0 % 256) 8 = 0 from rfl]
    omega
  · have h1 := cnt_byte n 32
    have h2 := cnt_byte (n / 256) 24
    have h3 := cnt_byte (n / 256 / 256) 16
    have h4 := cnt_byte (n / 256 / 256 / 256) 8
    have h5 := cnt_byte (n / 256 / 256 / 256 / 256) 0
    have h6 : cnt (fun x => (n / 256 / 256 / 256 / 256 / 256).testBit x) 0 = 0 := rfl
    simp only [show 8 + 32 = 40 from rfl, show 8 + 24 = 32 from rfl, show 8 + 16 = 24 from rfl, show 8 + 8 = 16 from rfl, show 8 + 0 = 8 from rfl] at h1 h2 h3 h4 h5
    omega
/-! longs -/
theorem lN_and (a b : Nat) : lN a &&& lN b = lN (a &&& b) := Int64.toBitVec_inj.mp (by simp [lN, BitVec.ofNat_and])
theorem lN_or (a b : Nat) : lN a ||| lN b = lN (a ||| b) := Int64.toBitVec_inj.mp (by simp [lN, BitVec.ofNat_or])
theorem lN_shr {n k : Nat} (hn : n < 2 ^ 64) (hk : k = 1 ∨ k = 2 ∨ k = 4 ∨ k = 8 ∨ k = 16 ∨ k = 32) : (Int64.toUInt64 (lN n) >>> (Int64.toUInt64 (Int32.toInt64 (nI k)) &&& Int64.toUInt64 63)).toInt64 = lN (n / 2 ^ k) := by
  apply Int64.toBitVec_inj.mp
  have e1 : (Int64.toUInt64 (lN n)).toBitVec = BitVec.ofNat 64 n := rfl
  have e2 : ((Int64.toUInt64 (Int32.toInt64 (nI k)) &&& Int64.toUInt64 63).toBitVec % 64).toNat = k := by
    rcases hk with rfl | rfl | rfl | rfl | rfl | rfl <;> decide
  have e3 : ((Int64.toUInt64 (lN n) >>> (Int64.toUInt64 (Int32.toInt64 (nI k)) &&& Int64.toUInt64 63)).toInt64).toBitVec = (Int64.toUInt64 (lN n)).toBitVec >>> ((Int64.toUInt64 (Int32.toInt64 (nI k)) &&& Int64.toUInt64 63).toBitVec % 64) := by
    show (Int64.toUInt64 (lN n) >>> (Int64.toUInt64 (Int32.toInt64 (nI k)) &&& Int64.toUInt64 63)).toBitVec = _
    rw [UInt64.toBitVec_shiftRight]
  rw [e3, e1]
  apply BitVec.eq_of_toNat_eq
  rw [BitVec.ushiftRight_eq', BitVec.toNat_ushiftRight, e2]
  show (BitVec.ofNat 64 n).toNat >>> k = (BitVec.ofNat 64 (n / 2 ^ k)).toNat
  have h2 : n / 2 ^ k ≤ n := Nat.div_le_self _ _
  rw [BitVec.toNat_ofNat, BitVec.toNat_ofNat, Nat.mod_eq_of_lt hn, Nat.mod_eq_of_lt (by omega), Nat.shiftRight_eq_div_pow]
theorem lbc_eq {n : Nat} (hn : n < 2 ^ 40) : j_Long_bitCount (lN n) = some (nI (cnt (fun x => n.testBit x) 40)) := by
  obtain ⟨p0, p1, p2, p3, p4, h0, h1, h2, h3, h4, h5, h6⟩ := PB_sum hn
  have hM1 : (6148914691236517205 : Int64) = lN (m55 8) := by decide
  have hM2 : (3689348814741910323 : Int64) = lN (m33 8) := by decide
  have hM4 : (1085102592571150095 : Int64) = lN (m0f 8) := by decide
  have s1 : (Int64.toUInt64 (lN n) >>> (Int64.toUInt64 (Int32.toInt64 (1 : Int32)) &&& Int64.toUInt64 63)).toInt64 = lN (n / 2) := lN_shr (k := 1) (by omega) (Or.inl rfl)
  have hle1 : (n / 2 &&& m55 8) ≤ n := Nat.le_trans Nat.and_le_left (Nat.div_le_self _ _)
  have t1 : lN n - ((Int64.toUInt64 (lN n) >>> (Int64.toUInt64 (Int32.toInt64 (1 : Int32)) &&& Int64.toUInt64 63)).toInt64 &&& (6148914691236517205 : Int64)) = lN (g1 8 n) := by
    rw [s1, hM1, lN_and, lN_sub hle1]
    rfl
  have b1 : g1 8 n ≤ n := Nat.sub_le _ _
  have s2 : (Int64.toUInt64 (lN (g1 8 n)) >>> (Int64.toUInt64 (Int32.toInt64 (2 : Int32)) &&& Int64.toUInt64 63)).toInt64 = lN (g1 8 n / 4) := lN_shr (k := 2) (by omega) (Or.inr (Or.inl rfl))
  have t2 : (lN (g1 8 n) &&& (3689348814741910323 : Int64)) + ((Int64.toUInt64 (lN (g1 8 n)) >>> (Int64.toUInt64 (Int32.toInt64 (2 : Int32)) &&& Int64.toUInt64 63)).toInt64 &&& (3689348814741910323 : Int64)) = lN (g2 8 (g1 8 n)) := by
    rw [s2, hM2, lN_and, lN_and, lN_add]
    rfl
  have b2' : g2 8 (g1 8 n) ≤ 2 * n := by
    unfold g2
    have a1 : (g1 8 n &&& m33 8) ≤ g1 8 n := Nat.and_le_left
    have a2 : (g1 8 n / 4 &&& m33 8) ≤ g1 8 n / 4 := Nat.and_le_left
    omega
  have s3 : (Int64.toUInt64 (lN (g2 8 (g1 8 n))) >>> (Int64.toUInt64 (Int32.toInt64 (4 : Int32)) &&& Int64.toUInt64 63)).toInt64 = lN (g2 8 (g1 8 n) / 16) := lN_shr (k := 4) (by omega) (Or.inr (Or.inr (Or.inl rfl)))
  have t3 : (lN (g2 8 (g1 8 n)) + (Int64.toUInt64 (lN (g2 8 (g1 8 n))) >>> (Int64.toUInt64 (Int32.toInt64 (4 : Int32)) &&& Int64.toUInt64 63)).toInt64) &&& (1085102592571150095 : Int64) = lN (PB 8 n) := by
    rw [s3, hM4, lN_add, lN_and, ← g3_PB 8 n]
    rfl
  generalize PB 8 n = y at *
  have s4 : (Int64.toUInt64 (lN y) >>> (Int64.toUInt64 (Int32.toInt64 (8 : Int32)) &&& Int64.toUInt64 63)).toInt64 = lN (y / 256) := lN_shr (k := 8) (by omega) (Or.inr (Or.inr (Or.inr (Or.inl rfl))))
  have t4 : lN y + (Int64.toUInt64 (lN y) >>> (Int64.toUInt64 (Int32.toInt64 (8 : Int32)) &&& Int64.toUInt64 63)).toInt64 = lN (y + y / 256) := by rw [s4, lN_add]
  have s5 : (Int64.toUInt64 (lN (y + y / 256)) >>> (Int64.toUInt64 (Int32.toInt64 (16 : Int32)) &&& Int64.toUInt64 63)).toInt64 = lN ((y + y / 256) / 65536) := lN_shr (k := 16) (by omega) (Or.inr (Or.inr (Or.inr (Or.inr (Or.inl rfl)))))
  have t5 : lN (y + y / 256) + (Int64.toUInt64 (lN (y + y / 256)) >>> (Int64.toUInt64 (Int32.toInt64 (16 : Int32)) &&& Int64.toUInt64 63)).toInt64 = lN (y + y / 256 + (y + y / 256) / 65536) := by rw [s5, lN_add]
  have s6 : (Int64.toUInt64 (lN (y + y / 256 + (y + y / 256) / 65536)) >>> (Int64.toUInt64 (Int32.toInt64 (32 : Int32)) &&& Int64.toUInt64 63)).toInt64 = lN ((y + y / 256 + (y + y / 256) / 65536) / 4294967296) := lN_shr (k := 32) (by omega) (Or.inr (Or.inr (Or.inr (Or.inr (Or.inr rfl)))))
  have t6 : lN (y + y / 256 + (y + y / 256) / 65536) + (Int64.toUInt64 (lN (y + y / 256 + (y + y / 256) / 65536)) >>> (Int64.toUInt64 (Int32.toInt64 (32 : Int32)) &&& Int64.toUInt64 63)).toInt64 = lN (y + y / 256 + (y + y / 256) / 65536 + (y + y / 256 + (y + y / 256) / 65536) / 4294967296) := by rw [s6, lN_add]
  unfold j_Long_bitCount
  rw [t1, t2, t3, t4, t5, t6, lN_i]
  have e1 : y + y / 256 = (p0 + p1) + 256 * (p1 + p2) + 65536 * (p2 + p3) + 16777216 * (p3 + p4) + 4294967296 * p4 := by omega
  have e2 : (y + y / 256) / 65536 = (p2 + p3) + 256 * (p3 + p4) + 65536 * p4 := by omega
  have e3 : (y + y / 256 + (y + y / 256) / 65536) / 4294967296 = p4 := by omega
  have e4 : ∀ N : Nat, (nI N).toBitVec.toNat = N % 2 ^ 32 := fun N => by
    show (BitVec.ofNat 32 N).toNat = _
    rw [BitVec.toNat_ofNat]
  rw [pk_and _ (m := 127) 7 (by decide), e4, h6]
  congr 2
  omega
