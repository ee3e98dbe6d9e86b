/-! Numbers: what the operations are on small whole numbers. -/
theorem iN_nI (n : Nat) : iN (n : Int) = nI n := (ofNat_iN n).symm
theorem i32_nat {x : Int32} {k : Nat} (h : x.toBitVec.toNat = k) (hk : k < 2147483648) : x.toInt = (k : Int) := by
  show x.toBitVec.toInt = _
  rw [BitVec.toInt_eq_toNat_cond, h]
  simp
  omega
theorem i64_nat {x : Int64} {k : Nat} (h : x.toBitVec.toNat = k) (hk : k < 9223372036854775808) : x.toInt = (k : Int) := by
  show x.toBitVec.toInt = _
  rw [BitVec.toInt_eq_toNat_cond, h]
  simp
  omega
theorem iN_tn {n : Nat} (h : n < 2147483648) : (iN (n : Int)).toBitVec.toNat = n := by rw [iN_nI]; exact pk_tn (by omega)
theorem jN_tn {n : Nat} (h : n < 9223372036854775808) : (jN (n : Int)).toBitVec.toNat = n := by
  unfold jN
  rw [Int64.ofInt_eq_ofNat]
  show (Int64.ofNat n).toBitVec.toNat = n
  rw [Int64.toBitVec_ofNat', BitVec.toNat_ofNat]
  omega
theorem band_n {a b : Nat} (ha : a < 2147483648) (hb : b < 2147483648) : band (a : Int) (b : Int) = ((a &&& b : Nat) : Int) := by
  unfold band
  refine i32_nat ?_ (Nat.lt_of_le_of_lt Nat.and_le_left ha)
  rw [Int32.toBitVec_and, BitVec.toNat_and, iN_tn ha, iN_tn hb]
theorem bor_n {a b : Nat} (ha : a < 2147483648) (hb : b < 2147483648) : bor (a : Int) (b : Int) = ((a ||| b : Nat) : Int) := by
  unfold bor
  refine i32_nat ?_ (Nat.or_lt_two_pow (n := 31) ha hb)
  rw [Int32.toBitVec_or, BitVec.toNat_or, iN_tn ha, iN_tn hb]
theorem bxor_n {a b : Nat} (ha : a < 2147483648) (hb : b < 2147483648) : bxor (a : Int) (b : Int) = ((a ^^^ b : Nat) : Int) := by
  unfold bxor
  refine i32_nat ?_ (Nat.xor_lt_two_pow (n := 31) ha hb)
  rw [Int32.toBitVec_xor, BitVec.toNat_xor, iN_tn ha, iN_tn hb]
theorem bxor_m1 (a : Int) : bxor a (-1) = wr (-1 - a) := by
  unfold bxor wr
  congr 1
  apply Int32.toBitVec_inj.mp
  rw [Int32.toBitVec_xor]
  have h1 : (iN (-1)).toBitVec = BitVec.allOnes 32 := by decide
  rw [h1, BitVec.xor_allOnes, ← iN_sub, Int32.toBitVec_sub, h1]
  generalize (iN a).toBitVec = x
  apply BitVec.eq_of_toNat_eq
  rw [BitVec.toNat_not, BitVec.toNat_sub, BitVec.toNat_allOnes]
  have := x.isLt
  omega
theorem sh31 {b : Nat} (hb : b < 32) : (iN (b : Int) &&& 31) = iN (b : Int) := by
  apply Int32.toBitVec_inj.mp
  apply BitVec.eq_of_toNat_eq
  rw [Int32.toBitVec_and, BitVec.toNat_and, iN_tn (by omega), show (31 : Int32).toBitVec.toNat = 2 ^ 5 - 1 from rfl, Nat.and_two_pow_sub_one_eq_mod]
  omega
theorem smod32 {b : Nat} (hb : b < 32) : ((iN (b : Int)).toBitVec.smod 32).toNat = b := by
  have h : (iN (b : Int)).toBitVec = BitVec.ofNat 32 b := by
    apply BitVec.eq_of_toNat_eq
    rw [iN_tn (by omega), BitVec.toNat_ofNat]
    omega
  rw [h]
  revert b
  decide
theorem bshl_n {a b : Nat} (hb : b < 32) (h : a * 2 ^ b < 2147483648) : bshl (a : Int) (b : Int) = ((a * 2 ^ b : Nat) : Int) := by
  unfold bshl
  rw [sh31 hb, iN_nI a, pk_shlN (iN (b : Int)) b (smod32 hb) (by omega), ← iN_nI]
  exact wr_id (by omega) (by omega)
theorem bshr_n {a b : Nat} (hb : b < 32) (h : a < 2147483648) : bshr (a : Int) (b : Int) = ((a / 2 ^ b : Nat) : Int) := by
  unfold bshr
  rw [sh31 hb, iN_nI a, pk_shrN h (iN (b : Int)) b (smod32 hb), ← iN_nI]
  have hz : a / 2 ^ b ≤ a := Nat.div_le_self _ _
  generalize a / 2 ^ b = z at hz ⊢
  exact wr_id (by omega) (by omega)
theorem bdiv_n {a b : Nat} (ha : a < 2147483648) (h0 : 0 < b) (hb : b < 2147483648) : bdiv (a : Int) (b : Int) = ((a / b : Nat) : Int) := by
  unfold bdiv
  rw [iN_nI a, iN_nI b, pk_div ha h0 hb, ← iN_nI]
  have hz : a / b ≤ a := Nat.div_le_self _ _
  generalize a / b = z at hz ⊢
  exact wr_id (by omega) (by omega)
theorem brem_n {a b : Nat} (ha : a < 2147483648) (h0 : 0 < b) (hb : b < 2147483648) : brem (a : Int) (b : Int) = ((a % b : Nat) : Int) := by
  unfold brem
  rw [iN_nI a, iN_nI b, pk_rem ha h0 hb, ← iN_nI]
  have hz : a % b < b := Nat.mod_lt _ h0
  generalize a % b = z at hz ⊢
  exact wr_id (by omega) (by omega)
theorem brem_id {a b : Int} (ha : 0 ≤ a) (ha2 : a ≤ 2147483647) (hb : 0 < b) (hb2 : b ≤ 2147483647) : brem a b = a % b := by
  obtain ⟨m, rfl⟩ := Int.eq_ofNat_of_zero_le ha
  obtain ⟨k, rfl⟩ := Int.eq_ofNat_of_zero_le (Int.le_of_lt hb)
  rw [brem_n (by omega) (by omega) (by omega)]
  rfl
theorem bdiv_id {a b : Int} (ha : 0 ≤ a) (ha2 : a ≤ 2147483647) (hb : 0 < b) (hb2 : b ≤ 2147483647) : bdiv a b = a / b := by
  obtain ⟨m, rfl⟩ := Int.eq_ofNat_of_zero_le ha
  obtain ⟨k, rfl⟩ := Int.eq_ofNat_of_zero_le (Int.le_of_lt hb)
  rw [bdiv_n (by omega) (by omega) (by omega)]
  rfl
theorem sh63 {b : Nat} (hb : b < 64) : ((iN (b : Int)).toInt64 &&& 63) = jN (b : Int) := by
  rw [i2l_eq, wr_id (by omega) (by omega)]
  apply Int64.toBitVec_inj.mp
  apply BitVec.eq_of_toNat_eq
  rw [Int64.toBitVec_and, BitVec.toNat_and, jN_tn (by omega), show (63 : Int64).toBitVec.toNat = 2 ^ 6 - 1 from rfl, Nat.and_two_pow_sub_one_eq_mod]
  omega
theorem smod64 {b : Nat} (hb : b < 64) : ((jN (b : Int)).toBitVec.smod 64).toNat = b := by
  have h : (jN (b : Int)).toBitVec = BitVec.ofNat 64 b := by
    apply BitVec.eq_of_toNat_eq
    rw [jN_tn (by omega), BitVec.toNat_ofNat]
    omega
  rw [h]
  revert b
  decide
theorem lshl_n {a b : Nat} (hb : b < 64) (h : a * 2 ^ b < 9223372036854775808) : lshl (a : Int) (b : Int) = ((a * 2 ^ b : Nat) : Int) := by
  unfold lshl
  rw [sh63 hb]
  refine i64_nat ?_ h
  have ha : a < 9223372036854775808 := Nat.lt_of_le_of_lt (Nat.le_mul_of_pos_right a (Nat.two_pow_pos b)) h
  rw [Int64.toBitVec_shiftLeft, BitVec.shiftLeft_eq', smod64 hb, BitVec.toNat_shiftLeft, jN_tn ha, Nat.shiftLeft_eq]
  omega
theorem lshr_n {a b : Nat} (hb : b < 64) (h : a < 9223372036854775808) : lshr (a : Int) (b : Int) = ((a / 2 ^ b : Nat) : Int) := by
  unfold lshr
  rw [sh63 hb]
  have hle : a / 2 ^ b ≤ a := Nat.div_le_self _ _
  refine i64_nat ?_ (by omega)
  rw [Int64.toBitVec_shiftRight, BitVec.sshiftRight_eq', smod64 hb, BitVec.toNat_sshiftRight_of_msb_false, jN_tn h, Nat.shiftRight_eq_div_pow]
  rw [BitVec.msb_eq_decide, jN_tn h]
  simp
  omega
theorem land_n {a b : Nat} (ha : a < 9223372036854775808) (hb : b < 9223372036854775808) : land (a : Int) (b : Int) = ((a &&& b : Nat) : Int) := by
  unfold land
  refine i64_nat ?_ (Nat.lt_of_le_of_lt Nat.and_le_left ha)
  rw [Int64.toBitVec_and, BitVec.toNat_and, jN_tn ha, jN_tn hb]
theorem bcmp_wr (a b : Int) : wr (bcmp a b) = (lg_cmp (jN a) (jN b)).toInt := by
  unfold bcmp wr
  rw [iN_toInt]
theorem bcmp_eq0 {a b : Int} : wr (bcmp a b) = 0 ↔ wl a = wl b := by
  rw [bcmp_wr]
  unfold wl
  rw [Int64.toInt_inj]
  generalize jN a = x
  generalize jN b = y
  unfold lg_cmp
  by_cases h1 : x > y
  · rw [if_pos h1]
    have h2 : x ≠ y := by
      rintro rfl
      exact Int64.lt_irrefl h1
    exact ⟨fun h => by exact absurd h (by decide), fun h => absurd h h2⟩
  · rw [if_neg h1]
    by_cases h2 : x = y
    · rw [if_pos h2]
      exact ⟨fun _ => h2, fun _ => rfl⟩
    · rw [if_neg h2]
      exact ⟨fun h => absurd h (by decide), fun h => absurd h h2⟩
theorem bcmp_ge0 {a b : Int} : 0 ≤ wr (bcmp a b) ↔ wl b ≤ wl a := by
  rw [bcmp_wr]
  unfold wl
  rw [← Int64.le_iff_toInt_le, ← lg_cmp_ge]
  exact (Int32.le_iff_toInt_le (x := 0)).symm
theorem wr_small (n : Nat) (h : n < 2147483648) : wr (n : Int) = n := wr_id (by omega) (by omega)
theorem wr_toInt (x : Int32) : wr x.toInt = x.toInt := by unfold wr; rw [iN_toInt]
theorem i32_bd (x : Int32) : -2147483648 ≤ x.toInt ∧ x.toInt ≤ 2147483647 := by
  have h1 := x.minValue_le_toInt
  have h2 := x.toInt_le
  have e1 : Int32.minValue.toInt = -2147483648 := by decide
  have e2 : Int32.maxValue.toInt = 2147483647 := by decide
  omega
