section
theorem ar_63 (n : Nat) : n &&& 63 = n % 64 := Nat.and_two_pow_sub_one_eq_mod n 6
theorem ar_31n (n : Nat) : n &&& 31 = n % 32 := Nat.and_two_pow_sub_one_eq_mod n 5
theorem ar_tn (y : Int) : (Int32.ofInt y).toBitVec.toNat = (y % 4294967296).toNat := by
  rw [ar_bv, BitVec.toNat_ofInt]; rfl
theorem al_tn (y : Int) : (Int64.ofInt y).toBitVec.toNat = (y % 18446744073709551616).toNat := by
  rw [al_bv, BitVec.toNat_ofInt]; rfl
theorem ar_31 (y : Int) : Int32.ofInt y &&& 31 = nI (y % 32).toNat := by
  rw [pk_and (Int32.ofInt y) (m := 31) 5 rfl, ar_tn]
  congr 1
  omega
theorem ar_sc : ∀ n, n < 32 → ((nI n).toBitVec.smod 32).toNat = n := by decide +kernel
theorem ar_lt (y : Int) : (y % 32).toNat < 32 := by omega
theorem al_lt (y : Int) : (y % 64).toNat < 64 := by omega
theorem ar_pc (n : Nat) : ((2 ^ n : Nat) : Int) = 2 ^ n := by rw [Int.natCast_pow]; rfl
theorem ar_nat_inj {a b : Int32} (h : a.toBitVec.toNat = b.toBitVec.toNat) : a = b := Int32.toBitVec_inj.mp (BitVec.eq_of_toNat_eq h)
theorem al_nat_inj {a b : Int64} (h : a.toBitVec.toNat = b.toBitVec.toNat) : a = b := Int64.toBitVec_inj.mp (BitVec.eq_of_toNat_eq h)
theorem ar_mm (x P M : Int) : (x % M) * P % M = x * P % M := by
  rw [Int.mul_emod, Int.emod_emod, ← Int.mul_emod]
theorem ar_shl (x y : Int) : Int32.ofInt x <<< (Int32.ofInt y &&& 31) = Int32.ofInt (b_sl x y) := by
  rw [ar_31]
  apply ar_nat_inj
  rw [pk_shl (Int32.ofInt x) _ _ (ar_sc _ (ar_lt y))]
  unfold b_sl
  rw [ar_w, ar_tn, ar_tn]
  have h := ar_mm x (2 ^ (y % 32).toNat) 4294967296
  rw [← ar_pc] at h ⊢
  generalize (2 ^ (y % 32).toNat : Nat) = P at h ⊢
  rw [← h]
  have h0 : 0 ≤ x % 4294967296 := Int.emod_nonneg _ (by decide)
  generalize x % 4294967296 = z at h0 ⊢
  obtain ⟨n, rfl⟩ := Int.eq_ofNat_of_zero_le h0
  rw [← Int.natCast_mul]
  simp only [Int.toNat_natCast]
  generalize n * P = w
  omega
theorem ar_shr {x : Int} (y : Int) (hx : in32 x) : Int32.ofInt x >>> (Int32.ofInt y &&& 31) = Int32.ofInt (b_sr x y) := by
  rw [ar_31]
  apply ar_eq
  rw [pk_shr (Int32.ofInt x) _ _ (ar_sc _ (ar_lt y)), ar_to hx, ar_to (b_sr_in y hx)]
  unfold b_sr
  rw [Int.shiftRight_eq_div_pow, ar_pc]
theorem ar_ush (x y : Int) : ((Int32.ofInt x).toUInt32 >>> ((Int32.ofInt y).toUInt32 &&& Int32.toUInt32 31)).toInt32 = Int32.ofInt (b_us x y) := by
  apply ar_nat_inj
  have hs : (((Int32.ofInt y).toUInt32 &&& Int32.toUInt32 31).toBitVec % 32).toNat = (y % 32).toNat := by
    show ((BitVec.ofInt 32 y &&& 31#32) % 32#32).toNat = _
    rw [BitVec.toNat_umod, BitVec.toNat_and, BitVec.toNat_ofInt]
    show ((y % 4294967296).toNat &&& 31) % 32 = _
    rw [ar_31n]
    omega
  rw [pk_ushr (Int32.ofInt x) _ _ hs]
  unfold b_us
  rw [ar_w, ar_tn, ar_tn]
  rw [← ar_pc]
  have h0 : 0 ≤ x % 4294967296 := Int.emod_nonneg _ (by decide)
  have h1 : x % 4294967296 < 4294967296 := Int.emod_lt_of_pos _ (by decide)
  generalize x % 4294967296 = z at h0 h1 ⊢
  obtain ⟨n, rfl⟩ := Int.eq_ofNat_of_zero_le h0
  generalize (2 ^ (y % 32).toNat : Nat) = P
  have h2 : n / P ≤ n := Nat.div_le_self _ _
  rw [← Int.natCast_ediv]
  simp only [Int.toNat_natCast]
  generalize n / P = w at h2 ⊢
  omega
theorem al_64 (y : Int) : (Int32.ofInt y).toInt64 = Int64.ofInt (w32 y) := by
  apply al_eq
  rw [Int32.toInt_toInt64, ar_ti, al_to]
  have := w32_in y
  omega
theorem al_sm : ∀ k, k < 64 → (BitVec.ofNat 64 k).smod 64 = BitVec.ofNat 64 k := by decide +kernel
theorem al_63 (y : Int) : (Int32.ofInt y).toInt64 &&& 63 = lN (y % 64).toNat := by
  apply al_nat_inj
  rw [al_64, Int64.toBitVec_and, BitVec.toNat_and, al_tn]
  show (w32 y % 18446744073709551616).toNat &&& 63 = (BitVec.ofNat 64 (y % 64).toNat).toNat
  rw [ar_63, BitVec.toNat_ofNat]
  unfold w32
  omega
theorem al_shl (x y : Int) : Int64.ofInt x <<< ((Int32.ofInt y).toInt64 &&& 63) = Int64.ofInt (d_sl x y) := by
  rw [al_63]
  apply al_nat_inj
  rw [Int64.toBitVec_shiftLeft]
  show (BitVec.ofInt 64 x <<< (BitVec.ofNat 64 (y % 64).toNat).smod 64).toNat = _
  rw [al_sm _ (al_lt y), BitVec.shiftLeft_eq', BitVec.toNat_shiftLeft, BitVec.toNat_ofInt, BitVec.toNat_ofNat, Nat.mod_eq_of_lt (show (y % 64).toNat < 2 ^ 64 by have := al_lt y; omega), Nat.shiftLeft_eq]
  unfold d_sl
  rw [al_w, al_tn]
  have h := ar_mm x (2 ^ (y % 64).toNat) 18446744073709551616
  rw [← ar_pc] at h ⊢
  generalize (2 ^ (y % 64).toNat : Nat) = P at h ⊢
  rw [← h]
  have h0 : 0 ≤ x % 18446744073709551616 := Int.emod_nonneg _ (by decide)
  show (x % 18446744073709551616).toNat * P % 18446744073709551616 = _
  generalize x % 18446744073709551616 = z at h0 ⊢
  obtain ⟨n, rfl⟩ := Int.eq_ofNat_of_zero_le h0
  rw [← Int.natCast_mul]
  simp only [Int.toNat_natCast]
  generalize n * P = w
  omega
theorem al_ush (x y : Int) : ((Int64.ofInt x).toUInt64 >>> ((Int32.ofInt y).toInt64.toUInt64 &&& Int64.toUInt64 63)).toInt64 = Int64.ofInt (d_us x y) := by
  apply al_nat_inj
  have hs : ((Int32.ofInt y).toInt64.toUInt64 &&& Int64.toUInt64 63) = UInt64.ofNat (y % 64).toNat := by
    have := congrArg Int64.toUInt64 (al_63 y)
    exact this
  rw [hs]
  show ((Int64.ofInt x).toUInt64 >>> UInt64.ofNat (y % 64).toNat).toNat = _
  have h1 : (UInt64.ofNat (y % 64).toNat).toNat = (y % 64).toNat := by
    show (BitVec.ofNat 64 _).toNat = _
    rw [BitVec.toNat_ofNat, Nat.mod_eq_of_lt (show (y % 64).toNat < 2 ^ 64 by have := al_lt y; omega)]
  have h2 : (Int64.ofInt x).toUInt64.toNat = (x % 18446744073709551616).toNat := al_tn x
  rw [UInt64.toNat_shiftRight, h1, h2, Nat.mod_eq_of_lt (al_lt y), Nat.shiftRight_eq_div_pow]
  unfold d_us
  rw [al_w, al_tn, ← ar_pc]
  have h0 : 0 ≤ x % 18446744073709551616 := Int.emod_nonneg _ (by decide)
  have h1 : x % 18446744073709551616 < 18446744073709551616 := Int.emod_lt_of_pos _ (by decide)
  generalize x % 18446744073709551616 = z at h0 h1 ⊢
  obtain ⟨n, rfl⟩ := Int.eq_ofNat_of_zero_le h0
  generalize (2 ^ (y % 64).toNat : Nat) = P
  have h2 : n / P ≤ n := Nat.div_le_self _ _
  rw [← Int.natCast_ediv]
  simp only [Int.toNat_natCast]
  generalize n / P = w at h2 ⊢
  omega
theorem ar_8 (x : Int) : (Int32.ofInt x).toInt8.toInt32 = Int32.ofInt (w8 x) := by
  apply ar_eq
  rw [Int8.toInt_toInt32, Int32.toInt_toInt8, ar_ti, ar_to (w8_in x)]
  show Int.bmod _ 256 = _
  unfold Int.bmod w8 w32
  dsimp only
  split <;> omega
theorem ar_16 (x : Int) : (Int32.ofInt x).toInt16.toInt32 = Int32.ofInt (w16 x) := by
  apply ar_eq
  rw [Int16.toInt_toInt32, Int32.toInt_toInt16, ar_ti, ar_to (w16_in x)]
  show Int.bmod _ 65536 = _
  unfold Int.bmod w16 w32
  dsimp only
  split <;> omega
theorem al_l2i (x : Int) : (Int64.ofInt x).toInt32 = Int32.ofInt (w32 x) := by
  apply ar_eq
  rw [Int64.toInt_toInt32, al_ti, ar_to (w32_in x)]
  refine (ar_bm _).trans ?_
  unfold w64 w32
  omega
theorem al_i2l {x : Int} (h : in32 x) : (Int32.ofInt x).toInt64 = Int64.ofInt x := by rw [al_64, w32_id h]
theorem al_cmp {x y : Int} (hx : in64 x) (hy : in64 y) : lg_cmp (Int64.ofInt x) (Int64.ofInt y) = Int32.ofInt (d_cmp x y) := by
  unfold lg_cmp d_cmp
  simp only [gt_iff_lt, Int64.lt_iff_toInt_lt, ← Int64.toInt_inj, al_to hx, al_to hy]
  repeat' split
  all_goals first | rfl | omega
end
