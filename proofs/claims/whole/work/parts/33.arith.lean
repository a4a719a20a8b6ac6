section
theorem w32_in (x : Int) : in32 (w32 x) := by unfold w32; omega
theorem w64_in (x : Int) : in64 (w64 x) := by unfold w64; omega
theorem w32_id {x : Int} (h : in32 x) : w32 x = x := by unfold w32; omega
theorem w64_id {x : Int} (h : in64 x) : w64 x = x := by unfold w64; omega
theorem ar_in (v : Int32) : in32 v.toInt := ⟨Int32.le_toInt v, Int32.toInt_lt v⟩
theorem al_in (v : Int64) : in64 v.toInt := ⟨Int64.le_toInt v, Int64.toInt_lt v⟩
theorem ar_bm (z : Int) : Int.bmod z 4294967296 = w32 z := by
  unfold Int.bmod w32
  dsimp only
  split <;> omega
theorem al_bm (z : Int) : Int.bmod z 18446744073709551616 = w64 z := by
  unfold Int.bmod w64
  dsimp only
  split <;> omega
theorem ar_ti (z : Int) : (Int32.ofInt z).toInt = w32 z := (Int32.toInt_ofInt).trans (ar_bm z)
theorem al_ti (z : Int) : (Int64.ofInt z).toInt = w64 z := (Int64.toInt_ofInt).trans (al_bm z)
theorem ar_to {x : Int} (h : in32 x) : (Int32.ofInt x).toInt = x := by rw [ar_ti, w32_id h]
theorem al_to {x : Int} (h : in64 x) : (Int64.ofInt x).toInt = x := by rw [al_ti, w64_id h]
theorem ar_eq {a b : Int32} (h : a.toInt = b.toInt) : a = b := Int32.toInt_inj.mp h
theorem al_eq {a b : Int64} (h : a.toInt = b.toInt) : a = b := Int64.toInt_inj.mp h
theorem ar_w (z : Int) : Int32.ofInt (w32 z) = Int32.ofInt z := ar_eq (by rw [ar_ti, ar_ti, w32_id (w32_in z)])
theorem al_w (z : Int) : Int64.ofInt (w64 z) = Int64.ofInt z := al_eq (by rw [al_ti, al_ti, w64_id (w64_in z)])
theorem ar_add (x y : Int) : Int32.ofInt x + Int32.ofInt y = Int32.ofInt (w32 (x + y)) := by
  apply ar_eq
  rw [Int32.toInt_add, ar_ti, ar_ti, ar_ti]
  refine (ar_bm _).trans ?_
  unfold w32; omega
theorem ar_sub (x y : Int) : Int32.ofInt x - Int32.ofInt y = Int32.ofInt (w32 (x - y)) := by
  apply ar_eq
  rw [Int32.toInt_sub, ar_ti, ar_ti, ar_ti]
  refine (ar_bm _).trans ?_
  unfold w32; omega
theorem al_sub (x y : Int) : Int64.ofInt x - Int64.ofInt y = Int64.ofInt (w64 (x - y)) := by
  apply al_eq
  rw [Int64.toInt_sub, al_ti, al_ti, al_ti]
  refine (al_bm _).trans ?_
  unfold w64; omega
theorem ar_neg (x : Int) : - Int32.ofInt x = Int32.ofInt (w32 (-x)) := by
  apply ar_eq
  rw [Int32.toInt_neg, ar_ti, ar_ti]
  refine (ar_bm _).trans ?_
  unfold w32; omega
theorem ar_mul {x y : Int} (hx : in32 x) (hy : in32 y) : Int32.ofInt x * Int32.ofInt y = Int32.ofInt (w32 (x * y)) := by
  apply ar_eq
  rw [Int32.toInt_mul, ar_to hx, ar_to hy, ar_to (w32_in _)]
  exact ar_bm _
theorem ar_div {x y : Int} (hx : in32 x) (hy : in32 y) : Int32.ofInt x / Int32.ofInt y = Int32.ofInt (w32 (Int.tdiv x y)) := by
  apply ar_eq
  rw [Int32.toInt_div, ar_to hx, ar_to hy, ar_to (w32_in _)]
  exact ar_bm _
theorem ar_rem {x y : Int} (hx : in32 x) (hy : in32 y) : Int32.ofInt x - Int32.ofInt x / Int32.ofInt y * Int32.ofInt y = Int32.ofInt (w32 (Int.tmod x y)) := by
  rw [ar_div hx hy, ar_mul (w32_in _) hy, ar_sub, Int.tmod_def]
  apply ar_eq
  rw [ar_ti, ar_ti]
  have h1 : ∃ q, w32 (Int.tdiv x y) = Int.tdiv x y + 4294967296 * q := ⟨-((Int.tdiv x y + 2147483648) / 4294967296), by unfold w32; omega⟩
  obtain ⟨q, hq⟩ := h1
  rw [hq, Int.add_mul]
  have h2 : (4294967296 * q * y : Int) = 4294967296 * (q * y) := by rw [Int.mul_assoc]
  rw [h2, Int.mul_comm y]
  generalize Int.tdiv x y * y = z
  generalize q * y = r
  unfold w32; omega
theorem ar_ne {x : Int} (hx : in32 x) (h : ¬ x = 0) : ¬ Int32.ofInt x = 0 := fun e => h (by have := congrArg Int32.toInt e; rw [ar_to hx] at this; exact this)
theorem ar_bv (x : Int) : (Int32.ofInt x).toBitVec = BitVec.ofInt 32 x := rfl
theorem al_bv (x : Int) : (Int64.ofInt x).toBitVec = BitVec.ofInt 64 x := rfl
theorem ar_bb (b : BitVec 32) : Int32.ofInt b.toInt = Int32.ofBitVec b := by
  apply ar_eq
  rw [ar_to ⟨BitVec.le_toInt b, BitVec.toInt_lt⟩]
  rfl
theorem al_bb (b : BitVec 64) : Int64.ofInt b.toInt = Int64.ofBitVec b := by
  apply al_eq
  rw [al_to ⟨BitVec.le_toInt b, BitVec.toInt_lt⟩]
  rfl
theorem ar_and (x y : Int) : Int32.ofInt x &&& Int32.ofInt y = Int32.ofInt (b_an x y) := (ar_bb _).symm
theorem ar_or (x y : Int) : Int32.ofInt x ||| Int32.ofInt y = Int32.ofInt (b_orr x y) := (ar_bb _).symm
theorem ar_xor (x y : Int) : Int32.ofInt x ^^^ Int32.ofInt y = Int32.ofInt (b_xr x y) := (ar_bb _).symm
theorem al_and (x y : Int) : Int64.ofInt x &&& Int64.ofInt y = Int64.ofInt (d_an x y) := (al_bb _).symm
theorem al_or (x y : Int) : Int64.ofInt x ||| Int64.ofInt y = Int64.ofInt (d_orr x y) := (al_bb _).symm
theorem b_an_in (x y : Int) : in32 (b_an x y) := ⟨BitVec.le_toInt _, BitVec.toInt_lt⟩
theorem b_orr_in (x y : Int) : in32 (b_orr x y) := ⟨BitVec.le_toInt _, BitVec.toInt_lt⟩
theorem b_xr_in (x y : Int) : in32 (b_xr x y) := ⟨BitVec.le_toInt _, BitVec.toInt_lt⟩
theorem d_an_in (x y : Int) : in64 (d_an x y) := ⟨BitVec.le_toInt _, BitVec.toInt_lt⟩
theorem d_orr_in (x y : Int) : in64 (d_orr x y) := ⟨BitVec.le_toInt _, BitVec.toInt_lt⟩
theorem b_sl_in (x y : Int) : in32 (b_sl x y) := w32_in _
theorem b_us_in (x y : Int) : in32 (b_us x y) := w32_in _
theorem d_sl_in (x y : Int) : in64 (d_sl x y) := w64_in _
theorem d_us_in (x y : Int) : in64 (d_us x y) := w64_in _
theorem ar_pw (n : Nat) : (1 : Int) ≤ 2 ^ n := by
  have : (0 : Int) < 2 ^ n := Int.pow_pos (by decide)
  omega
theorem b_sr_in {x : Int} (y : Int) (h : in32 x) : in32 (b_sr x y) := by
  unfold b_sr
  have hp := ar_pw (y % 32).toNat
  generalize (2 : Int) ^ (y % 32).toNat = p at hp
  refine ⟨?_, ?_⟩
  · exact (Int.le_ediv_iff_mul_le (by omega)).mpr (by
      have : (-2147483648 : Int) * p ≤ -2147483648 * 1 := Int.mul_le_mul_of_nonpos_left (by decide) hp
      omega)
  · exact (Int.ediv_lt_iff_lt_mul (by omega)).mpr (by
      have : (2147483648 : Int) * 1 ≤ 2147483648 * p := Int.mul_le_mul_of_nonneg_left hp (by decide)
      omega)
theorem w8_in (x : Int) : in32 (w8 x) := by unfold w8; omega
theorem w16_in (x : Int) : in32 (w16 x) := by unfold w16; omega
end
