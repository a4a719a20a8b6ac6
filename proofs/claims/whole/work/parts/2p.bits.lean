/-! numbers and bits: from the machine's words to naturals -/
section
theorem zb_w {n : Int} (h1 : -2147483648 ≤ n) (h2 : n < 2147483648) : w32 n = n := by unfold w32; omega
theorem zb_w64 {n : Int} (h1 : -9223372036854775808 ≤ n) (h2 : n < 9223372036854775808) : w64 n = n := by unfold w64; omega
theorem zb_s {k : Nat} (h : k < 2147483647) : w32 ((k : Int) + 1) = ((k + 1 : Nat) : Int) := by unfold w32; omega
theorem zb_ww (x : Int) : w32 (w32 x) = w32 x := by unfold w32; omega
theorem zb_wadd (x y : Int) : w32 (w32 x + y) = w32 (x + y) := by unfold w32; omega
theorem zb_addw (x y : Int) : w32 (x + w32 y) = w32 (x + y) := by unfold w32; omega
theorem zb_wsub (x y : Int) : w32 (w32 x - y) = w32 (x - y) := by unfold w32; omega
theorem zb_subw (x y : Int) : w32 (x - w32 y) = w32 (x - y) := by unfold w32; omega
theorem zb_an {n m : Nat} (hn : n < 2147483648) (hm : m < 2147483648) : b_an (n : Int) (m : Int) = ((n &&& m : Nat) : Int) := by
  unfold b_an
  rw [BitVec.ofInt_natCast, BitVec.ofInt_natCast]
  have h1 : (BitVec.ofNat 32 n &&& BitVec.ofNat 32 m).toNat = n &&& m := by
    rw [BitVec.toNat_and, BitVec.toNat_ofNat, BitVec.toNat_ofNat, Nat.mod_eq_of_lt (by omega), Nat.mod_eq_of_lt (by omega)]
  have h2 : n &&& m ≤ n := Nat.and_le_left
  rw [BitVec.toInt_eq_toNat_of_lt (by rw [h1]; omega), h1]
theorem zb_or {n m : Nat} (hn : n < 2147483648) (hm : m < 2147483648) : b_orr (n : Int) (m : Int) = ((n ||| m : Nat) : Int) := by
  unfold b_orr
  rw [BitVec.ofInt_natCast, BitVec.ofInt_natCast]
  have h1 : (BitVec.ofNat 32 n ||| BitVec.ofNat 32 m).toNat = n ||| m := by
    rw [BitVec.toNat_or, BitVec.toNat_ofNat, BitVec.toNat_ofNat, Nat.mod_eq_of_lt (by omega), Nat.mod_eq_of_lt (by omega)]
  have h2 : n ||| m < 2 ^ 31 := Nat.or_lt_two_pow (by omega) (by omega)
  rw [BitVec.toInt_eq_toNat_of_lt (by rw [h1]; omega), h1]
theorem zb_xr {n m : Nat} (hn : n < 2147483648) (hm : m < 2147483648) : b_xr (n : Int) (m : Int) = ((n ^^^ m : Nat) : Int) := by
  unfold b_xr
  rw [BitVec.ofInt_natCast, BitVec.ofInt_natCast]
  have h1 : (BitVec.ofNat 32 n ^^^ BitVec.ofNat 32 m).toNat = n ^^^ m := by
    rw [BitVec.toNat_xor, BitVec.toNat_ofNat, BitVec.toNat_ofNat, Nat.mod_eq_of_lt (by omega), Nat.mod_eq_of_lt (by omega)]
  have h2 : n ^^^ m < 2 ^ 31 := Nat.xor_lt_two_pow (by omega) (by omega)
  rw [BitVec.toInt_eq_toNat_of_lt (by rw [h1]; omega), h1]
/-- what is in the one and not in the other -/
def nd (n m : Nat) : Nat := n ^^^ (n &&& m)
theorem nd_bit (n m i : Nat) : (nd n m).testBit i = (n.testBit i && !m.testBit i) := by
  unfold nd
  rw [Nat.testBit_xor, Nat.testBit_and]
  cases n.testBit i <;> cases m.testBit i <;> rfl
theorem nd_lt {n m k : Nat} (h : n < 2 ^ k) : nd n m < 2 ^ k := by
  unfold nd
  exact Nat.xor_lt_two_pow h (Nat.lt_of_le_of_lt Nat.and_le_left h)
theorem zb_nd {n m : Nat} (hn : n < 2147483648) (hm : m < 2147483648) : b_an (n : Int) (b_xr (m : Int) (-1)) = ((nd n m : Nat) : Int) := by
  unfold b_an b_xr
  rw [BitVec.ofInt_natCast, BitVec.ofInt_natCast, BitVec.ofInt_toInt]
  have h1 : (BitVec.ofNat 32 n &&& (BitVec.ofNat 32 m ^^^ BitVec.ofInt 32 (-1))).toNat = nd n m := by
    apply Nat.eq_of_testBit_eq
    intro i
    have e : BitVec.ofInt 32 (-1) = BitVec.allOnes 32 := by decide
    rw [BitVec.testBit_toNat, nd_bit, e]
    simp only [BitVec.getLsbD_and, BitVec.getLsbD_xor, BitVec.getLsbD_ofNat, BitVec.getLsbD_allOnes]
    by_cases hi : i < 32
    · simp [hi]
    · have : n.testBit i = false := Nat.testBit_lt_two_pow (Nat.lt_of_lt_of_le (show n < 2 ^ 31 by omega) (Nat.pow_le_pow_right (by omega) (by omega)))
      simp [hi, this]
  have h2 : nd n m < 2 ^ 31 := nd_lt (by omega)
  rw [BitVec.toInt_eq_toNat_of_lt (by rw [h1]; omega), h1]
theorem zb_sr {n t : Nat} (ht : t < 32) : b_sr (n : Int) (t : Int) = ((n >>> t : Nat) : Int) := by
  unfold b_sr
  have : ((t : Int) % 32).toNat = t := by omega
  rw [this, Nat.shiftRight_eq_div_pow, Int.natCast_ediv, Int.natCast_pow]
  rfl
theorem zb_bit {n t : Nat} (hn : n < 2147483648) (ht : t < 32) : b_an (b_sr (n : Int) (t : Int)) 1 = if n.testBit t = true then 1 else 0 := by
  rw [zb_sr ht]
  have h1 : n >>> t < 2147483648 := by rw [Nat.shiftRight_eq_div_pow]; exact Nat.lt_of_le_of_lt (Nat.div_le_self _ _) hn
  have h2 := zb_an (m := 1) h1 (by omega)
  rw [show ((1 : Nat) : Int) = 1 from rfl] at h2
  rw [h2, Nat.and_one_is_mod, Nat.testBit_eq_decide_div_mod_eq, Nat.shiftRight_eq_div_pow]
  by_cases h : n / 2 ^ t % 2 = 1
  · simp [h]
  · have : n / 2 ^ t % 2 = 0 := by omega
    simp [this]
theorem zb_p2 {t k : Nat} (h : t < k) : 2 ^ t < 2 ^ k := Nat.pow_lt_pow_right (by omega) h
theorem zb_shl {n t : Nat} (ht : t < 32) (h : n * 2 ^ t < 2147483648) : b_sl (n : Int) (t : Int) = ((n * 2 ^ t : Nat) : Int) := by
  unfold b_sl
  have e : ((t : Int) % 32).toNat = t := by omega
  have e2 : (n : Int) * 2 ^ t = ((n * 2 ^ t : Nat) : Int) := by rw [Int.natCast_mul, Int.natCast_pow]; rfl
  rw [e, e2]
  exact zb_w (by omega) (by omega)
theorem zb_sl {t : Nat} (ht : t < 31) : b_sl 1 (t : Int) = ((2 ^ t : Nat) : Int) := by
  have h := zb_p2 ht
  have := zb_shl (n := 1) (t := t) (by omega) (by omega)
  rw [Nat.one_mul] at this
  exact this
theorem zb_us {n t : Nat} (hn : n < 2147483648) (ht : t < 32) : b_us (n : Int) (t : Int) = ((n >>> t : Nat) : Int) := by
  unfold b_us
  have e : ((t : Int) % 32).toNat = t := by omega
  have e2 : (n : Int) % 4294967296 = n := by omega
  have h1 : n >>> t ≤ n := by rw [Nat.shiftRight_eq_div_pow]; exact Nat.div_le_self _ _
  have e3 : (n : Int) / 2 ^ t = ((n >>> t : Nat) : Int) := by rw [Nat.shiftRight_eq_div_pow, Int.natCast_ediv, Int.natCast_pow]; rfl
  rw [e, e2, e3]
  generalize n >>> t = q at h1 ⊢
  exact zb_w (by omega) (by omega)
theorem zd_an {n m : Nat} (hn : n < 9223372036854775808) (hm : m < 9223372036854775808) : d_an (n : Int) (m : Int) = ((n &&& m : Nat) : Int) := by
  unfold d_an
  rw [BitVec.ofInt_natCast, BitVec.ofInt_natCast]
  have h1 : (BitVec.ofNat 64 n &&& BitVec.ofNat 64 m).toNat = n &&& m := by
    rw [BitVec.toNat_and, BitVec.toNat_ofNat, BitVec.toNat_ofNat, Nat.mod_eq_of_lt (by omega), Nat.mod_eq_of_lt (by omega)]
  have h2 : n &&& m ≤ n := Nat.and_le_left
  rw [BitVec.toInt_eq_toNat_of_lt (by rw [h1]; omega), h1]
theorem zd_or {n m : Nat} (hn : n < 9223372036854775808) (hm : m < 9223372036854775808) : d_orr (n : Int) (m : Int) = ((n ||| m : Nat) : Int) := by
  unfold d_orr
  rw [BitVec.ofInt_natCast, BitVec.ofInt_natCast]
  have h1 : (BitVec.ofNat 64 n ||| BitVec.ofNat 64 m).toNat = n ||| m := by
    rw [BitVec.toNat_or, BitVec.toNat_ofNat, BitVec.toNat_ofNat, Nat.mod_eq_of_lt (by omega), Nat.mod_eq_of_lt (by omega)]
  have h2 : n ||| m < 2 ^ 63 := Nat.or_lt_two_pow (by omega) (by omega)
  rw [BitVec.toInt_eq_toNat_of_lt (by rw [h1]; omega), h1]
theorem zd_sl {n t : Nat} (ht : t < 64) (h : n * 2 ^ t < 9223372036854775808) : d_sl (n : Int) (t : Int) = ((n * 2 ^ t : Nat) : Int) := by
  unfold d_sl
  have e : ((t : Int) % 64).toNat = t := by omega
  have e2 : (n : Int) * 2 ^ t = ((n * 2 ^ t : Nat) : Int) := by rw [Int.natCast_mul, Int.natCast_pow]; rfl
  rw [e, e2]
  exact zb_w64 (by omega) (by omega)
theorem zd_us {n t : Nat} (hn : n < 9223372036854775808) (ht : t < 64) : d_us (n : Int) (t : Int) = ((n / 2 ^ t : Nat) : Int) := by
  unfold d_us
  have e : ((t : Int) % 64).toNat = t := by omega
  have e2 : (n : Int) % 18446744073709551616 = n := by omega
  have h1 : n / 2 ^ t ≤ n := Nat.div_le_self _ _
  have e3 : (n : Int) / 2 ^ t = ((n / 2 ^ t : Nat) : Int) := by rw [Int.natCast_ediv, Int.natCast_pow]; rfl
  rw [e, e2, e3]
  generalize n / 2 ^ t = q at h1 ⊢
  exact zb_w64 (by omega) (by omega)
end
section
/-- the set of a row of things, as bits -/
def bs : List Nat → Nat
  | [] => 0
  | t :: l => 2 ^ t ||| bs l
theorem bs_bit (l : List Nat) (t : Nat) : (bs l).testBit t = decide (t ∈ l) := by
  induction l with
  | nil => simp [bs]
  | cons a l ih =>
    rw [bs, Nat.testBit_or, ih, Nat.testBit_two_pow]
    by_cases h : a = t
    · subst h; simp
    · have : ¬ t = a := fun e => h e.symm
      simp [h, this]
theorem bs_lt {l : List Nat} {n : Nat} (h : ∀ t ∈ l, t < n) : bs l < 2 ^ n := by
  apply Nat.lt_pow_two_of_testBit
  intro i hi
  rw [bs_bit]
  simp only [decide_eq_false_iff_not]
  intro hm
  have := h i hm
  omega
theorem bit_lt {n k t : Nat} (h : n < 2 ^ k) (ht : n.testBit t = true) : t < k := by
  apply Classical.byContradiction
  intro hk
  rw [Nat.testBit_lt_two_pow (Nat.lt_of_lt_of_le h (Nat.pow_le_pow_right (by omega) (by omega)))] at ht
  cases ht
/-- the things of a set, from the least up -/
def els (n : Nat) : List Nat := (List.range 16).filter (fun t => n.testBit t)
def pc (n : Nat) : Nat := (els n).length
theorem els_mem {n t : Nat} (hn : n < 65536) : t ∈ els n ↔ n.testBit t = true := by
  unfold els
  rw [List.mem_filter, List.mem_range]
  exact ⟨fun h => h.2, fun h => ⟨bit_lt (k := 16) hn h, h⟩⟩
theorem els_lt {n t : Nat} (h : t ∈ els n) : t < 16 := by
  unfold els at h
  rw [List.mem_filter, List.mem_range] at h
  exact h.1
theorem els_nd (n : Nat) : (els n).Nodup := (List.nodup_range).sublist List.filter_sublist
theorem els_bs {l : List Nat} (hn : l.Nodup) (h : ∀ t ∈ l, t < 16) : (els (bs l)).Perm l := by
  rw [List.perm_ext_iff_of_nodup (els_nd _) hn]
  intro a
  rw [els_mem (bs_lt (n := 16) h), bs_bit]
  simp
theorem pc_bs {l : List Nat} (hn : l.Nodup) (h : ∀ t ∈ l, t < 16) : pc (bs l) = l.length := (els_bs hn h).length_eq
theorem bs_els {n : Nat} (hn : n < 65536) : bs (els n) = n := by
  apply Nat.eq_of_testBit_eq
  intro i
  rw [bs_bit]
  by_cases h : n.testBit i = true
  · rw [h]; simpa using (els_mem hn).mpr h
  · have : n.testBit i = false := by simpa using h
    rw [this]
    simpa using fun z => h ((els_mem hn).mp z)
def pcU (n : Nat) : Nat → Nat
  | 0 => 0
  | k + 1 => pcU n k + if n.testBit k = true then 1 else 0
theorem pcU_eq (n k : Nat) : pcU n k = ((List.range k).filter (fun t => n.testBit t)).length := by
  induction k with
  | zero => rfl
  | succ k ih =>
    rw [pcU, ih, List.range_succ, List.filter_append, List.length_append]
    by_cases h : n.testBit k = true <;> simp [h]
theorem pcU_pc (n : Nat) : pcU n 16 = pc n := pcU_eq n 16
theorem pc_le (n : Nat) : pc n ≤ 16 := by
  have h := List.length_filter_le (fun t => n.testBit t) (List.range 16)
  rw [List.length_range] at h
  exact h
def pcq (n : Nat) : Nat := n % 2 + n / 2 % 2 + n / 4 % 2 + n / 8 % 2 + n / 16 % 2 + n / 32 % 2 + n / 64 % 2 + n / 128 % 2 + n / 256 % 2 + n / 512 % 2 + n / 1024 % 2 + n / 2048 % 2 + n / 4096 % 2 + n / 8192 % 2 + n / 16384 % 2 + n / 32768 % 2
theorem pcq_pc (n : Nat) : pcq n = pc n := by
  have h : ∀ k, (if n.testBit k = true then 1 else 0) = n / 2 ^ k % 2 := by
    intro k
    rw [Nat.testBit_eq_decide_div_mod_eq]
    by_cases h : n / 2 ^ k % 2 = 1
    · simp [h]
    · have : n / 2 ^ k % 2 = 0 := by omega
      simp [this]
  rw [← pcU_pc]
  simp only [pcU, h]
  unfold pcq
  simp
def bc1 (n : Nat) : Nat := n - ((n >>> 1) &&& 1431655765)
def bc2 (n : Nat) : Nat := (n &&& 858993459) + ((n >>> 2) &&& 858993459)
def bc3 (n : Nat) : Nat := (n + (n >>> 4)) &&& 252645135
def bc4 (n : Nat) : Nat := n + (n >>> 8)
def bc5 (n : Nat) : Nat := n + (n >>> 16)
def bcN (n : Nat) : Nat := bc5 (bc4 (bc3 (bc2 (bc1 n)))) &&& 63
set_option maxRecDepth 100000 in
theorem bcN_all : (List.range 256).all (fun a => (List.range 256).all fun b => Nat.beq (bcN (256 * a + b)) (pcq (256 * a + b))) = true := by decide +kernel
theorem bcN_pc {n : Nat} (h : n < 65536) : bcN n = pc n := by
  have h1 := List.all_eq_true.mp bcN_all (n / 256) (List.mem_range.mpr (by omega))
  have h2 := List.all_eq_true.mp h1 (n % 256) (List.mem_range.mpr (by omega))
  have h3 := Nat.eq_of_beq_eq_true h2
  rw [show 256 * (n / 256) + n % 256 = n by omega] at h3
  rw [h3, pcq_pc]
end
