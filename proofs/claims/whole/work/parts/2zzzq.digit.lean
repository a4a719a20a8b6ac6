/-! men and loads: what is due as a number; pure -/
section
def dgB (B c i : Nat) : Nat := c / B ^ i % B
theorem dg_sub {B c j : Nat} (hB : 2 ≤ B) (h : 1 ≤ dgB B c j) : B ^ j ≤ c ∧ ∀ i, dgB B (c - B ^ j) i = if i = j then dgB B c j - 1 else dgB B c i := by
  have hp0 : ∀ i, 0 < B ^ i := fun i => Nat.pow_pos (by omega)
  have hle : B ^ j ≤ c := by
    apply Classical.byContradiction
    intro z
    unfold dgB at h
    rw [Nat.div_eq_of_lt (by omega), Nat.zero_mod] at h
    omega
  refine ⟨hle, fun i => ?_⟩
  unfold dgB at h ⊢
  by_cases e : i = j
  · rw [if_pos e, e]
    have e1 : (c - B ^ j) / B ^ j = c / B ^ j - 1 := by
      have := Nat.sub_mul_div c (B ^ j) 1
      rw [Nat.mul_one] at this
      exact this
    rw [e1]
    have h2 : c / B ^ j = B * (c / B ^ j / B) + c / B ^ j % B := (Nat.div_add_mod _ _).symm
    have h3 : c / B ^ j % B < B := Nat.mod_lt _ (by omega)
    generalize c / B ^ j % B = d at *
    generalize c / B ^ j / B = q at *
    rw [h2, show B * q + d - 1 = d - 1 + B * q by omega, Nat.add_mul_mod_self_left, Nat.mod_eq_of_lt (by omega)]
  · rw [if_neg e]
    by_cases hij : i < j
    · obtain ⟨r, hr⟩ : ∃ r, j = i + (r + 1) := ⟨j - i - 1, by omega⟩
      have e2 : B ^ j = B ^ i * (B * B ^ r) := by rw [hr, Nat.pow_add, Nat.pow_succ, Nat.mul_comm (B ^ r) B]
      rw [e2, Nat.sub_mul_div]
      have h5 : B * B ^ r ≤ c / B ^ i := (Nat.le_div_iff_mul_le (hp0 i)).mpr (by rw [Nat.mul_comm, ← e2]; exact hle)
      generalize c / B ^ i = a at *
      obtain ⟨m, hm⟩ : ∃ m, a = m + B * B ^ r := ⟨a - B * B ^ r, by omega⟩
      rw [hm, Nat.add_sub_cancel, Nat.add_mul_mod_self_left]
    · obtain ⟨r, hr⟩ : ∃ r, i = j + (r + 1) := ⟨i - j - 1, by omega⟩
      have h6 : B ^ j ≤ c % B ^ i := by
        apply Classical.byContradiction
        intro z
        have e3 : c / B ^ j % B = 0 := by
          have e4 : B ^ i = B ^ j * (B * B ^ r) := by rw [hr, Nat.pow_add, Nat.pow_succ, Nat.mul_comm (B ^ r) B]
          have e5 : c = B ^ i * (c / B ^ i) + c % B ^ i := (Nat.div_add_mod _ _).symm
          have e6 : c / B ^ j = B * (B ^ r * (c / B ^ i)) := by
            have e7 : c = c % B ^ i + B ^ j * (B * (B ^ r * (c / B ^ i))) := by
              have e8 : B ^ j * (B * (B ^ r * (c / B ^ i))) = B ^ i * (c / B ^ i) := by rw [e4, Nat.mul_assoc, Nat.mul_assoc]
              omega
            rw [e7, Nat.add_mul_div_left _ _ (hp0 j), Nat.div_eq_of_lt (by omega), Nat.zero_add]
            rw [← e7]
          rw [e6, Nat.mul_mod_right]
        omega
      have e5 : c = B ^ i * (c / B ^ i) + c % B ^ i := (Nat.div_add_mod _ _).symm
      have e9 : (c - B ^ j) / B ^ i = c / B ^ i := by
        have hlt : c % B ^ i < B ^ i := Nat.mod_lt _ (hp0 i)
        have : c - B ^ j = c % B ^ i - B ^ j + B ^ i * (c / B ^ i) := by omega
        rw [this, Nat.add_mul_div_left _ _ (hp0 i), Nat.div_eq_of_lt (by omega), Nat.zero_add]
      rw [e9]
/-- all of it is due -/
theorem dg_all {B : Nat} (hB : 2 ≤ B) : ∀ (n i : Nat), i < n → dgB B (B ^ n - 1) i = B - 1 := by
  intro n i hi
  unfold dgB
  obtain ⟨r, hr⟩ : ∃ r, n = i + (r + 1) := ⟨n - i - 1, by omega⟩
  have hp0 : 0 < B ^ i := Nat.pow_pos (by omega)
  have hr0 : 0 < B ^ r := Nat.pow_pos (by omega)
  have e4 : B ^ n = B ^ i * (B * B ^ r) := by rw [hr, Nat.pow_add, Nat.pow_succ, Nat.mul_comm (B ^ r) B]
  have hBr : 1 ≤ B * B ^ r := Nat.mul_pos (by omega) hr0
  have e1 : B ^ n - 1 = (B ^ i - 1) + B ^ i * (B * B ^ r - 1) := by
    have : B ^ i * (B * B ^ r - 1) = B ^ i * (B * B ^ r) - B ^ i := by rw [Nat.mul_sub, Nat.mul_one]
    have h2 : B ^ i ≤ B ^ i * (B * B ^ r) := Nat.le_mul_of_pos_right _ hBr
    omega
  rw [e1, Nat.add_mul_div_left _ _ hp0, Nat.div_eq_of_lt (by omega), Nat.zero_add]
  have e2 : B * B ^ r - 1 = (B - 1) + B * (B ^ r - 1) := by
    have : B * (B ^ r - 1) = B * B ^ r - B := by rw [Nat.mul_sub, Nat.mul_one]
    have h2 : B ≤ B * B ^ r := Nat.le_mul_of_pos_right _ hr0
    omega
  rw [e2, Nat.add_mul_mod_self_left, Nat.mod_eq_of_lt (by omega)]
theorem dg_hi {B c n i : Nat} (h : c < B ^ n) (hB : 2 ≤ B) (hi : n ≤ i) : dgB B c i = 0 := by
  unfold dgB
  have : B ^ n ≤ B ^ i := Nat.pow_le_pow_right (by omega) hi
  rw [Nat.div_eq_of_lt (by omega), Nat.zero_mod]
theorem dg_z {B : Nat} (hB : 2 ≤ B) : ∀ (n c : Nat), c < B ^ n → (∀ i, i < n → dgB B c i = 0) → c = 0 := by
  intro n
  induction n with
  | zero => intro c h _; rw [Nat.pow_zero] at h; omega
  | succ n ih =>
    intro c h hz
    have h0 := hz 0 (by omega)
    unfold dgB at h0
    rw [Nat.pow_zero, Nat.div_one] at h0
    have h1 : c / B = 0 := ih (c / B) (by rw [Nat.pow_succ] at h; exact (Nat.div_lt_iff_lt_mul (by omega)).mpr h) (fun i hi => by
      have := hz (i + 1) (by omega)
      unfold dgB at this ⊢
      rw [Nat.pow_succ, Nat.mul_comm, ← Nat.div_div_eq_div_mul] at this
      exact this)
    have := Nat.div_add_mod c B
    rw [h1, h0] at this
    omega
/-- the things of a set, spread -/
def mkS (s : Nat) (P : Nat → Bool) : Nat := bs (((kL (pc s)).filter P).map (fun i => (els s).getD i 0))
theorem th_mem {s i : Nat} (hs : s < 65536) (hi : i < pc s) : (els s).getD i 0 < 16 ∧ s.testBit ((els s).getD i 0) = true := by
  have h := say_mem (l := els s) (k := i) hi
  exact ⟨els_lt h, (els_mem hs).mp h⟩
theorem mkS_bit {s t : Nat} {P : Nat → Bool} : (mkS s P).testBit t = true ↔ ∃ i, i < pc s ∧ P i = true ∧ (els s).getD i 0 = t := by
  unfold mkS
  rw [bs_bit, decide_eq_true_iff]
  constructor
  · intro h
    obtain ⟨i, hi, e⟩ := List.mem_map.mp h
    obtain ⟨a1, a2⟩ := List.mem_filter.mp hi
    exact ⟨i, kL_mem.mp a1, a2, e⟩
  · rintro ⟨i, h1, h2, h3⟩
    exact List.mem_map.mpr ⟨i, List.mem_filter.mpr ⟨kL_mem.mpr h1, h2⟩, h3⟩
theorem mkS_at {s i : Nat} {P : Nat → Bool} (hi : i < pc s) : (mkS s P).testBit ((els s).getD i 0) = P i := by
  cases hP : P i with
  | true => exact mkS_bit.mpr ⟨i, hi, hP, rfl⟩
  | false =>
    cases h : (mkS s P).testBit ((els s).getD i 0) with
    | false => rfl
    | true =>
      obtain ⟨j, j1, j2, j3⟩ := mkS_bit.mp h
      rw [getD_inj (els_nd s) j i j1 hi j3, hP] at j2
      cases j2
theorem mkS_lt {s : Nat} (hs : s < 65536) (P : Nat → Bool) : mkS s P < 65536 := by
  unfold mkS
  refine bs_lt (n := 16) fun t ht => ?_
  obtain ⟨i, hi, e⟩ := List.mem_map.mp ht
  rw [← e]
  exact (th_mem hs (kL_mem.mp (List.mem_filter.mp hi).1)).1
theorem mkS_eq {s : Nat} {P Q : Nat → Bool} (h : ∀ i, i < pc s → P i = Q i) : mkS s P = mkS s Q := Nat.eq_of_testBit_eq fun t => by
  cases h1 : (mkS s P).testBit t with
  | true =>
    obtain ⟨i, i1, i2, i3⟩ := mkS_bit.mp h1
    exact (mkS_bit.mpr ⟨i, i1, by rw [← h i i1]; exact i2, i3⟩).symm
  | false =>
    cases h2 : (mkS s Q).testBit t with
    | false => rfl
    | true =>
      obtain ⟨i, i1, i2, i3⟩ := mkS_bit.mp h2
      rw [mkS_bit.mpr ⟨i, i1, by rw [h i i1]; exact i2, i3⟩] at h1
      cases h1
/-- two spread ones are alike where they are alike place by place -/
theorem mkS_ext {s x : Nat} {P : Nat → Bool} (h1 : ∀ t, x.testBit t = true → ∃ i, i < pc s ∧ (els s).getD i 0 = t) (h2 : ∀ i, i < pc s → x.testBit ((els s).getD i 0) = P i) : x = mkS s P := Nat.eq_of_testBit_eq fun t => by
  cases h : (mkS s P).testBit t with
  | true =>
    obtain ⟨i, i1, i2, i3⟩ := mkS_bit.mp h
    rw [← i3, h2 i i1, i2]
  | false =>
    cases hx : x.testBit t with
    | false => rfl
    | true =>
      obtain ⟨i, i1, i2⟩ := h1 t hx
      rw [← i2, h2 i i1] at hx
      rw [← i2, mkS_at i1, hx] at h
      cases h
theorem mkS_or {s t : Nat} {P Q : Nat → Bool} : (mkS s P ||| mkS s Q).testBit t = true ↔ ∃ i, i < pc s ∧ (P i = true ∨ Q i = true) ∧ (els s).getD i 0 = t := by
  rw [Nat.testBit_or, Bool.or_eq_true, mkS_bit, mkS_bit]
  constructor
  · rintro (⟨i, h1, h2, h3⟩ | ⟨i, h1, h2, h3⟩)
    · exact ⟨i, h1, Or.inl h2, h3⟩
    · exact ⟨i, h1, Or.inr h2, h3⟩
  · rintro ⟨i, h1, h2 | h2, h3⟩
    · exact Or.inl ⟨i, h1, h2, h3⟩
    · exact Or.inr ⟨i, h1, h2, h3⟩
/-- dense sets in their order -/
theorem els_asc {s : Nat} : ∀ i j, i < j → j < pc s → (els s).getD i 0 < (els s).getD j 0 := by
  have hP : (els s).Pairwise (· < ·) := List.Pairwise.filter _ List.pairwise_lt_range
  have key : ∀ (l : List Nat), l.Pairwise (· < ·) → ∀ i j, i < j → j < l.length → l.getD i 0 < l.getD j 0 := by
    intro l
    induction l with
    | nil => intro _ i j _ h; exact absurd h (Nat.not_lt_zero _)
    | cons a l ih =>
      intro hp9 i j hij hj
      obtain ⟨p1, p2⟩ := List.pairwise_cons.mp hp9
      cases j with
      | zero => omega
      | succ j =>
        rw [List.length_cons] at hj
        cases i with
        | zero =>
          rw [List.getD_cons_zero, List.getD_cons_succ]
          exact p1 _ (say_mem (by omega))
        | succ i =>
          rw [List.getD_cons_succ, List.getD_cons_succ]
          exact ih p2 i j (by omega) (by omega)
  exact key (els s) hP
theorem mkS_mono {s x y : Nat} (hx : x < 2 ^ pc s) (hy : y < 2 ^ pc s) (h : x < y) : mkS s x.testBit < mkS s y.testBit := by
  -- the highest place where they differ
  have hex : ∃ i, x.testBit i = false ∧ y.testBit i = true ∧ ∀ j, i < j → x.testBit j = y.testBit j := by
    have : ∀ (n x y : Nat), x < 2 ^ n → y < 2 ^ n → x < y → ∃ i, x.testBit i = false ∧ y.testBit i = true ∧ ∀ j, i < j → x.testBit j = y.testBit j := by
      intro n
      induction n with
      | zero => intro x y h1 h2 h3; rw [Nat.pow_zero] at h1 h2; omega
      | succ n ih =>
        intro x y h1 h2 h3
        rw [Nat.pow_succ] at h1 h2
        by_cases e : x / 2 = y / 2
        · refine ⟨0, ?_, ?_, fun j hj => ?_⟩
          · rw [Nat.testBit_zero]; exact decide_eq_false (by omega)
          · rw [Nat.testBit_zero]; exact decide_eq_true (by omega)
          · obtain ⟨k, rfl⟩ : ∃ k, j = k + 1 := ⟨j - 1, by omega⟩
            rw [Nat.testBit_succ, Nat.testBit_succ, e]
        · obtain ⟨i, i1, i2, i3⟩ := ih (x / 2) (y / 2) (by omega) (by omega) (by omega)
          refine ⟨i + 1, by rw [Nat.testBit_succ]; exact i1, by rw [Nat.testBit_succ]; exact i2, fun j hj => ?_⟩
          obtain ⟨k, rfl⟩ : ∃ k, j = k + 1 := ⟨j - 1, by omega⟩
          rw [Nat.testBit_succ, Nat.testBit_succ]
          exact i3 k (by omega)
    exact this (pc s) x y hx hy h
  obtain ⟨i, i1, i2, i3⟩ := hex
  have hi : i < pc s := bit_lt hy i2
  refine bit_cmp (t := (els s).getD i 0) (fun u hu => ?_) (by rw [mkS_at hi]; exact i1) (by rw [mkS_at hi]; exact i2)
  have hb : ∀ j, j < pc s → (els s).getD j 0 = u → x.testBit j = y.testBit j := fun j hj e => i3 j (by
    apply Classical.byContradiction
    intro z
    by_cases eq : j = i
    · rw [eq] at e; omega
    · have := els_asc (s := s) j i (by omega) hi
      omega)
  cases h1 : (mkS s x.testBit).testBit u with
  | true =>
    obtain ⟨j, j1, j2, j3⟩ := mkS_bit.mp h1
    exact (mkS_bit.mpr ⟨j, j1, by rw [← hb j j1 j3]; exact j2, j3⟩).symm
  | false =>
    cases h2 : (mkS s y.testBit).testBit u with
    | false => rfl
    | true =>
      obtain ⟨j, j1, j2, j3⟩ := mkS_bit.mp h2
      rw [mkS_bit.mpr ⟨j, j1, by rw [hb j j1 j3]; exact j2, j3⟩] at h1
      cases h1
end
