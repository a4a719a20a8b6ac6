/-! the law's loop: men, load, write; all turns -/
section
theorem L_men {X : Nat × (Nat → Int)} {d i : Nat} {D : DD} {S : St} (hd : 80 ≤ d) (hi : i + 6 ≤ X.1) (hX : X.1 ≤ 3072) (hx : ∀ k, i32 (X.2 k)) (hS : SOK S) (hC : CH D S) (hM : MH D S) : nxL X d 1279 i D := by
  obtain ⟨w1, w2, w3, w4, w5, w6⟩ := wix (i := i) (by omega)
  have go : ∀ v : Int, ∃ D1 D2, ev X d m_N_men [vR 11 0, vI (X.2 (i + 1)), vI (X.2 (i + 2)), vI v] (hp D) = some (some (vI (f_men S (X.2 (i + 1)) (X.2 (i + 2)) v).1), hp D1) ∧ ev X d m_M_men [vR 12 0, vI (X.2 (i + 1)), vI (X.2 (i + 2)), vI v] (hp D1) = some (some (vI (f_men S (X.2 (i + 1)) (X.2 (i + 2)) v).1), hp D2) ∧ CH D2 S ∧ MH D2 S := fun v => both (X := X) (d := d) (p := f_men S (X.2 (i + 1)) (X.2 (i + 2)) v) (C_men (by omega) hS (hx _) hC) (fun D1 h => M_men (by omega) hS h) hS hS hM
  unfold nxL
  rw [b_law_1279]
  simp only [w1, w2, w3, w4, w5, Int.toNat_natCast]
  rw [if_pos (by omega), if_pos (by omega), if_pos (by omega)]
  by_cases c : X.2 (i + 3) = 0
  · obtain ⟨D1, D2, b1, b2, b3, b4⟩ := go 0
    rw [if_pos c, b_law_1303, b1]
    simp only [ab_ci]
    rw [b_law_1306]
    simp only [w1, w2, w3, w4, w5, Int.toNat_natCast]
    rw [if_pos (by omega), if_pos (by omega), if_pos (by omega), if_pos c, b_law_1330, b2]
    simp only [ab_ci]
    rw [b_law_1333, if_pos rfl, b_law_1850, w6]
    exact ⟨D2, S, rfl, hS, b3, b4⟩
  · obtain ⟨D1, D2, b1, b2, b3, b4⟩ := go 1
    rw [if_neg c, b_law_1303, b1]
    simp only [ab_ci]
    rw [b_law_1306]
    simp only [w1, w2, w3, w4, w5, Int.toNat_natCast]
    rw [if_pos (by omega), if_pos (by omega), if_pos (by omega), if_neg c, b_law_1330, b2]
    simp only [ab_ci]
    rw [b_law_1333, if_pos rfl, b_law_1850, w6]
    exact ⟨D2, S, rfl, hS, b3, b4⟩
theorem L_load {X : Nat × (Nat → Int)} {d i : Nat} {D : DD} {S : St} (hd : 80 ≤ d) (hi : i + 6 ≤ X.1) (hX : X.1 ≤ 3072) (hx : ∀ k, i32 (X.2 k)) (hS : SOK S) (hC : CH D S) (hM : MH D S) : nxL X d 1338 i D := by
  obtain ⟨w1, w2, w3, w4, w5, w6⟩ := wix (i := i) (by omega)
  have go : ∀ v : Int, ∃ D1 D2, ev X d m_N_load [vR 11 0, vI (X.2 (i + 1)), vI (X.2 (i + 2)), vI v, vI (X.2 (i + 4))] (hp D) = some (some (vI (f_load S (X.2 (i + 1)) (X.2 (i + 2)) v (X.2 (i + 4))).1), hp D1) ∧ ev X d m_M_load [vR 12 0, vI (X.2 (i + 1)), vI (X.2 (i + 2)), vI v, vI (X.2 (i + 4))] (hp D1) = some (some (vI (f_load S (X.2 (i + 1)) (X.2 (i + 2)) v (X.2 (i + 4))).1), hp D2) ∧ CH D2 S ∧ MH D2 S := fun v => both (X := X) (d := d) (p := f_load S (X.2 (i + 1)) (X.2 (i + 2)) v (X.2 (i + 4))) (C_load (by omega) hS (hx _) hC) (fun D1 h => M_load (by omega) hS h) hS hS hM
  unfold nxL
  rw [b_law_1338]
  simp only [w1, w2, w3, w4, w5, Int.toNat_natCast]
  rw [if_pos (by omega), if_pos (by omega), if_pos (by omega)]
  by_cases c : X.2 (i + 3) = 0
  · obtain ⟨D1, D2, b1, b2, b3, b4⟩ := go 0
    rw [if_pos c, b_law_1362]
    simp only [w1, w2, w3, w4, w5, Int.toNat_natCast]
    rw [if_pos (by omega), b1]
    simp only [ab_ci]
    rw [b_law_1370]
    simp only [w1, w2, w3, w4, w5, Int.toNat_natCast]
    rw [if_pos (by omega), if_pos (by omega), if_pos (by omega), if_pos c, b_law_1394]
    simp only [w1, w2, w3, w4, w5, Int.toNat_natCast]
    rw [if_pos (by omega), b2]
    simp only [ab_ci]
    rw [b_law_1402, if_pos rfl, b_law_1850, w6]
    exact ⟨D2, S, rfl, hS, b3, b4⟩
  · obtain ⟨D1, D2, b1, b2, b3, b4⟩ := go 1
    rw [if_neg c, b_law_1362]
    simp only [w1, w2, w3, w4, w5, Int.toNat_natCast]
    rw [if_pos (by omega), b1]
    simp only [ab_ci]
    rw [b_law_1370]
    simp only [w1, w2, w3, w4, w5, Int.toNat_natCast]
    rw [if_pos (by omega), if_pos (by omega), if_pos (by omega), if_neg c, b_law_1394]
    simp only [w1, w2, w3, w4, w5, Int.toNat_natCast]
    rw [if_pos (by omega), b2]
    simp only [ab_ci]
    rw [b_law_1402, if_pos rfl, b_law_1850, w6]
    exact ⟨D2, S, rfl, hS, b3, b4⟩
theorem d_orr_b (x y : Int) : -9223372036854775808 ≤ d_orr x y ∧ d_orr x y < 9223372036854775808 := by
  unfold d_orr
  have h1 := BitVec.le_toInt (BitVec.ofInt 64 x ||| BitVec.ofInt 64 y)
  have h2 := BitVec.toInt_lt (x := BitVec.ofInt 64 x ||| BitVec.ofInt 64 y)
  omega
theorem L_write {X : Nat × (Nat → Int)} {d i : Nat} {D : DD} {S : St} (hd : 80 ≤ d) (hi : i + 6 ≤ X.1) (hX : X.1 ≤ 3072) (hS : SOK S) (hC : CH D S) (hM : MH D S) : nxL X d 1674 i D := by
  obtain ⟨w1, w2, w3, w4, w5, w6⟩ := wix (i := i) (by omega)
  obtain ⟨D1, a1, a2, a3⟩ := C_write (X := X) (d := d) (D := D) (x := X.2 (i + 1)) (i := X.2 (i + 2)) (v := d_orr (d_sl (X.2 (i + 3)) 32) (d_an (X.2 (i + 4)) 4294967295)) (by omega) hS hC
  obtain ⟨D2, b1, b2, b3⟩ := M_write (X := X) (d := d) (D := D1) (x := X.2 (i + 1)) (i := X.2 (i + 2)) (v := d_orr (d_sl (X.2 (i + 3)) 32) (d_an (X.2 (i + 4)) 4294967295)) (by omega) hS (hM.oth hS a3)
  have hok : SOK (f_write S (X.2 (i + 1)) (X.2 (i + 2)) (d_orr (d_sl (X.2 (i + 3)) 32) (d_an (X.2 (i + 4)) 4294967295))).2 := ok_write hS (d_orr_b _ _)
  unfold nxL
  rw [b_law_1674]
  simp only [w1, w2, w3, w4, w5, Int.toNat_natCast]
  rw [if_pos (by omega), if_pos (by omega), if_pos (by omega), if_pos (by omega), a1]
  simp only [ab_cl]
  rw [b_law_1708]
  simp only [w1, w2, w3, w4, w5, Int.toNat_natCast]
  rw [if_pos (by omega), if_pos (by omega), if_pos (by omega), if_pos (by omega), b1]
  simp only [ab_cl]
  rw [b_law_1742, if_pos (by unfold d_cmp; rw [if_neg (by omega), if_pos rfl]), b_law_1850, w6]
  exact ⟨D2, _, rfl, hok, a2.oth hok b3, b2⟩
end
