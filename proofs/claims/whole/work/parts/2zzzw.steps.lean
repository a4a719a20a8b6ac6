section
theorem both {X : Nat × (Nat → Int)} {d mN mM : Nat} {as : List ab_V} {D : DD} {S : St} {p : Int × St} (hc : cRes X d mN as D p) (hm : ∀ D1, MH D1 S → mRes X d mM as D1 p) (hS : SOK S) (hS' : SOK p.2) (hM : MH D S) : ∃ D1 D2, ev X d mN (vR 11 0 :: as) (hp D) = some (some (vI p.1), hp D1) ∧ ev X d mM (vR 12 0 :: as) (hp D1) = some (some (vI p.1), hp D2) ∧ CH D2 p.2 ∧ MH D2 p.2 := by
  obtain ⟨D1, a1, a2, a3⟩ := hc
  obtain ⟨D2, b1, b2, b3⟩ := hm D1 (hM.oth hS a3)
  exact ⟨D1, D2, a1, b1, a2.oth hS' b3, b2⟩
theorem wix {i : Nat} (h : i < 4000) : w32 ((i : Int) + 1) = ((i + 1 : Nat) : Int) ∧ w32 ((i : Int) + 2) = ((i + 2 : Nat) : Int) ∧ w32 ((i : Int) + 3) = ((i + 3 : Nat) : Int) ∧ w32 ((i : Int) + 4) = ((i + 4 : Nat) : Int) ∧ w32 ((i : Int) + 5) = ((i + 5 : Nat) : Int) ∧ w32 ((i : Int) + 6) = ((i + 6 : Nat) : Int) := by
  refine ⟨?_, ?_, ?_, ?_, ?_, ?_⟩ <;> (rw [zb_w (by omega) (by omega)]; omega)
/-- the next turn of the loop -/
def nxL (X : Nat × (Nat → Int)) (d pc i : Nat) (D : DD) : Prop := ∃ D' S', at_ X d cd_law_law pc [vS 1000, vR 11 0, vR 12 0, vI (i : Int)] [] (hp D) = at_ X d cd_law_law 18 [vS 1000, vR 11 0, vR 12 0, vI ((i + 6 : Nat) : Int)] [] (hp D') ∧ SOK S' ∧ CH D' S' ∧ MH D' S'
theorem L_feed {X : Nat × (Nat → Int)} {d i : Nat} {D : DD} {S : St} (hd : 80 ≤ d) (hi : i + 6 ≤ X.1) (hX : X.1 ≤ 3072) (hx : ∀ k, i32 (X.2 k)) (hS : SOK S) (hC : CH D S) (hM : MH D S) : nxL X d 236 i D := by
  obtain ⟨w1, w2, w3, w4, w5, w6⟩ := wix (i := i) (by omega)
  obtain ⟨D1, D2, b1, b2, b3, b4⟩ := both (X := X) (d := d) (p := f_feed S (X.2 (i + 1)) (X.2 (i + 2)) (X.2 (i + 3)) (X.2 (i + 4)) (X.2 (i + 5))) (C_feed (by omega) hS hC) (fun D1 h => M_feed (by omega) hS h) hS (ok_feed hS) hM
  unfold nxL
  rw [b_law_236]
  simp only [w1, w2, w3, w4, w5, Int.toNat_natCast]
  rw [if_pos (by omega), if_pos (by omega), if_pos (by omega), if_pos (by omega), if_pos (by omega), b1]
  simp only [ab_ci]
  rw [b_law_265]
  simp only [w1, w2, w3, w4, w5, Int.toNat_natCast]
  rw [if_pos (by omega), if_pos (by omega), if_pos (by omega), if_pos (by omega), if_pos (by omega), b2]
  simp only [ab_ci]
  rw [b_law_294, if_pos rfl, b_law_1850, w6]
  exact ⟨D2, _, rfl, (ok_feed hS), b3, b4⟩
theorem L_lore {X : Nat × (Nat → Int)} {d i : Nat} {D : DD} {S : St} (hd : 80 ≤ d) (hi : i + 6 ≤ X.1) (hX : X.1 ≤ 3072) (hx : ∀ k, i32 (X.2 k)) (hS : SOK S) (hC : CH D S) (hM : MH D S) : nxL X d 299 i D := by
  obtain ⟨w1, w2, w3, w4, w5, w6⟩ := wix (i := i) (by omega)
  obtain ⟨D1, D2, b1, b2, b3, b4⟩ := both (X := X) (d := d) (p := f_lore S (X.2 (i + 1))) (C_lore (by omega) hS hC) (fun D1 h => M_lore (by omega) hS h) hS (ok_lore hS) hM
  unfold nxL
  rw [b_law_299]
  simp only [w1, w2, w3, w4, w5, Int.toNat_natCast]
  rw [if_pos (by omega), b1]
  simp only [ab_ci]
  rw [b_law_308]
  simp only [w1, w2, w3, w4, w5, Int.toNat_natCast]
  rw [if_pos (by omega), b2]
  simp only [ab_ci]
  rw [b_law_317, if_pos rfl, b_law_1850, w6]
  exact ⟨D2, _, rfl, (ok_lore hS), b3, b4⟩
theorem L_fault {X : Nat × (Nat → Int)} {d i : Nat} {D : DD} {S : St} (hd : 80 ≤ d) (hi : i + 6 ≤ X.1) (hX : X.1 ≤ 3072) (hx : ∀ k, i32 (X.2 k)) (hS : SOK S) (hC : CH D S) (hM : MH D S) : nxL X d 322 i D := by
  obtain ⟨w1, w2, w3, w4, w5, w6⟩ := wix (i := i) (by omega)
  obtain ⟨D1, D2, b1, b2, b3, b4⟩ := both (X := X) (d := d) (p := f_fault S (X.2 (i + 1))) (C_fault (by omega) hC) (fun D1 h => M_fault (by omega) hS h) hS hS hM
  unfold nxL
  rw [b_law_322]
  simp only [w1, w2, w3, w4, w5, Int.toNat_natCast]
  rw [if_pos (by omega), b1]
  simp only [ab_ci]
  rw [b_law_331]
  simp only [w1, w2, w3, w4, w5, Int.toNat_natCast]
  rw [if_pos (by omega), b2]
  simp only [ab_ci]
  rw [b_law_340, if_pos rfl, b_law_1850, w6]
  exact ⟨D2, _, rfl, hS, b3, b4⟩
theorem L_thing {X : Nat × (Nat → Int)} {d i : Nat} {D : DD} {S : St} (hd : 80 ≤ d) (hi : i + 6 ≤ X.1) (hX : X.1 ≤ 3072) (hx : ∀ k, i32 (X.2 k)) (hS : SOK S) (hC : CH D S) (hM : MH D S) : nxL X d 345 i D := by
  obtain ⟨w1, w2, w3, w4, w5, w6⟩ := wix (i := i) (by omega)
  obtain ⟨D1, D2, b1, b2, b3, b4⟩ := both (X := X) (d := d) (p := f_thing S (X.2 (i + 1)) (X.2 (i + 2))) (C_thing (by omega) hS hC) (fun D1 h => M_thing (by omega) hS h) hS hS hM
  unfold nxL
  rw [b_law_345]
  simp only [w1, w2, w3, w4, w5, Int.toNat_natCast]
  rw [if_pos (by omega), if_pos (by omega), b1]
  simp only [ab_ci]
  rw [b_law_359]
  simp only [w1, w2, w3, w4, w5, Int.toNat_natCast]
  rw [if_pos (by omega), if_pos (by omega), b2]
  simp only [ab_ci]
  rw [b_law_373, if_pos rfl, b_law_1850, w6]
  exact ⟨D2, _, rfl, hS, b3, b4⟩
theorem L_news {X : Nat × (Nat → Int)} {d i : Nat} {D : DD} {S : St} (hd : 80 ≤ d) (hi : i + 6 ≤ X.1) (hX : X.1 ≤ 3072) (hx : ∀ k, i32 (X.2 k)) (hS : SOK S) (hC : CH D S) (hM : MH D S) : nxL X d 378 i D := by
  obtain ⟨w1, w2, w3, w4, w5, w6⟩ := wix (i := i) (by omega)
  obtain ⟨D1, D2, b1, b2, b3, b4⟩ := both (X := X) (d := d) (p := f_news S (X.2 (i + 1)) (X.2 (i + 2))) (C_news (by omega) hS hC) (fun D1 h => M_news (by omega) hS h) hS hS hM
  unfold nxL
  rw [b_law_378]
  simp only [w1, w2, w3, w4, w5, Int.toNat_natCast]
  rw [if_pos (by omega), if_pos (by omega), b1]
  simp only [ab_ci]
  rw [b_law_392]
  simp only [w1, w2, w3, w4, w5, Int.toNat_natCast]
  rw [if_pos (by omega), if_pos (by omega), b2]
  simp only [ab_ci]
  rw [b_law_406, if_pos rfl, b_law_1850, w6]
  exact ⟨D2, _, rfl, hS, b3, b4⟩
theorem L_comes {X : Nat × (Nat → Int)} {d i : Nat} {D : DD} {S : St} (hd : 80 ≤ d) (hi : i + 6 ≤ X.1) (hX : X.1 ≤ 3072) (hx : ∀ k, i32 (X.2 k)) (hS : SOK S) (hC : CH D S) (hM : MH D S) : nxL X d 411 i D := by
  obtain ⟨w1, w2, w3, w4, w5, w6⟩ := wix (i := i) (by omega)
  obtain ⟨D1, D2, b1, b2, b3, b4⟩ := both (X := X) (d := d) (p := f_comes S (X.2 (i + 1))) (C_comes (by omega) hS hC) (fun D1 h => M_comes (by omega) hS h) hS (ok_comes hS) hM
  unfold nxL
  rw [b_law_411]
  simp only [w1, w2, w3, w4, w5, Int.toNat_natCast]
  rw [if_pos (by omega), b1]
  simp only [ab_ci]
  rw [b_law_420]
  simp only [w1, w2, w3, w4, w5, Int.toNat_natCast]
  rw [if_pos (by omega), b2]
  simp only [ab_ci]
  rw [b_law_429, if_pos rfl, b_law_1850, w6]
  exact ⟨D2, _, rfl, (ok_comes hS), b3, b4⟩
theorem L_of {X : Nat × (Nat → Int)} {d i : Nat} {D : DD} {S : St} (hd : 80 ≤ d) (hi : i + 6 ≤ X.1) (hX : X.1 ≤ 3072) (hx : ∀ k, i32 (X.2 k)) (hS : SOK S) (hC : CH D S) (hM : MH D S) : nxL X d 434 i D := by
  obtain ⟨w1, w2, w3, w4, w5, w6⟩ := wix (i := i) (by omega)
  obtain ⟨D1, D2, b1, b2, b3, b4⟩ := both (X := X) (d := d) (p := f_of S (X.2 (i + 1)) (X.2 (i + 2))) (C_of (by omega) hS (hx _) hC) (fun D1 h => M_of (by omega) hS (hx _) h) hS hS hM
  unfold nxL
  rw [b_law_434]
  simp only [w1, w2, w3, w4, w5, Int.toNat_natCast]
  rw [if_pos (by omega), if_pos (by omega), b1]
  simp only [ab_ci]
  rw [b_law_448]
  simp only [w1, w2, w3, w4, w5, Int.toNat_natCast]
  rw [if_pos (by omega), if_pos (by omega), b2]
  simp only [ab_ci]
  rw [b_law_462, if_pos rfl, b_law_1850, w6]
  exact ⟨D2, _, rfl, hS, b3, b4⟩
theorem L_lost {X : Nat × (Nat → Int)} {d i : Nat} {D : DD} {S : St} (hd : 80 ≤ d) (hi : i + 6 ≤ X.1) (hX : X.1 ≤ 3072) (hx : ∀ k, i32 (X.2 k)) (hS : SOK S) (hC : CH D S) (hM : MH D S) : nxL X d 467 i D := by
  obtain ⟨w1, w2, w3, w4, w5, w6⟩ := wix (i := i) (by omega)
  obtain ⟨D1, D2, b1, b2, b3, b4⟩ := both (X := X) (d := d) (p := f_lost S (X.2 (i + 1)) (X.2 (i + 2))) (C_lost (by omega) hS hC) (fun D1 h => M_lost (by omega) hS h) hS hS hM
  unfold nxL
  rw [b_law_467]
  simp only [w1, w2, w3, w4, w5, Int.toNat_natCast]
  rw [if_pos (by omega), if_pos (by omega), b1]
  simp only [ab_ci]
  rw [b_law_481]
  simp only [w1, w2, w3, w4, w5, Int.toNat_natCast]
  rw [if_pos (by omega), if_pos (by omega), b2]
  simp only [ab_ci]
  rw [b_law_495, if_pos rfl, b_law_1850, w6]
  exact ⟨D2, _, rfl, hS, b3, b4⟩
theorem L_hears {X : Nat × (Nat → Int)} {d i : Nat} {D : DD} {S : St} (hd : 80 ≤ d) (hi : i + 6 ≤ X.1) (hX : X.1 ≤ 3072) (hx : ∀ k, i32 (X.2 k)) (hS : SOK S) (hC : CH D S) (hM : MH D S) : nxL X d 500 i D := by
  obtain ⟨w1, w2, w3, w4, w5, w6⟩ := wix (i := i) (by omega)
  obtain ⟨D1, D2, b1, b2, b3, b4⟩ := both (X := X) (d := d) (p := f_hears S (X.2 (i + 1)) (X.2 (i + 2))) (C_hears (by omega) hS hC) (fun D1 h => M_hears (by omega) hS h) hS (ok_hears hS) hM
  unfold nxL
  rw [b_law_500]
  simp only [w1, w2, w3, w4, w5, Int.toNat_natCast]
  rw [if_pos (by omega), if_pos (by omega), b1]
  simp only [ab_ci]
  rw [b_law_514]
  simp only [w1, w2, w3, w4, w5, Int.toNat_natCast]
  rw [if_pos (by omega), if_pos (by omega), b2]
  simp only [ab_ci]
  rw [b_law_528, if_pos rfl, b_law_1850, w6]
  exact ⟨D2, _, rfl, (ok_hears hS), b3, b4⟩
theorem L_says {X : Nat × (Nat → Int)} {d i : Nat} {D : DD} {S : St} (hd : 80 ≤ d) (hi : i + 6 ≤ X.1) (hX : X.1 ≤ 3072) (hx : ∀ k, i32 (X.2 k)) (hS : SOK S) (hC : CH D S) (hM : MH D S) : nxL X d 533 i D := by
  obtain ⟨w1, w2, w3, w4, w5, w6⟩ := wix (i := i) (by omega)
  obtain ⟨D1, D2, b1, b2, b3, b4⟩ := both (X := X) (d := d) (p := f_says S (X.2 (i + 1)) (X.2 (i + 2))) (C_says (by omega) hS hC) (fun D1 h => M_says (by omega) hS h) hS (ok_says hS) hM
  unfold nxL
  rw [b_law_533]
  simp only [w1, w2, w3, w4, w5, Int.toNat_natCast]
  rw [if_pos (by omega), if_pos (by omega), b1]
  simp only [ab_ci]
  rw [b_law_547]
  simp only [w1, w2, w3, w4, w5, Int.toNat_natCast]
  rw [if_pos (by omega), if_pos (by omega), b2]
  simp only [ab_ci]
  rw [b_law_561, if_pos rfl, b_law_1850, w6]
  exact ⟨D2, _, rfl, (ok_says hS), b3, b4⟩
theorem L_tells {X : Nat × (Nat → Int)} {d i : Nat} {D : DD} {S : St} (hd : 80 ≤ d) (hi : i + 6 ≤ X.1) (hX : X.1 ≤ 3072) (hx : ∀ k, i32 (X.2 k)) (hS : SOK S) (hC : CH D S) (hM : MH D S) : nxL X d 566 i D := by
  obtain ⟨w1, w2, w3, w4, w5, w6⟩ := wix (i := i) (by omega)
  obtain ⟨D1, D2, b1, b2, b3, b4⟩ := both (X := X) (d := d) (p := f_tells S (X.2 (i + 1)) (X.2 (i + 2)) (X.2 (i + 3))) (C_tells (by omega) hS hC) (fun D1 h => M_tells (by omega) hS h) hS (ok_tells hS) hM
  unfold nxL
  rw [b_law_566]
  simp only [w1, w2, w3, w4, w5, Int.toNat_natCast]
  rw [if_pos (by omega), if_pos (by omega), if_pos (by omega), b1]
  simp only [ab_ci]
  rw [b_law_585]
  simp only [w1, w2, w3, w4, w5, Int.toNat_natCast]
  rw [if_pos (by omega), if_pos (by omega), if_pos (by omega), b2]
  simp only [ab_ci]
  rw [b_law_604, if_pos rfl, b_law_1850, w6]
  exact ⟨D2, _, rfl, (ok_tells hS), b3, b4⟩
theorem L_walks {X : Nat × (Nat → Int)} {d i : Nat} {D : DD} {S : St} (hd : 80 ≤ d) (hi : i + 6 ≤ X.1) (hX : X.1 ≤ 3072) (hx : ∀ k, i32 (X.2 k)) (hS : SOK S) (hC : CH D S) (hM : MH D S) : nxL X d 609 i D := by
  obtain ⟨w1, w2, w3, w4, w5, w6⟩ := wix (i := i) (by omega)
  obtain ⟨D1, D2, b1, b2, b3, b4⟩ := both (X := X) (d := d) (p := f_walks S (X.2 (i + 1)) (X.2 (i + 2))) (C_walks (by omega) hS hC) (fun D1 h => M_walks (by omega) hS h) hS (ok_walks hS) hM
  unfold nxL
  rw [b_law_609]
  simp only [w1, w2, w3, w4, w5, Int.toNat_natCast]
  rw [if_pos (by omega), if_pos (by omega), b1]
  simp only [ab_ci]
  rw [b_law_623]
  simp only [w1, w2, w3, w4, w5, Int.toNat_natCast]
  rw [if_pos (by omega), if_pos (by omega), b2]
  simp only [ab_ci]
  rw [b_law_637, if_pos rfl, b_law_1850, w6]
  exact ⟨D2, _, rfl, (ok_walks hS), b3, b4⟩
theorem L_recites {X : Nat × (Nat → Int)} {d i : Nat} {D : DD} {S : St} (hd : 80 ≤ d) (hi : i + 6 ≤ X.1) (hX : X.1 ≤ 3072) (hx : ∀ k, i32 (X.2 k)) (hS : SOK S) (hC : CH D S) (hM : MH D S) : nxL X d 642 i D := by
  obtain ⟨w1, w2, w3, w4, w5, w6⟩ := wix (i := i) (by omega)
  obtain ⟨D1, D2, b1, b2, b3, b4⟩ := both (X := X) (d := d) (p := f_recites S (X.2 (i + 1)) (X.2 (i + 2))) (C_recites (by omega) hS hC) (fun D1 h => M_recites (by omega) hS h) hS (ok_recites hS) hM
  unfold nxL
  rw [b_law_642]
  simp only [w1, w2, w3, w4, w5, Int.toNat_natCast]
  rw [if_pos (by omega), if_pos (by omega), b1]
  simp only [ab_ci]
  rw [b_law_656]
  simp only [w1, w2, w3, w4, w5, Int.toNat_natCast]
  rw [if_pos (by omega), if_pos (by omega), b2]
  simp only [ab_ci]
  rw [b_law_670, if_pos rfl, b_law_1850, w6]
  exact ⟨D2, _, rfl, (ok_recites hS), b3, b4⟩
theorem L_delivers {X : Nat × (Nat → Int)} {d i : Nat} {D : DD} {S : St} (hd : 80 ≤ d) (hi : i + 6 ≤ X.1) (hX : X.1 ≤ 3072) (hx : ∀ k, i32 (X.2 k)) (hS : SOK S) (hC : CH D S) (hM : MH D S) : nxL X d 675 i D := by
  obtain ⟨w1, w2, w3, w4, w5, w6⟩ := wix (i := i) (by omega)
  obtain ⟨D1, D2, b1, b2, b3, b4⟩ := both (X := X) (d := d) (p := f_delivers S (X.2 (i + 1))) (C_delivers (by omega) hS hC) (fun D1 h => M_delivers (by omega) hS h) hS (ok_delivers hS) hM
  unfold nxL
  rw [b_law_675]
  simp only [w1, w2, w3, w4, w5, Int.toNat_natCast]
  rw [if_pos (by omega), b1]
  simp only [ab_ci]
  rw [b_law_684]
  simp only [w1, w2, w3, w4, w5, Int.toNat_natCast]
  rw [if_pos (by omega), b2]
  simp only [ab_ci]
  rw [b_law_693, if_pos rfl, b_law_1850, w6]
  exact ⟨D2, _, rfl, (ok_delivers hS), b3, b4⟩
theorem L_breach {X : Nat × (Nat → Int)} {d i : Nat} {D : DD} {S : St} (hd : 80 ≤ d) (hi : i + 6 ≤ X.1) (hX : X.1 ≤ 3072) (hx : ∀ k, i32 (X.2 k)) (hS : SOK S) (hC : CH D S) (hM : MH D S) : nxL X d 698 i D := by
  obtain ⟨w1, w2, w3, w4, w5, w6⟩ := wix (i := i) (by omega)
  obtain ⟨D1, D2, b1, b2, b3, b4⟩ := both (X := X) (d := d) (p := f_breach S) (C_breach (by omega) hS hC) (fun D1 h => M_breach (by omega) hS h) hS hS hM
  unfold nxL
  rw [b_law_698]
  rw [b1]
  simp only [ab_ci]
  rw [b_law_702]
  rw [b2]
  simp only [ab_ci]
  rw [b_law_706, if_pos rfl, b_law_1850, w6]
  exact ⟨D2, _, rfl, hS, b3, b4⟩
theorem L_risk {X : Nat × (Nat → Int)} {d i : Nat} {D : DD} {S : St} (hd : 80 ≤ d) (hi : i + 6 ≤ X.1) (hX : X.1 ≤ 3072) (hx : ∀ k, i32 (X.2 k)) (hS : SOK S) (hC : CH D S) (hM : MH D S) : nxL X d 711 i D := by
  obtain ⟨w1, w2, w3, w4, w5, w6⟩ := wix (i := i) (by omega)
  obtain ⟨D1, D2, b1, b2, b3, b4⟩ := both (X := X) (d := d) (p := f_risk S (X.2 (i + 1)) (X.2 (i + 2))) (C_risk (by omega) hS hC) (fun D1 h => M_risk (by omega) hS h) hS hS hM
  unfold nxL
  rw [b_law_711]
  simp only [w1, w2, w3, w4, w5, Int.toNat_natCast]
  rw [if_pos (by omega), if_pos (by omega), b1]
  simp only [ab_ci]
  rw [b_law_725]
  simp only [w1, w2, w3, w4, w5, Int.toNat_natCast]
  rw [if_pos (by omega), if_pos (by omega), b2]
  simp only [ab_ci]
  rw [b_law_739, if_pos rfl, b_law_1850, w6]
  exact ⟨D2, _, rfl, hS, b3, b4⟩
theorem L_loud {X : Nat × (Nat → Int)} {d i : Nat} {D : DD} {S : St} (hd : 80 ≤ d) (hi : i + 6 ≤ X.1) (hX : X.1 ≤ 3072) (hx : ∀ k, i32 (X.2 k)) (hS : SOK S) (hC : CH D S) (hM : MH D S) : nxL X d 744 i D := by
  obtain ⟨w1, w2, w3, w4, w5, w6⟩ := wix (i := i) (by omega)
  obtain ⟨D1, D2, b1, b2, b3, b4⟩ := both (X := X) (d := d) (p := f_loud S (X.2 (i + 1)) (X.2 (i + 2))) (C_loud (by omega) hS hC) (fun D1 h => M_loud (by omega) hS h) hS hS hM
  unfold nxL
  rw [b_law_744]
  simp only [w1, w2, w3, w4, w5, Int.toNat_natCast]
  rw [if_pos (by omega), if_pos (by omega), b1]
  simp only [ab_ci]
  rw [b_law_758]
  simp only [w1, w2, w3, w4, w5, Int.toNat_natCast]
  rw [if_pos (by omega), if_pos (by omega), b2]
  simp only [ab_ci]
  rw [b_law_772, if_pos rfl, b_law_1850, w6]
  exact ⟨D2, _, rfl, hS, b3, b4⟩
theorem L_turned {X : Nat × (Nat → Int)} {d i : Nat} {D : DD} {S : St} (hd : 80 ≤ d) (hi : i + 6 ≤ X.1) (hX : X.1 ≤ 3072) (hx : ∀ k, i32 (X.2 k)) (hS : SOK S) (hC : CH D S) (hM : MH D S) : nxL X d 777 i D := by
  obtain ⟨w1, w2, w3, w4, w5, w6⟩ := wix (i := i) (by omega)
  obtain ⟨D1, D2, b1, b2, b3, b4⟩ := both (X := X) (d := d) (p := f_turned S (X.2 (i + 1)) (X.2 (i + 2))) (C_turned (by omega) hS hC) (fun D1 h => M_turned (by omega) hS h) hS hS hM
  unfold nxL
  rw [b_law_777]
  simp only [w1, w2, w3, w4, w5, Int.toNat_natCast]
  rw [if_pos (by omega), if_pos (by omega), b1]
  simp only [ab_ci]
  rw [b_law_791]
  simp only [w1, w2, w3, w4, w5, Int.toNat_natCast]
  rw [if_pos (by omega), if_pos (by omega), b2]
  simp only [ab_ci]
  rw [b_law_805, if_pos rfl, b_law_1850, w6]
  exact ⟨D2, _, rfl, hS, b3, b4⟩
theorem L_judge {X : Nat × (Nat → Int)} {d i : Nat} {D : DD} {S : St} (hd : 80 ≤ d) (hi : i + 6 ≤ X.1) (hX : X.1 ≤ 3072) (hx : ∀ k, i32 (X.2 k)) (hS : SOK S) (hC : CH D S) (hM : MH D S) : nxL X d 810 i D := by
  obtain ⟨w1, w2, w3, w4, w5, w6⟩ := wix (i := i) (by omega)
  obtain ⟨D1, D2, b1, b2, b3, b4⟩ := both (X := X) (d := d) (p := f_judge S (X.2 (i + 1)) (X.2 (i + 2)) (X.2 (i + 3))) (C_judge (by omega) hS hC) (fun D1 h => M_judge (by omega) hS h) hS hS hM
  unfold nxL
  rw [b_law_810]
  simp only [w1, w2, w3, w4, w5, Int.toNat_natCast]
  rw [if_pos (by omega), if_pos (by omega), if_pos (by omega), b1]
  simp only [ab_ci]
  rw [b_law_829]
  simp only [w1, w2, w3, w4, w5, Int.toNat_natCast]
  rw [if_pos (by omega), if_pos (by omega), if_pos (by omega), b2]
  simp only [ab_ci]
  rw [b_law_848, if_pos rfl, b_law_1850, w6]
  exact ⟨D2, _, rfl, hS, b3, b4⟩
theorem L_perform {X : Nat × (Nat → Int)} {d i : Nat} {D : DD} {S : St} (hd : 80 ≤ d) (hi : i + 6 ≤ X.1) (hX : X.1 ≤ 3072) (hx : ∀ k, i32 (X.2 k)) (hS : SOK S) (hC : CH D S) (hM : MH D S) : nxL X d 853 i D := by
  obtain ⟨w1, w2, w3, w4, w5, w6⟩ := wix (i := i) (by omega)
  obtain ⟨D1, D2, b1, b2, b3, b4⟩ := both (X := X) (d := d) (p := f_perform S (X.2 (i + 1)) (X.2 (i + 2))) (C_perform (by omega) hS hC) (fun D1 h => M_perform (by omega) hS h) hS (ok_perform hS) hM
  unfold nxL
  rw [b_law_853]
  simp only [w1, w2, w3, w4, w5, Int.toNat_natCast]
  rw [if_pos (by omega), if_pos (by omega), b1]
  simp only [ab_ci]
  rw [b_law_867]
  simp only [w1, w2, w3, w4, w5, Int.toNat_natCast]
  rw [if_pos (by omega), if_pos (by omega), b2]
  simp only [ab_ci]
  rw [b_law_881, if_pos rfl, b_law_1850, w6]
  exact ⟨D2, _, rfl, (ok_perform hS), b3, b4⟩
theorem L_day {X : Nat × (Nat → Int)} {d i : Nat} {D : DD} {S : St} (hd : 80 ≤ d) (hi : i + 6 ≤ X.1) (hX : X.1 ≤ 3072) (hx : ∀ k, i32 (X.2 k)) (hS : SOK S) (hC : CH D S) (hM : MH D S) : nxL X d 886 i D := by
  obtain ⟨w1, w2, w3, w4, w5, w6⟩ := wix (i := i) (by omega)
  obtain ⟨D1, D2, b1, b2, b3, b4⟩ := both (X := X) (d := d) (p := f_day S (X.2 (i + 1)) (X.2 (i + 2))) (C_day (by omega) hS hC) (fun D1 h => M_day (by omega) hS h) hS (ok_day hS) hM
  unfold nxL
  rw [b_law_886]
  simp only [w1, w2, w3, w4, w5, Int.toNat_natCast]
  rw [if_pos (by omega), if_pos (by omega), b1]
  simp only [ab_ci]
  rw [b_law_900]
  simp only [w1, w2, w3, w4, w5, Int.toNat_natCast]
  rw [if_pos (by omega), if_pos (by omega), b2]
  simp only [ab_ci]
  rw [b_law_914, if_pos rfl, b_law_1850, w6]
  exact ⟨D2, _, rfl, (ok_day hS), b3, b4⟩
theorem L_fresh {X : Nat × (Nat → Int)} {d i : Nat} {D : DD} {S : St} (hd : 80 ≤ d) (hi : i + 6 ≤ X.1) (hX : X.1 ≤ 3072) (hx : ∀ k, i32 (X.2 k)) (hS : SOK S) (hC : CH D S) (hM : MH D S) : nxL X d 919 i D := by
  obtain ⟨w1, w2, w3, w4, w5, w6⟩ := wix (i := i) (by omega)
  obtain ⟨D1, D2, b1, b2, b3, b4⟩ := both (X := X) (d := d) (p := f_fresh S (X.2 (i + 1)) (X.2 (i + 2)) (X.2 (i + 3))) (C_fresh (by omega) hS hC) (fun D1 h => M_fresh (by omega) hS h) hS hS hM
  unfold nxL
  rw [b_law_919]
  simp only [w1, w2, w3, w4, w5, Int.toNat_natCast]
  rw [if_pos (by omega), if_pos (by omega), if_pos (by omega), b1]
  simp only [ab_ci]
  rw [b_law_938]
  simp only [w1, w2, w3, w4, w5, Int.toNat_natCast]
  rw [if_pos (by omega), if_pos (by omega), if_pos (by omega), b2]
  simp only [ab_ci]
  rw [b_law_957, if_pos rfl, b_law_1850, w6]
  exact ⟨D2, _, rfl, hS, b3, b4⟩
theorem L_kept {X : Nat × (Nat → Int)} {d i : Nat} {D : DD} {S : St} (hd : 80 ≤ d) (hi : i + 6 ≤ X.1) (hX : X.1 ≤ 3072) (hx : ∀ k, i32 (X.2 k)) (hS : SOK S) (hC : CH D S) (hM : MH D S) : nxL X d 962 i D := by
  obtain ⟨w1, w2, w3, w4, w5, w6⟩ := wix (i := i) (by omega)
  obtain ⟨D1, D2, b1, b2, b3, b4⟩ := both (X := X) (d := d) (p := f_kept S (X.2 (i + 1)) (X.2 (i + 2)) (X.2 (i + 3))) (C_kept (by omega) hS hC) (fun D1 h => M_kept (by omega) hS h) hS hS hM
  unfold nxL
  rw [b_law_962]
  simp only [w1, w2, w3, w4, w5, Int.toNat_natCast]
  rw [if_pos (by omega), if_pos (by omega), if_pos (by omega), b1]
  simp only [ab_ci]
  rw [b_law_981]
  simp only [w1, w2, w3, w4, w5, Int.toNat_natCast]
  rw [if_pos (by omega), if_pos (by omega), if_pos (by omega), b2]
  simp only [ab_ci]
  rw [b_law_1000, if_pos rfl, b_law_1850, w6]
  exact ⟨D2, _, rfl, hS, b3, b4⟩
theorem L_less {X : Nat × (Nat → Int)} {d i : Nat} {D : DD} {S : St} (hd : 80 ≤ d) (hi : i + 6 ≤ X.1) (hX : X.1 ≤ 3072) (hx : ∀ k, i32 (X.2 k)) (hS : SOK S) (hC : CH D S) (hM : MH D S) : nxL X d 1005 i D := by
  obtain ⟨w1, w2, w3, w4, w5, w6⟩ := wix (i := i) (by omega)
  obtain ⟨D1, D2, b1, b2, b3, b4⟩ := both (X := X) (d := d) (p := f_less S (X.2 (i + 1))) (C_less (by omega) hS hC) (fun D1 h => M_less (by omega) hS h) hS hS hM
  unfold nxL
  rw [b_law_1005]
  simp only [w1, w2, w3, w4, w5, Int.toNat_natCast]
  rw [if_pos (by omega), b1]
  simp only [ab_ci]
  rw [b_law_1014]
  simp only [w1, w2, w3, w4, w5, Int.toNat_natCast]
  rw [if_pos (by omega), b2]
  simp only [ab_ci]
  rw [b_law_1023, if_pos rfl, b_law_1850, w6]
  exact ⟨D2, _, rfl, hS, b3, b4⟩
theorem L_enough {X : Nat × (Nat → Int)} {d i : Nat} {D : DD} {S : St} (hd : 80 ≤ d) (hi : i + 6 ≤ X.1) (hX : X.1 ≤ 3072) (hx : ∀ k, i32 (X.2 k)) (hS : SOK S) (hC : CH D S) (hM : MH D S) : nxL X d 1028 i D := by
  obtain ⟨w1, w2, w3, w4, w5, w6⟩ := wix (i := i) (by omega)
  obtain ⟨D1, D2, b1, b2, b3, b4⟩ := both (X := X) (d := d) (p := f_enough S (X.2 (i + 1)) (X.2 (i + 2)) (X.2 (i + 3))) (C_enough (by omega) hS hC) (fun D1 h => M_enough (by omega) hS h) hS hS hM
  unfold nxL
  rw [b_law_1028]
  simp only [w1, w2, w3, w4, w5, Int.toNat_natCast]
  rw [if_pos (by omega), if_pos (by omega), if_pos (by omega), b1]
  simp only [ab_ci]
  rw [b_law_1047]
  simp only [w1, w2, w3, w4, w5, Int.toNat_natCast]
  rw [if_pos (by omega), if_pos (by omega), if_pos (by omega), b2]
  simp only [ab_ci]
  rw [b_law_1066, if_pos rfl, b_law_1850, w6]
  exact ⟨D2, _, rfl, hS, b3, b4⟩
theorem L_farBack {X : Nat × (Nat → Int)} {d i : Nat} {D : DD} {S : St} (hd : 80 ≤ d) (hi : i + 6 ≤ X.1) (hX : X.1 ≤ 3072) (hx : ∀ k, i32 (X.2 k)) (hS : SOK S) (hC : CH D S) (hM : MH D S) : nxL X d 1071 i D := by
  obtain ⟨w1, w2, w3, w4, w5, w6⟩ := wix (i := i) (by omega)
  obtain ⟨D1, D2, b1, b2, b3, b4⟩ := both (X := X) (d := d) (p := f_farBack S (X.2 (i + 1)) (X.2 (i + 2))) (C_farBack (by omega) hS hC) (fun D1 h => M_farBack (by omega) hS h) hS hS hM
  unfold nxL
  rw [b_law_1071]
  simp only [w1, w2, w3, w4, w5, Int.toNat_natCast]
  rw [if_pos (by omega), if_pos (by omega), b1]
  simp only [ab_ci]
  rw [b_law_1085]
  simp only [w1, w2, w3, w4, w5, Int.toNat_natCast]
  rw [if_pos (by omega), if_pos (by omega), b2]
  simp only [ab_ci]
  rw [b_law_1099, if_pos rfl, b_law_1850, w6]
  exact ⟨D2, _, rfl, hS, b3, b4⟩
theorem L_through {X : Nat × (Nat → Int)} {d i : Nat} {D : DD} {S : St} (hd : 80 ≤ d) (hi : i + 6 ≤ X.1) (hX : X.1 ≤ 3072) (hx : ∀ k, i32 (X.2 k)) (hS : SOK S) (hC : CH D S) (hM : MH D S) : nxL X d 1104 i D := by
  obtain ⟨w1, w2, w3, w4, w5, w6⟩ := wix (i := i) (by omega)
  obtain ⟨D1, D2, b1, b2, b3, b4⟩ := both (X := X) (d := d) (p := f_through S (X.2 (i + 1)) (X.2 (i + 2)) (X.2 (i + 3))) (C_through (by omega) hS hC) (fun D1 h => M_through (by omega) hS h) hS hS hM
  unfold nxL
  rw [b_law_1104]
  simp only [w1, w2, w3, w4, w5, Int.toNat_natCast]
  rw [if_pos (by omega), if_pos (by omega), if_pos (by omega), b1]
  simp only [ab_ci]
  rw [b_law_1123]
  simp only [w1, w2, w3, w4, w5, Int.toNat_natCast]
  rw [if_pos (by omega), if_pos (by omega), if_pos (by omega), b2]
  simp only [ab_ci]
  rw [b_law_1142, if_pos rfl, b_law_1850, w6]
  exact ⟨D2, _, rfl, hS, b3, b4⟩
theorem L_sizeFor {X : Nat × (Nat → Int)} {d i : Nat} {D : DD} {S : St} (hd : 80 ≤ d) (hi : i + 6 ≤ X.1) (hX : X.1 ≤ 3072) (hx : ∀ k, i32 (X.2 k)) (hS : SOK S) (hC : CH D S) (hM : MH D S) : nxL X d 1147 i D := by
  obtain ⟨w1, w2, w3, w4, w5, w6⟩ := wix (i := i) (by omega)
  obtain ⟨D1, D2, b1, b2, b3, b4⟩ := both (X := X) (d := d) (p := f_sizeFor S (X.2 (i + 1)) (X.2 (i + 2))) (C_sizeFor (by omega) hS hC) (fun D1 h => M_sizeFor (by omega) hS h) hS hS hM
  unfold nxL
  rw [b_law_1147]
  simp only [w1, w2, w3, w4, w5, Int.toNat_natCast]
  rw [if_pos (by omega), if_pos (by omega), b1]
  simp only [ab_ci]
  rw [b_law_1161]
  simp only [w1, w2, w3, w4, w5, Int.toNat_natCast]
  rw [if_pos (by omega), if_pos (by omega), b2]
  simp only [ab_ci]
  rw [b_law_1175, if_pos rfl, b_law_1850, w6]
  exact ⟨D2, _, rfl, hS, b3, b4⟩
theorem L_told {X : Nat × (Nat → Int)} {d i : Nat} {D : DD} {S : St} (hd : 80 ≤ d) (hi : i + 6 ≤ X.1) (hX : X.1 ≤ 3072) (hx : ∀ k, i32 (X.2 k)) (hS : SOK S) (hC : CH D S) (hM : MH D S) : nxL X d 1180 i D := by
  obtain ⟨w1, w2, w3, w4, w5, w6⟩ := wix (i := i) (by omega)
  obtain ⟨D1, D2, b1, b2, b3, b4⟩ := both (X := X) (d := d) (p := f_told S (X.2 (i + 1)) (X.2 (i + 2)) (X.2 (i + 3)) (X.2 (i + 4))) (C_told (by omega) hS (hx _) hC) (fun D1 h => M_told (by omega) hS h) hS hS hM
  unfold nxL
  rw [b_law_1180]
  simp only [w1, w2, w3, w4, w5, Int.toNat_natCast]
  rw [if_pos (by omega), if_pos (by omega), if_pos (by omega), if_pos (by omega), b1]
  simp only [ab_ci]
  rw [b_law_1204]
  simp only [w1, w2, w3, w4, w5, Int.toNat_natCast]
  rw [if_pos (by omega), if_pos (by omega), if_pos (by omega), if_pos (by omega), b2]
  simp only [ab_ci]
  rw [b_law_1228, if_pos rfl, b_law_1850, w6]
  exact ⟨D2, _, rfl, hS, b3, b4⟩
theorem L_back {X : Nat × (Nat → Int)} {d i : Nat} {D : DD} {S : St} (hd : 80 ≤ d) (hi : i + 6 ≤ X.1) (hX : X.1 ≤ 3072) (hx : ∀ k, i32 (X.2 k)) (hS : SOK S) (hC : CH D S) (hM : MH D S) : nxL X d 1233 i D := by
  obtain ⟨w1, w2, w3, w4, w5, w6⟩ := wix (i := i) (by omega)
  obtain ⟨D1, D2, b1, b2, b3, b4⟩ := both (X := X) (d := d) (p := f_back S (X.2 (i + 1))) (C_back (by omega) hS (hx _) hC) (fun D1 h => M_back (by omega) hS h) hS hS hM
  unfold nxL
  rw [b_law_1233]
  simp only [w1, w2, w3, w4, w5, Int.toNat_natCast]
  rw [if_pos (by omega), b1]
  simp only [ab_ci]
  rw [b_law_1242]
  simp only [w1, w2, w3, w4, w5, Int.toNat_natCast]
  rw [if_pos (by omega), b2]
  simp only [ab_ci]
  rw [b_law_1251, if_pos rfl, b_law_1850, w6]
  exact ⟨D2, _, rfl, hS, b3, b4⟩
theorem L_seeds {X : Nat × (Nat → Int)} {d i : Nat} {D : DD} {S : St} (hd : 80 ≤ d) (hi : i + 6 ≤ X.1) (hX : X.1 ≤ 3072) (hx : ∀ k, i32 (X.2 k)) (hS : SOK S) (hC : CH D S) (hM : MH D S) : nxL X d 1256 i D := by
  obtain ⟨w1, w2, w3, w4, w5, w6⟩ := wix (i := i) (by omega)
  obtain ⟨D1, D2, b1, b2, b3, b4⟩ := both (X := X) (d := d) (p := f_seeds S (X.2 (i + 1))) (C_seeds (by omega) hS (hx _) hC) (fun D1 h => M_seeds (by omega) hS h) hS hS hM
  unfold nxL
  rw [b_law_1256]
  simp only [w1, w2, w3, w4, w5, Int.toNat_natCast]
  rw [if_pos (by omega), b1]
  simp only [ab_ci]
  rw [b_law_1265]
  simp only [w1, w2, w3, w4, w5, Int.toNat_natCast]
  rw [if_pos (by omega), b2]
  simp only [ab_ci]
  rw [b_law_1274, if_pos rfl, b_law_1850, w6]
  exact ⟨D2, _, rfl, hS, b3, b4⟩
theorem L_road {X : Nat × (Nat → Int)} {d i : Nat} {D : DD} {S : St} (hd : 80 ≤ d) (hi : i + 6 ≤ X.1) (hX : X.1 ≤ 3072) (hx : ∀ k, i32 (X.2 k)) (hS : SOK S) (hC : CH D S) (hM : MH D S) : nxL X d 1407 i D := by
  obtain ⟨w1, w2, w3, w4, w5, w6⟩ := wix (i := i) (by omega)
  obtain ⟨D1, D2, b1, b2, b3, b4⟩ := both (X := X) (d := d) (p := f_road S (X.2 (i + 1)) (X.2 (i + 2)) (X.2 (i + 3))) (C_road (by omega) hS hC) (fun D1 h => M_road (by omega) hS h) hS hS hM
  unfold nxL
  rw [b_law_1407]
  simp only [w1, w2, w3, w4, w5, Int.toNat_natCast]
  rw [if_pos (by omega), if_pos (by omega), if_pos (by omega), b1]
  simp only [ab_ci]
  rw [b_law_1426]
  simp only [w1, w2, w3, w4, w5, Int.toNat_natCast]
  rw [if_pos (by omega), if_pos (by omega), if_pos (by omega), b2]
  simp only [ab_ci]
  rw [b_law_1445, if_pos rfl, b_law_1850, w6]
  exact ⟨D2, _, rfl, hS, b3, b4⟩
theorem L_questions {X : Nat × (Nat → Int)} {d i : Nat} {D : DD} {S : St} (hd : 80 ≤ d) (hi : i + 6 ≤ X.1) (hX : X.1 ≤ 3072) (hx : ∀ k, i32 (X.2 k)) (hS : SOK S) (hC : CH D S) (hM : MH D S) : nxL X d 1450 i D := by
  obtain ⟨w1, w2, w3, w4, w5, w6⟩ := wix (i := i) (by omega)
  obtain ⟨D1, D2, b1, b2, b3, b4⟩ := both (X := X) (d := d) (p := f_questions S (X.2 (i + 1)) (X.2 (i + 2)) (X.2 (i + 3)) (X.2 (i + 4))) (C_questions (by omega) hS hC) (fun D1 h => M_questions (by omega) hS h) hS hS hM
  unfold nxL
  rw [b_law_1450]
  simp only [w1, w2, w3, w4, w5, Int.toNat_natCast]
  rw [if_pos (by omega), if_pos (by omega), if_pos (by omega), if_pos (by omega), b1]
  simp only [ab_ci]
  rw [b_law_1474]
  simp only [w1, w2, w3, w4, w5, Int.toNat_natCast]
  rw [if_pos (by omega), if_pos (by omega), if_pos (by omega), if_pos (by omega), b2]
  simp only [ab_ci]
  rw [b_law_1498, if_pos rfl, b_law_1850, w6]
  exact ⟨D2, _, rfl, hS, b3, b4⟩
theorem L_asked {X : Nat × (Nat → Int)} {d i : Nat} {D : DD} {S : St} (hd : 80 ≤ d) (hi : i + 6 ≤ X.1) (hX : X.1 ≤ 3072) (hx : ∀ k, i32 (X.2 k)) (hS : SOK S) (hC : CH D S) (hM : MH D S) : nxL X d 1503 i D := by
  obtain ⟨w1, w2, w3, w4, w5, w6⟩ := wix (i := i) (by omega)
  obtain ⟨D1, D2, b1, b2, b3, b4⟩ := both (X := X) (d := d) (p := f_asked S (X.2 (i + 1))) (C_asked (by omega) hS (hx _) hC) (fun D1 h => M_asked (by omega) hS h) hS hS hM
  unfold nxL
  rw [b_law_1503]
  simp only [w1, w2, w3, w4, w5, Int.toNat_natCast]
  rw [if_pos (by omega), b1]
  simp only [ab_ci]
  rw [b_law_1512]
  simp only [w1, w2, w3, w4, w5, Int.toNat_natCast]
  rw [if_pos (by omega), b2]
  simp only [ab_ci]
  rw [b_law_1521, if_pos rfl, b_law_1850, w6]
  exact ⟨D2, _, rfl, hS, b3, b4⟩
theorem L_broken {X : Nat × (Nat → Int)} {d i : Nat} {D : DD} {S : St} (hd : 80 ≤ d) (hi : i + 6 ≤ X.1) (hX : X.1 ≤ 3072) (hx : ∀ k, i32 (X.2 k)) (hS : SOK S) (hC : CH D S) (hM : MH D S) : nxL X d 1526 i D := by
  obtain ⟨w1, w2, w3, w4, w5, w6⟩ := wix (i := i) (by omega)
  obtain ⟨D1, D2, b1, b2, b3, b4⟩ := both (X := X) (d := d) (p := f_broken S (X.2 (i + 1)) (X.2 (i + 2))) (C_broken (by omega) hS (hx _) hC) (fun D1 h => M_broken (by omega) hS h) hS hS hM
  unfold nxL
  rw [b_law_1526]
  simp only [w1, w2, w3, w4, w5, Int.toNat_natCast]
  rw [if_pos (by omega), if_pos (by omega), b1]
  simp only [ab_ci]
  rw [b_law_1540]
  simp only [w1, w2, w3, w4, w5, Int.toNat_natCast]
  rw [if_pos (by omega), if_pos (by omega), b2]
  simp only [ab_ci]
  rw [b_law_1554, if_pos rfl, b_law_1850, w6]
  exact ⟨D2, _, rfl, hS, b3, b4⟩
theorem L_piece {X : Nat × (Nat → Int)} {d i : Nat} {D : DD} {S : St} (hd : 80 ≤ d) (hi : i + 6 ≤ X.1) (hX : X.1 ≤ 3072) (hx : ∀ k, i32 (X.2 k)) (hS : SOK S) (hC : CH D S) (hM : MH D S) : nxL X d 1559 i D := by
  obtain ⟨w1, w2, w3, w4, w5, w6⟩ := wix (i := i) (by omega)
  obtain ⟨D1, D2, b1, b2, b3, b4⟩ := both (X := X) (d := d) (p := f_piece S (X.2 (i + 1))) (C_piece (by omega) hS hC) (fun D1 h => M_piece (by omega) hS h) hS (ok_piece hS) hM
  unfold nxL
  rw [b_law_1559]
  simp only [w1, w2, w3, w4, w5, Int.toNat_natCast]
  rw [if_pos (by omega), b1]
  simp only [ab_ci]
  rw [b_law_1568]
  simp only [w1, w2, w3, w4, w5, Int.toNat_natCast]
  rw [if_pos (by omega), b2]
  simp only [ab_ci]
  rw [b_law_1577, if_pos rfl, b_law_1850, w6]
  exact ⟨D2, _, rfl, (ok_piece hS), b3, b4⟩
theorem L_joined {X : Nat × (Nat → Int)} {d i : Nat} {D : DD} {S : St} (hd : 80 ≤ d) (hi : i + 6 ≤ X.1) (hX : X.1 ≤ 3072) (hx : ∀ k, i32 (X.2 k)) (hS : SOK S) (hC : CH D S) (hM : MH D S) : nxL X d 1582 i D := by
  obtain ⟨w1, w2, w3, w4, w5, w6⟩ := wix (i := i) (by omega)
  obtain ⟨D1, D2, b1, b2, b3, b4⟩ := both (X := X) (d := d) (p := f_joined S (X.2 (i + 1))) (C_joined (by omega) hS hC) (fun D1 h => M_joined (by omega) hS h) hS hS hM
  unfold nxL
  rw [b_law_1582]
  simp only [w1, w2, w3, w4, w5, Int.toNat_natCast]
  rw [if_pos (by omega), b1]
  simp only [ab_ci]
  rw [b_law_1591]
  simp only [w1, w2, w3, w4, w5, Int.toNat_natCast]
  rw [if_pos (by omega), b2]
  simp only [ab_ci]
  rw [b_law_1600, if_pos rfl, b_law_1850, w6]
  exact ⟨D2, _, rfl, hS, b3, b4⟩
theorem L_unfit {X : Nat × (Nat → Int)} {d i : Nat} {D : DD} {S : St} (hd : 80 ≤ d) (hi : i + 6 ≤ X.1) (hX : X.1 ≤ 3072) (hx : ∀ k, i32 (X.2 k)) (hS : SOK S) (hC : CH D S) (hM : MH D S) : nxL X d 1605 i D := by
  obtain ⟨w1, w2, w3, w4, w5, w6⟩ := wix (i := i) (by omega)
  obtain ⟨D1, D2, b1, b2, b3, b4⟩ := both (X := X) (d := d) (p := f_unfit S) (C_unfit (by omega) hS hC) (fun D1 h => M_unfit (by omega) hS h) hS hS hM
  unfold nxL
  rw [b_law_1605]
  rw [b1]
  simp only [ab_ci]
  rw [b_law_1609]
  rw [b2]
  simp only [ab_ci]
  rw [b_law_1613, if_pos rfl, b_law_1850, w6]
  exact ⟨D2, _, rfl, hS, b3, b4⟩
theorem L_gaps {X : Nat × (Nat → Int)} {d i : Nat} {D : DD} {S : St} (hd : 80 ≤ d) (hi : i + 6 ≤ X.1) (hX : X.1 ≤ 3072) (hx : ∀ k, i32 (X.2 k)) (hS : SOK S) (hC : CH D S) (hM : MH D S) : nxL X d 1618 i D := by
  obtain ⟨w1, w2, w3, w4, w5, w6⟩ := wix (i := i) (by omega)
  obtain ⟨D1, D2, b1, b2, b3, b4⟩ := both (X := X) (d := d) (p := f_gaps S) (C_gaps (by omega) hS hC) (fun D1 h => M_gaps (by omega) hS h) hS hS hM
  unfold nxL
  rw [b_law_1618]
  rw [b1]
  simp only [ab_ci]
  rw [b_law_1622]
  rw [b2]
  simp only [ab_ci]
  rw [b_law_1626, if_pos rfl, b_law_1850, w6]
  exact ⟨D2, _, rfl, hS, b3, b4⟩
theorem L_numbers {X : Nat × (Nat → Int)} {d i : Nat} {D : DD} {S : St} (hd : 80 ≤ d) (hi : i + 6 ≤ X.1) (hX : X.1 ≤ 3072) (hx : ∀ k, i32 (X.2 k)) (hS : SOK S) (hC : CH D S) (hM : MH D S) : nxL X d 1631 i D := by
  obtain ⟨w1, w2, w3, w4, w5, w6⟩ := wix (i := i) (by omega)
  obtain ⟨D1, D2, b1, b2, b3, b4⟩ := both (X := X) (d := d) (p := f_numbers S (X.2 (i + 1)) (X.2 (i + 2)) (X.2 (i + 3))) (C_numbers (by omega) hS hC) (fun D1 h => M_numbers (by omega) hS h) hS (ok_numbers hS) hM
  unfold nxL
  rw [b_law_1631]
  simp only [w1, w2, w3, w4, w5, Int.toNat_natCast]
  rw [if_pos (by omega), if_pos (by omega), if_pos (by omega), b1]
  simp only [ab_ci]
  rw [b_law_1650]
  simp only [w1, w2, w3, w4, w5, Int.toNat_natCast]
  rw [if_pos (by omega), if_pos (by omega), if_pos (by omega), b2]
  simp only [ab_ci]
  rw [b_law_1669, if_pos rfl, b_law_1850, w6]
  exact ⟨D2, _, rfl, (ok_numbers hS), b3, b4⟩
theorem L_copy {X : Nat × (Nat → Int)} {d i : Nat} {D : DD} {S : St} (hd : 80 ≤ d) (hi : i + 6 ≤ X.1) (hX : X.1 ≤ 3072) (hx : ∀ k, i32 (X.2 k)) (hS : SOK S) (hC : CH D S) (hM : MH D S) : nxL X d 1748 i D := by
  obtain ⟨w1, w2, w3, w4, w5, w6⟩ := wix (i := i) (by omega)
  obtain ⟨D1, D2, b1, b2, b3, b4⟩ := both (X := X) (d := d) (p := f_copy S (X.2 (i + 1)) (X.2 (i + 2))) (C_copy (by omega) hS hC) (fun D1 h => M_copy (by omega) hS h) hS (ok_copy hS) hM
  unfold nxL
  rw [b_law_1748]
  simp only [w1, w2, w3, w4, w5, Int.toNat_natCast]
  rw [if_pos (by omega), if_pos (by omega), b1]
  simp only [ab_ci]
  rw [b_law_1762]
  simp only [w1, w2, w3, w4, w5, Int.toNat_natCast]
  rw [if_pos (by omega), if_pos (by omega), b2]
  simp only [ab_ci]
  rw [b_law_1776, if_pos rfl, b_law_1850, w6]
  exact ⟨D2, _, rfl, (ok_copy hS), b3, b4⟩
theorem L_image {X : Nat × (Nat → Int)} {d i : Nat} {D : DD} {S : St} (hd : 80 ≤ d) (hi : i + 6 ≤ X.1) (hX : X.1 ≤ 3072) (hx : ∀ k, i32 (X.2 k)) (hS : SOK S) (hC : CH D S) (hM : MH D S) : nxL X d 1781 i D := by
  obtain ⟨w1, w2, w3, w4, w5, w6⟩ := wix (i := i) (by omega)
  obtain ⟨D1, D2, b1, b2, b3, b4⟩ := both (X := X) (d := d) (p := f_image S (X.2 (i + 1))) (C_image (by omega) hS hC) (fun D1 h => M_image (by omega) hS h) hS (ok_image hS) hM
  unfold nxL
  rw [b_law_1781]
  simp only [w1, w2, w3, w4, w5, Int.toNat_natCast]
  rw [if_pos (by omega), b1]
  simp only [ab_ci]
  rw [b_law_1790]
  simp only [w1, w2, w3, w4, w5, Int.toNat_natCast]
  rw [if_pos (by omega), b2]
  simp only [ab_ci]
  rw [b_law_1799, if_pos rfl, b_law_1850, w6]
  exact ⟨D2, _, rfl, (ok_image hS), b3, b4⟩
theorem L_restore {X : Nat × (Nat → Int)} {d i : Nat} {D : DD} {S : St} (hd : 80 ≤ d) (hi : i + 6 ≤ X.1) (hX : X.1 ≤ 3072) (hx : ∀ k, i32 (X.2 k)) (hS : SOK S) (hC : CH D S) (hM : MH D S) : nxL X d 1804 i D := by
  obtain ⟨w1, w2, w3, w4, w5, w6⟩ := wix (i := i) (by omega)
  obtain ⟨D1, D2, b1, b2, b3, b4⟩ := both (X := X) (d := d) (p := f_restore S (X.2 (i + 1))) (C_restore (by omega) hS hC) (fun D1 h => M_restore (by omega) hS h) hS (ok_restore hS) hM
  unfold nxL
  rw [b_law_1804]
  simp only [w1, w2, w3, w4, w5, Int.toNat_natCast]
  rw [if_pos (by omega), b1]
  simp only [ab_ci]
  rw [b_law_1813]
  simp only [w1, w2, w3, w4, w5, Int.toNat_natCast]
  rw [if_pos (by omega), b2]
  simp only [ab_ci]
  rw [b_law_1822, if_pos rfl, b_law_1850, w6]
  exact ⟨D2, _, rfl, (ok_restore hS), b3, b4⟩
theorem L_count {X : Nat × (Nat → Int)} {d i : Nat} {D : DD} {S : St} (hd : 80 ≤ d) (hi : i + 6 ≤ X.1) (hX : X.1 ≤ 3072) (hx : ∀ k, i32 (X.2 k)) (hS : SOK S) (hC : CH D S) (hM : MH D S) : nxL X d 1827 i D := by
  obtain ⟨w1, w2, w3, w4, w5, w6⟩ := wix (i := i) (by omega)
  obtain ⟨D1, D2, b1, b2, b3, b4⟩ := both (X := X) (d := d) (p := f_count S (X.2 (i + 1))) (C_count (by omega) hC) (fun D1 h => M_count (by omega) hS h) hS hS hM
  unfold nxL
  rw [b_law_1827]
  simp only [w1, w2, w3, w4, w5, Int.toNat_natCast]
  rw [if_pos (by omega), b1]
  simp only [ab_ci]
  rw [b_law_1836]
  simp only [w1, w2, w3, w4, w5, Int.toNat_natCast]
  rw [if_pos (by omega), b2]
  simp only [ab_ci]
  rw [b_law_1845, if_pos rfl, b_law_1850, w6]
  exact ⟨D2, _, rfl, hS, b3, b4⟩
end
