/-! deliver, hearLatestOf, recite of the class's courier; isThing, isInn -/
section
def isI (x : Int) (n : Nat) : Int := if 0 ≤ x ∧ x < (n : Int) then 1 else 0
theorem s_C_isThing {X : Nat × (Nat → Int)} {d : Nat} {D : DD} {q : Nat} {x : Int} {L : Nat → Nat} (hd : 1 ≤ d) (hl : LC D q L) : ev X d m_Lore_isThing [vR 5 q, vL x] (hp D) = some (some (vI (isI x (L 0))), hp D) := by
  obtain ⟨d, rfl⟩ : ∃ e, d = e + 1 := ⟨d - 1, by omega⟩
  rw [e_Lore_isThing, b_Lore_isThing_0, hl.1.1]
  simp only [cmp_lt, cmp_ge, isI]
  by_cases h1 : x < 0
  · rw [if_pos h1, if_neg (by omega)]
  · by_cases h2 : (L 0 : Int) ≤ x
    · rw [if_neg h1, if_pos h2, if_neg (by omega)]
    · rw [if_neg h1, if_neg h2, if_pos (by omega)]
theorem s_C_isInn {X : Nat × (Nat → Int)} {d : Nat} {D : DD} {q : Nat} {x : Int} {L : Nat → Nat} (hd : 1 ≤ d) (hl : LC D q L) : ev X d m_Lore_isInn [vR 5 q, vL x] (hp D) = some (some (vI (isI x (L 50))), hp D) := by
  obtain ⟨d, rfl⟩ : ∃ e, d = e + 1 := ⟨d - 1, by omega⟩
  rw [e_Lore_isInn, b_Lore_isInn_0, hl.1.2.2.2]
  simp only [cmp_lt, cmp_ge, isI]
  by_cases h1 : x < 0
  · rw [if_pos h1, if_neg (by omega)]
  · by_cases h2 : (L 50 : Int) ≤ x
    · rw [if_neg h1, if_pos h2, if_neg (by omega)]
    · rw [if_neg h1, if_neg h2, if_pos (by omega)]
def dlF (L : Nat → Nat) (z : Cr × Nat) (t : Nat) : Cr × Nat := if t ∈ cL z.1 then (sayV L z.1 t, z.2 ||| (2 ^ t ||| L (2 + t))) else z
def delV (L : Nat → Nat) (v : Cr) : Cr × Nat := (cL v).reverse.foldl (dlF L) (v, 0)
theorem dlF_ok {L : Nat → Nat} (hL : LOK L) {z : Cr × Nat} {t : Nat} (ht : t < 16) (h1 : okc z.1) (h2 : z.2 < 65536) : okc (dlF L z t).1 ∧ (dlF L z t).2 < 65536 := by
  unfold dlF
  split
  · have h3 : 2 ^ t < 2 ^ 16 := zb_p2 ht
    exact ⟨h1.say ht, Nat.or_lt_two_pow (n := 16) h2 (Nat.or_lt_two_pow h3 (hL.r ht))⟩
  · exact ⟨h1, h2⟩
theorem dlF_all {L : Nat → Nat} (hL : LOK L) {l : List Nat} (hl : ∀ t ∈ l, t < 16) {z : Cr × Nat} (h1 : okc z.1) (h2 : z.2 < 65536) : okc (l.foldl (dlF L) z).1 ∧ (l.foldl (dlF L) z).2 < 65536 := by
  induction l generalizing z with
  | nil => exact ⟨h1, h2⟩
  | cons t l ih =>
    obtain ⟨h3, h4⟩ := dlF_ok hL (hl t List.mem_cons_self) h1 h2
    exact ih (fun u hu => hl u (List.mem_cons_of_mem _ hu)) h3 h4
theorem okc.del {L : Nat → Nat} (hL : LOK L) {v : Cr} (h : okc v) : okc (delV L v).1 ∧ (delV L v).2 < 65536 := dlF_all hL (fun t ht => h.2.2.1 t (List.mem_reverse.mp ht)) h (by show 0 < 65536; omega)
theorem rev_take {l : List Nat} {k : Nat} (h : k < l.length) : (l.take (k + 1)).reverse = l.getD k 0 :: (l.take k).reverse := by
  rw [take_getD h, List.reverse_append]
  rfl
theorem s_C_deliver {X : Nat × (Nat → Int)} {d : Nat} {D : DD} {i q : Nat} {v : Cr} {L : Nat → Nat} (hd : 6 ≤ d) (hL : LOK L) (hl : LC D q L) (hv : okc v) (h : CC D i v) : ∃ D', ev X d m_Courier_deliver [vR 3 i, vR 5 q] (hp D) = some (some (vI ((delV L v).2 : Int)), hp D') ∧ CC D' i (delV L v).1 ∧ fr (cP i) D D' := by
  obtain ⟨d, rfl⟩ : ∃ e, d = e + 1 := ⟨d - 1, by omega⟩
  have o5 := hv.2.2.1
  have o6 := hv.2.2.2
  have o2 := hv.1.2.1
  have key : ∀ (m : Nat) (D : DD) (z : Cr × Nat), m ≤ (cL v).length → LC D q L → okc z.1 → z.2 < 65536 → CC D i z.1 → ∃ D', at_ X d cd_Courier_deliver 16 [vR 3 i, vR 5 q, vL (enc (cL v) : Int), vU, vI (z.2 : Int), vI ((m : Int) - 1), vU] [] (hp D) = some (some (vI ((((cL v).take m).reverse.foldl (dlF L) z).2 : Int)), hp D') ∧ CC D' i (((cL v).take m).reverse.foldl (dlF L) z).1 ∧ fr (cP i) D D' := by
    intro m
    induction m with
    | zero =>
      intro D z hm hl oz lz hz
      rw [b_Courier_deliver_16, if_pos (by omega)]
      exact ⟨D, rfl, hz, fr.rf D⟩
    | succ m ih =>
      intro D z hm hl oz lz hz
      have hb := enc_10 o5 (by omega)
      have eT : b_an (w32 (d_us (enc (cL v) : Int) (w32 (4 * (((m + 1 : Nat) : Int) - 1))))) 15 = (((cL v).getD m 0 : Nat) : Int) := by
        rw [show ((m + 1 : Nat) : Int) - 1 = (m : Int) by omega, zb_w (n := 4 * (m : Int)) (by omega) (by omega), show (4 : Int) * (m : Int) = ((4 * m : Nat) : Int) by omega, zd_us (by omega) (by omega), zb_and15, p16, enc_get o5]
      have ht : (cL v).getD m 0 < 16 := o5 _ (List.mem_of_getElem? (getD_some (by omega)))
      rw [b_Courier_deliver_16, if_neg (by omega), eT, s_C_has (l := cL z.1) (by omega) hz.2.2.2.1 oz.2.2.1 ht]
      simp only [ab_ci]
      rw [b_Courier_deliver_39, rev_take (by omega), List.foldl_cons]
      generalize (cL v).getD m 0 = t at ht ⊢
      obtain ⟨oz', lz'⟩ := dlF_ok hL ht oz lz
      by_cases hm2 : t ∈ cL z.1
      · have ed : dlF L z t = (sayV L z.1 t, z.2 ||| (2 ^ t ||| L (2 + t))) := by unfold dlF; rw [if_pos hm2]
        obtain ⟨D1, g1, g2, g3⟩ := s_C_say (X := X) (d := d) (D := D) (i := i) (q := q) (t := t) (v := z.1) (L := L) (by omega) hL hl oz hz ht
        have h3 : 2 ^ t < 2 ^ 16 := zb_p2 ht
        have h4 := hL.r ht
        have h5 : 2 ^ t ||| L (2 + t) < 2 ^ 16 := Nat.or_lt_two_pow h3 h4
        rw [if_pos hm2, if_neg (by omega), g1]
        simp only [ab_ci]
        rw [b_Courier_deliver_49, if_pos (by omega), Int.toNat_natCast, (hl.fc g3).2.1 t ht, zb_sl (by omega), zb_or (by omega) (by omega), zb_or (by omega) (by omega), b_Courier_deliver_67, zb_w (by omega) (by omega), show ((m + 1 : Nat) : Int) - 1 + -1 = (m : Int) - 1 by omega]
        rw [ed] at oz' lz' ⊢
        obtain ⟨D2, k1, k2, k3⟩ := ih D1 (sayV L z.1 t, z.2 ||| (2 ^ t ||| L (2 + t))) (by omega) (hl.fc g3) oz' lz' g2
        exact ⟨D2, k1, k2, g3.tr k3⟩
      · have ed : dlF L z t = z := by unfold dlF; rw [if_neg hm2]
        rw [if_neg hm2, if_pos rfl, b_Courier_deliver_67, zb_w (by omega) (by omega), show ((m + 1 : Nat) : Int) - 1 + -1 = (m : Int) - 1 by omega, ed]
        exact ih D z (by omega) hl oz lz hz
  rw [e_Courier_deliver, b_Courier_deliver_0, h.2.2.1, h.2.2.2.2.1, zb_w (by omega) (by omega)]
  have := key (cL v).length D (v, 0) (Nat.le_refl _) hl hv (by show 0 < 65536; omega) h
  rw [List.take_of_length_le (Nat.le_refl _)] at this
  exact this
theorem s_C_hearLatest {X : Nat × (Nat → Int)} {d : Nat} {D : DD} {i j : Nat} {v w : Cr} (hd : 5 ≤ d) (hij : i ≠ j) (hv : okc v) (h : CC D i v) (hw : okc w) (g : CC D j w) : ∃ D', ev X d m_Courier_hearLatestOf [vR 3 i, vR 3 j] (hp D) = some (none, hp D') ∧ CC D' i (hrs v (cL w).reverse) ∧ fr (cP i) D D' := by
  obtain ⟨d, rfl⟩ : ∃ e, d = e + 1 := ⟨d - 1, by omega⟩
  have o5 := hw.2.2.1
  have o6 := hw.2.2.2
  have o2 := hw.1.2.1
  have key : ∀ (m : Nat) (D : DD) (z : Cr), m ≤ (cL w).length → okc z → CC D i z → CC D j w → ∃ D', at_ X d cd_Courier_hearLatestOf 7 [vR 3 i, vR 3 j, vI ((m : Int) - 1)] [] (hp D) = some (none, hp D') ∧ CC D' i (hrs z ((cL w).take m).reverse) ∧ fr (cP i) D D' := by
    intro m
    induction m with
    | zero =>
      intro D z hm oz hz gz
      rw [b_Courier_hearLatestOf_7, if_pos (by omega)]
      exact ⟨D, rfl, hz, fr.rf D⟩
    | succ m ih =>
      intro D z hm oz hz gz
      have ht : (cL w).getD m 0 < 16 := o5 _ (List.mem_of_getElem? (getD_some (by omega)))
      rw [b_Courier_hearLatestOf_7, if_neg (by omega), show ((m + 1 : Nat) : Int) - 1 = (m : Int) by omega, s_C_thingAt (by omega) gz.2.2.2.2.1 o5 (by omega) (by omega)]
      simp only [ab_ci]
      obtain ⟨D1, g1, g2, g3⟩ := s_C_hear (X := X) (d := d) (D := D) (i := i) (t := (cL w).getD m 0) (v := z) (by omega) oz hz ht
      rw [b_Courier_hearLatestOf_17, g1]
      simp only [ab_ci]
      rw [b_Courier_hearLatestOf_20, zb_w (by omega) (by omega), show (m : Int) + -1 = (m : Int) - 1 by omega, rev_take (by omega)]
      obtain ⟨D2, k1, k2, k3⟩ := ih D1 (hrV z ((cL w).getD m 0)) (by omega) (oz.hr ht) g2 (gz.fr fun t k ht => g3 t j k (fun z => hij z.2.symm))
      exact ⟨D2, k1, k2, g3.tr k3⟩
  rw [e_Courier_hearLatestOf, b_Courier_hearLatestOf_0, g.2.2.1, zb_w (by omega) (by omega)]
  have := key (cL w).length D v (Nat.le_refl _) hv h g
  rw [List.take_of_length_le (Nat.le_refl _)] at this
  exact this
/-- a row of numbers: its sort and its numbers -/
abbrev Rw : Type := Nat × List Int
def okr (ρ : Option Rw) : Prop := match ρ with
  | none => True
  | some z => z.1 ≤ 3 ∧ z.2.length ≤ 40 ∧ ∀ x ∈ z.2, -9223372036854775808 ≤ x ∧ x < 9223372036854775808
def RWC (D : DD) (r : Nat) (ρ : Option Rw) : Prop := match ρ with
  | none => D 8 r 2 = 0
  | some z => D 8 r 1 = (z.2.length : Int) ∧ D 8 r 2 = 1 ∧ D 8 r 3 = (z.1 : Int) ∧ ∀ k, k < z.2.length → D 62 r k = z.2.getD k 0
theorem RWC.on {D D' : DD} {r : Nat} {ρ : Option Rw} (h : RWC D r ρ) (e : ∀ t k, (t = 8 ∨ t = 62) → D' t r k = D t r k) : RWC D' r ρ := by
  cases ρ with
  | none => exact (e 8 2 (Or.inl rfl)).trans h
  | some z =>
    obtain ⟨h1, h2, h3, h4⟩ := h
    exact ⟨(e _ _ (Or.inl rfl)).trans h1, (e _ _ (Or.inl rfl)).trans h2, (e _ _ (Or.inl rfl)).trans h3, fun k hk => (e _ _ (Or.inr rfl)).trans (h4 k hk)⟩
theorem RWC.fc {D D' : DD} {r i : Nat} {ρ : Option Rw} (h : RWC D r ρ) (e : fr (cP i) D D') : RWC D' r ρ := h.on fun t k ht => e t r k (fun z => by have := z.1; omega)
def rcF (L : Nat → Nat) (z : Cr × Nat) (x : Int) : Cr × Nat := if (0 ≤ x ∧ x < (L 0 : Int)) ∧ x.toNat ∈ cL z.1 then (sayV L z.1 x.toNat, z.2 + 1) else z
def recV (L : Nat → Nat) (v : Cr) (l : List Int) : Cr × Nat := l.foldl (rcF L) (v, 0)
theorem rcF_ok {L : Nat → Nat} (hL : LOK L) {z : Cr × Nat} {x : Int} (h1 : okc z.1) : okc (rcF L z x).1 ∧ (rcF L z x).2 ≤ z.2 + 1 := by
  unfold rcF
  split
  · rename_i h
    have := hL.1.1
    exact ⟨h1.say (by omega), Nat.le_refl _⟩
  · exact ⟨h1, by omega⟩
theorem okc.rec_ {L : Nat → Nat} (hL : LOK L) {l : List Int} {z : Cr × Nat} (h : okc z.1) : okc (l.foldl (rcF L) z).1 := by
  induction l generalizing z with
  | nil => exact h
  | cons x l ih => exact ih (rcF_ok hL h).1
theorem drop_getD {l : List Int} {k : Nat} (h : k < l.length) : l.drop k = l.getD k 0 :: l.drop (k + 1) := by
  rw [List.drop_eq_getElem_cons h, List.getD_eq_getElem?_getD, List.getElem?_eq_getElem h]
  rfl
theorem s_C_recite {X : Nat × (Nat → Int)} {d : Nat} {D : DD} {i q r : Nat} {v : Cr} {L : Nat → Nat} {z : Rw} (hd : 6 ≤ d) (hL : LOK L) (hl : LC D q L) (hv : okc v) (h : CC D i v) (hr : RWC D r (some z)) (hz : okr (some z)) : ∃ D', ev X d m_Courier_recite [vR 3 i, vR 5 q, vR 8 r] (hp D) = some (some (vI ((recV L v z.2).2 : Int)), hp D') ∧ CC D' i (recV L v z.2).1 ∧ fr (cP i) D D' := by
  obtain ⟨d, rfl⟩ : ∃ e, d = e + 1 := ⟨d - 1, by omega⟩
  obtain ⟨z1, z2, z3⟩ := hz
  have hL1 := hL.1.1
  have key : ∀ (m k : Nat) (D : DD) (y : Cr × Nat), k + m = z.2.length → LC D q L → RWC D r (some z) → okc y.1 → y.2 ≤ k → CC D i y.1 → ∃ D', at_ X d cd_Courier_recite 5 [vR 3 i, vR 5 q, vR 8 r, vI (y.2 : Int), vI (k : Int), vU, vU] [] (hp D) = some (some (vI (((z.2.drop k).foldl (rcF L) y).2 : Int)), hp D') ∧ CC D' i ((z.2.drop k).foldl (rcF L) y).1 ∧ fr (cP i) D D' := by
    intro m
    induction m with
    | zero =>
      intro k D y hk hl hr oy hy hc
      rw [b_Courier_recite_5, hr.1, if_pos (by omega), List.drop_of_length_le (by omega)]
      exact ⟨D, rfl, hc, fr.rf D⟩
    | succ m ih =>
      intro k D y hk hl hr oy hy hc
      rw [b_Courier_recite_5, hr.1, if_neg (by omega), if_pos (by omega), Int.toNat_natCast, hr.2.2.2 k (by omega), s_C_isThing (by omega) hl]
      simp only [ab_ci]
      rw [drop_getD (by omega), List.foldl_cons, b_Courier_recite_29]
      obtain ⟨oy', hy'⟩ := rcF_ok hL (x := z.2.getD k 0) oy
      have hb := z3 (z.2.getD k 0) (by rw [List.getD_eq_getElem?_getD, List.getElem?_eq_getElem (by omega)]; exact List.getElem_mem _)
      generalize z.2.getD k 0 = x at oy' hy' hb ⊢
      unfold isI
      by_cases h1 : 0 ≤ x ∧ x < (L 0 : Int)
      · obtain ⟨t, rfl⟩ : ∃ t : Nat, x = (t : Int) := ⟨x.toNat, by omega⟩
        rw [if_pos h1, if_neg (by omega), zb_w (by omega) (by omega), s_C_has (l := cL y.1) (by omega) hc.2.2.2.1 oy.2.2.1 (by omega)]
        simp only [ab_ci]
        rw [b_Courier_recite_39]
        by_cases h2 : t ∈ cL y.1
        · have e : rcF L y (t : Int) = (sayV L y.1 t, y.2 + 1) := by unfold rcF; rw [if_pos ⟨h1, by rw [Int.toNat_natCast]; exact h2⟩, Int.toNat_natCast]
          obtain ⟨D1, g1, g2, g3⟩ := s_C_say (X := X) (d := d) (D := D) (i := i) (q := q) (t := t) (v := y.1) (L := L) (by omega) hL hl oy hc (by omega)
          rw [if_pos h2, if_neg (by omega), zb_w (by omega) (by omega), g1]
          simp only [ab_ci]
          rw [b_Courier_recite_50, zb_s (by omega), b_Courier_recite_54, zb_s (by omega)]
          rw [e] at oy' hy' ⊢
          obtain ⟨D2, k1, k2, k3⟩ := ih (k + 1) D1 (sayV L y.1 t, y.2 + 1) (by omega) (hl.fc g3) (hr.fc g3) oy' (by omega) g2
          exact ⟨D2, k1, k2, g3.tr k3⟩
        · have e : rcF L y (t : Int) = y := by unfold rcF; rw [if_neg (fun z => h2 (by have := z.2; rw [Int.toNat_natCast] at this; exact this))]
          rw [if_neg h2, if_pos rfl, b_Courier_recite_54, zb_s (by omega), e]
          exact ih (k + 1) D y (by omega) hl hr oy (by omega) hc
      · have e : rcF L y x = y := by unfold rcF; rw [if_neg (fun z => h1 z.1)]
        rw [if_neg h1, if_pos rfl, b_Courier_recite_54, zb_s (by omega), e]
        exact ih (k + 1) D y (by omega) hl hr oy (by omega) hc
  rw [e_Courier_recite, b_Courier_recite_0]
  exact key z.2.length 0 D (v, 0) (by omega) hl hr hv (Nat.le_refl _) h
end
