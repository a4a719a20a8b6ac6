/-! men and loads: canCarry of the class -/
section
def gdX (L : Nat → Nat) (e m o w h x : Nat) : Prop := Ld L e x ∧ x.testBit h = true ∧ (∀ t, x.testBit t = true → (o ||| w).testBit t = true) ∧ fuL L e x (o ||| w) ∧ Cv L e m (rO o w x) (nd w x)
theorem shr_same {p r b : Nat} (h1 : (p >>> b) * 2 ^ b ≤ r) (h2 : r ≤ p) : ∀ t, b ≤ t → p.testBit t = true → r.testBit t = true := by
  intro t ht hp9
  have e : r >>> b = p >>> b := by
    rw [Nat.shiftRight_eq_div_pow] at *
    rw [Nat.shiftRight_eq_div_pow]
    have a1 : r / 2 ^ b ≤ p / 2 ^ b := Nat.div_le_div_right h2
    have a2 : p / 2 ^ b ≤ r / 2 ^ b := (Nat.le_div_iff_mul_le (Nat.two_pow_pos b)).mpr h1
    omega
  have h9 : (p >>> b).testBit (t - b) = true := by rw [Nat.testBit_shiftRight, show b + (t - b) = t by omega]; exact hp9
  rw [← e, Nat.testBit_shiftRight, show b + (t - b) = t by omega] at h9
  exact h9
theorem shr_bit {p b t : Nat} : ((p >>> b) * 2 ^ b).testBit t = (decide (b ≤ t) && p.testBit t) := by
  rw [← Nat.shiftLeft_eq, Nat.testBit_shiftLeft, Nat.testBit_shiftRight]
  by_cases c : b ≤ t
  · rw [decide_eq_true c, show b + (t - b) = t by omega]
  · rw [decide_eq_false (by omega : ¬ t ≥ b)]; rfl
theorem s_C_divide {X : Nat × (Nat → Int)} {d : Nat} {D : DD} {L : Nat → Nat} {e m o w h : Nat} (hd : 4 ≤ d) (hL : LOK L) (hK : KC D L e) (he : 1 ≤ e) (he9 : e ≤ 9) (ho : o < 65536) (hw : w < 65536) (dj : ∀ t, o.testBit t = true → w.testBit t = false) (hm : m < 16) (hh : h < 16) (hall : (o ||| w).testBit h = true) (IH : ∀ o w, o < 65536 → w < 65536 → (∀ t, o.testBit t = true → w.testBit t = false) → (Cv L e m o w ∧ ev X (d - 1) m_Carriers_canCarry [vR 1 0, vI (o : Int), vI (w : Int), vI (m : Int)] (hp D) = some (some (vI 1), hp D)) ∨ (¬ Cv L e m o w ∧ ev X (d - 1) m_Carriers_canCarry [vR 1 0, vI (o : Int), vI (w : Int), vI (m : Int)] (hp D) = some (some (vI 0), hp D))) : ((∃ x, gdX L e m o w h x) ∧ ev X d m_Carriers_canDivide [vR 1 0, vI (o : Int), vI (w : Int), vI ((m + 1 : Nat) : Int), vI (h : Int)] (hp D) = some (some (vI 1), hp D)) ∨ (¬ (∃ x, gdX L e m o w h x) ∧ ev X d m_Carriers_canDivide [vR 1 0, vI (o : Int), vI (w : Int), vI ((m + 1 : Nat) : Int), vI (h : Int)] (hp D) = some (some (vI 0), hp D)) := by
  obtain ⟨d, rfl⟩ : ∃ e, d = e + 1 := ⟨d - 1, by omega⟩
  rw [Nat.add_sub_cancel] at IH
  have hsh := hL.s (t := h) hh
  have h2h : 2 ^ h < 65536 := zb_p2 (k := 16) hh
  have hA : o ||| w < 65536 := Nat.or_lt_two_pow (n := 16) ho hw
  have hN1 : nd (o ||| w) (L (18 + h)) < 65536 := nd_lt (k := 16) hA
  have hN : nd (nd (o ||| w) (L (18 + h))) (2 ^ h) < 65536 := nd_lt (k := 16) hN1
  have hopb : ∀ t, (nd (nd (o ||| w) (L (18 + h))) (2 ^ h)).testBit t = (((o ||| w).testBit t && !(L (18 + h)).testBit t) && !decide (h = t)) := fun t => by rw [nd_bit, nd_bit, Nat.testBit_two_pow]
  -- picks and loads
  have toX : ∀ p, (∀ t, p.testBit t = true → (nd (nd (o ||| w) (L (18 + h))) (2 ^ h)).testBit t = true) → p < 65536 → Ld L (e - 1) p → Ld L e (p ||| 2 ^ h) ∧ (p ||| 2 ^ h).testBit h = true ∧ ∀ t, (p ||| 2 ^ h).testBit t = true → (o ||| w).testBit t = true := by
    intro p hsub hp9 hl
    refine ⟨⟨Nat.or_lt_two_pow (n := 16) hp9 h2h, ?_, fun a b ha hb => ?_⟩, by rw [bor, decide_eq_true rfl, Bool.or_true], fun t ht => ?_⟩
    · have := pc_or (s := p) (t := h) hp9 hh
      have := hl.2.1
      omega
    · rw [bor] at ha hb
      have hno : ∀ u, p.testBit u = true → (L (18 + h)).testBit u = false := fun u hu => by
        have := hsub u hu
        rw [hopb] at this
        cases hx : (L (18 + h)).testBit u with
        | false => rfl
        | true => rw [hx] at this; simp at this
      by_cases e1 : h = a
      · by_cases e2 : h = b
        · rw [← e1, ← e2]; exact hL.2.2.2.2.1 h hh
        · rw [decide_eq_false e2, Bool.or_false] at hb
          rw [← e1]; exact hno b hb
      · rw [decide_eq_false e1, Bool.or_false] at ha
        by_cases e2 : h = b
        · rw [← e2, hL.2.2.2.1 a h (bit16 hp9 ha) hh]
          exact hno a ha
        · rw [decide_eq_false e2, Bool.or_false] at hb
          exact hl.2.2 a b ha hb
    · rw [bor] at ht
      by_cases e1 : h = t
      · rw [← e1]; exact hall
      · rw [decide_eq_false e1, Bool.or_false] at ht
        have := hsub t ht
        rw [hopb] at this
        exact (Bool.and_eq_true_iff.mp (Bool.and_eq_true_iff.mp this).1).1
  have key : ∀ (p turn : Nat), (∀ t, p.testBit t = true → (nd (nd (o ||| w) (L (18 + h))) (2 ^ h)).testBit t = true) → p + turn ≤ nd (nd (o ||| w) (L (18 + h))) (2 ^ h) → ((∃ r, r ≤ p ∧ (∀ t, r.testBit t = true → (nd (nd (o ||| w) (L (18 + h))) (2 ^ h)).testBit t = true) ∧ Ld L (e - 1) r ∧ fuL L e (r ||| 2 ^ h) (o ||| w) ∧ Cv L e m (rO o w (r ||| 2 ^ h)) (nd w (r ||| 2 ^ h))) ∧ at_ X d cd_Carriers_canDivide 33 [vR 1 0, vI (o : Int), vI (w : Int), vI ((m + 1 : Nat) : Int), vI (h : Int), vI ((o ||| w : Nat) : Int), vI (nd (nd (o ||| w) (L (18 + h))) (2 ^ h) : Nat), vI (p : Int), vI (turn : Int), vU, vU] [] (hp D) = some (some (vI 1), hp D)) ∨ (¬ (∃ r, r ≤ p ∧ (∀ t, r.testBit t = true → (nd (nd (o ||| w) (L (18 + h))) (2 ^ h)).testBit t = true) ∧ Ld L (e - 1) r ∧ fuL L e (r ||| 2 ^ h) (o ||| w) ∧ Cv L e m (rO o w (r ||| 2 ^ h)) (nd w (r ||| 2 ^ h))) ∧ at_ X d cd_Carriers_canDivide 33 [vR 1 0, vI (o : Int), vI (w : Int), vI ((m + 1 : Nat) : Int), vI (h : Int), vI ((o ||| w : Nat) : Int), vI (nd (nd (o ||| w) (L (18 + h))) (2 ^ h) : Nat), vI (p : Int), vI (turn : Int), vU, vU] [] (hp D) = some (some (vI 0), hp D)) := by
    generalize nd (nd (o ||| w) (L (18 + h))) (2 ^ h) = op at *
    intro p
    induction p using Nat.strongRecOn with
    | ind p ih =>
      intro turn hsub htn
      have hp9 : p < 65536 := by omega
      have go : ∀ p2, p2 < p → (∀ r, r ≤ p → (∀ t, r.testBit t = true → op.testBit t = true) → Ld L (e - 1) r → fuL L e (r ||| 2 ^ h) (o ||| w) → Cv L e m (rO o w (r ||| 2 ^ h)) (nd w (r ||| 2 ^ h)) → r ≤ p2) → (∀ t, p2.testBit t = true → op.testBit t = true) → ((∃ r, r ≤ p ∧ (∀ t, r.testBit t = true → op.testBit t = true) ∧ Ld L (e - 1) r ∧ fuL L e (r ||| 2 ^ h) (o ||| w) ∧ Cv L e m (rO o w (r ||| 2 ^ h)) (nd w (r ||| 2 ^ h))) ∧ at_ X d cd_Carriers_canDivide 33 [vR 1 0, vI (o : Int), vI (w : Int), vI ((m + 1 : Nat) : Int), vI (h : Int), vI ((o ||| w : Nat) : Int), vI (op : Int), vI (p2 : Int), vI ((turn + 1 : Nat) : Int), vU, vU] [] (hp D) = some (some (vI 1), hp D)) ∨ (¬ (∃ r, r ≤ p ∧ (∀ t, r.testBit t = true → op.testBit t = true) ∧ Ld L (e - 1) r ∧ fuL L e (r ||| 2 ^ h) (o ||| w) ∧ Cv L e m (rO o w (r ||| 2 ^ h)) (nd w (r ||| 2 ^ h))) ∧ at_ X d cd_Carriers_canDivide 33 [vR 1 0, vI (o : Int), vI (w : Int), vI ((m + 1 : Nat) : Int), vI (h : Int), vI ((o ||| w : Nat) : Int), vI (op : Int), vI (p2 : Int), vI ((turn + 1 : Nat) : Int), vU, vU] [] (hp D) = some (some (vI 0), hp D)) := by
        intro p2 hlt hall2 hsub2
        rcases ih p2 hlt (turn + 1) hsub2 (by omega) with ⟨⟨r, r1, r2⟩, g⟩ | ⟨hno, g⟩
        · exact Or.inl ⟨⟨r, by omega, r2⟩, g⟩
        · refine Or.inr ⟨fun ⟨r, r1, r2, r3, r4, r5⟩ => hno ⟨r, hall2 r r1 r2 r3 r4 r5, r2, r3, r4, r5⟩, g⟩
      rw [b_Carriers_canDivide_33, if_neg (by omega), if_neg (by omega)]
      rcases s_C_tooMuch (X := X) (d := d) (D := D) (p := p) (by omega) hL hK he he9 hp9 with ⟨hl, g⟩ | ⟨b, b1, b2, g, b3⟩
      · obtain ⟨x1, x2, x3⟩ := toX p hsub hp9 hl
        rw [g]
        simp only [ab_ci]
        rw [b_Carriers_canDivide_51, if_pos rfl, zb_sl (by omega), zb_or (by omega) (by omega)]
        have hxl := x1.1
        have miss : ¬ (fuL L e (p ||| 2 ^ h) (o ||| w) ∧ Cv L e m (rO o w (p ||| 2 ^ h)) (nd w (p ||| 2 ^ h))) → ∀ v10 : ab_V, ((∃ r, r ≤ p ∧ (∀ t, r.testBit t = true → op.testBit t = true) ∧ Ld L (e - 1) r ∧ fuL L e (r ||| 2 ^ h) (o ||| w) ∧ Cv L e m (rO o w (r ||| 2 ^ h)) (nd w (r ||| 2 ^ h))) ∧ at_ X d cd_Carriers_canDivide 126 [vR 1 0, vI (o : Int), vI (w : Int), vI ((m + 1 : Nat) : Int), vI (h : Int), vI ((o ||| w : Nat) : Int), vI (op : Int), vI (p : Int), vI (turn : Int), vU, v10] [] (hp D) = some (some (vI 1), hp D)) ∨ (¬ (∃ r, r ≤ p ∧ (∀ t, r.testBit t = true → op.testBit t = true) ∧ Ld L (e - 1) r ∧ fuL L e (r ||| 2 ^ h) (o ||| w) ∧ Cv L e m (rO o w (r ||| 2 ^ h)) (nd w (r ||| 2 ^ h))) ∧ at_ X d cd_Carriers_canDivide 126 [vR 1 0, vI (o : Int), vI (w : Int), vI ((m + 1 : Nat) : Int), vI (h : Int), vI ((o ||| w : Nat) : Int), vI (op : Int), vI (p : Int), vI (turn : Int), vU, v10] [] (hp D) = some (some (vI 0), hp D)) := by
          intro hno v10
          rw [b_Carriers_canDivide_126]
          by_cases p0 : p = 0
          · rw [if_neg (by omega), b_Carriers_canDivide_142, b_Carriers_canDivide_144, zb_s (by omega), b_Carriers_canDivide_33]
            refine Or.inr ⟨fun ⟨r, r1, r2, r3, r4, r5⟩ => ?_, ?_⟩
            · have : r = p := by omega
              subst this
              exact hno ⟨r4, r5⟩
            · by_cases c : op < turn + 1
              · rw [if_pos (by omega)]
              · rw [if_neg (by omega), if_pos (by omega)]
          · rw [if_pos (by omega), zb_w (by omega) (by omega), show (p : Int) - 1 = ((p - 1 : Nat) : Int) by omega, zb_an (by omega) (by omega), b_Carriers_canDivide_142, b_Carriers_canDivide_144, zb_s (by omega)]
            refine go ((p - 1) &&& op) (Nat.lt_of_le_of_lt Nat.and_le_left (by omega)) (fun r r1 r2 r3 r4 r5 => ?_) (fun t ht => by rw [Nat.testBit_and] at ht; exact (Bool.and_eq_true_iff.mp ht).2)
            refine subm op p r hsub r2 ?_
            have : r ≠ p := fun z => hno (z ▸ ⟨r4, r5⟩)
            omega
        rcases s_C_isFull (X := X) (d := d) (D := D) (x := p ||| 2 ^ h) (all := o ||| w) (by omega) hL hK hxl hA with ⟨hf, g2⟩ | ⟨hf, g2⟩
        · rw [g2]
          simp only [ab_ci]
          have hnl : nd w (p ||| 2 ^ h) < 65536 := nd_lt (k := 16) hw
          have hol : nd o (p ||| 2 ^ h) < 65536 := nd_lt (k := 16) ho
          have hwl : w &&& (p ||| 2 ^ h) < 65536 := Nat.lt_of_le_of_lt Nat.and_le_left hw
          rw [b_Carriers_canDivide_94, if_neg (by decide), zb_nd (by omega) (by omega), zb_an (by omega) (by omega), zb_or (by omega) (by omega), zb_nd (by omega) (by omega), show ((m + 1 : Nat) : Int) - 1 = (m : Int) by omega, zb_w (by omega) (by omega)]
          have hc := IH (rO o w (p ||| 2 ^ h)) (nd w (p ||| 2 ^ h)) (rO_lt ho hw) hnl (fun t => by
            rw [rO_bit, nd_bit]
            have := dj t
            cases hx : (p ||| 2 ^ h).testBit t <;> cases hy : o.testBit t <;> cases hz : w.testBit t <;> simp [hx, hy, hz] at this ⊢)
          unfold rO at hc
          rcases hc with ⟨hcv, g3⟩ | ⟨hcv, g3⟩
          · rw [g3]
            simp only [ab_ci]
            rw [b_Carriers_canDivide_121, if_neg (by decide)]
            exact Or.inl ⟨⟨p, Nat.le_refl _, hsub, hl, hf, hcv⟩, rfl⟩
          · rw [g3]
            simp only [ab_ci]
            rw [b_Carriers_canDivide_121, if_pos rfl]
            exact miss (fun z => hcv z.2) _
        · rw [g2]
          simp only [ab_ci]
          rw [b_Carriers_canDivide_94, if_pos rfl]
          exact miss (fun z => hf z.1) _
      · rw [g]
        simp only [ab_ci]
        have hI : (p >>> b) * 2 ^ b ≤ p := by rw [Nat.shiftRight_eq_div_pow]; exact Nat.div_mul_le_self _ _
        have hI0 : (p >>> b) * 2 ^ b ≠ 0 := fun z => by
          have h9 : ((p >>> b) * 2 ^ b).testBit b = true := by rw [shr_bit, decide_eq_true (Nat.le_refl b), b2]; rfl
          rw [z, Nat.zero_testBit] at h9
          cases h9
        have hIs : ∀ t, ((p >>> b) * 2 ^ b).testBit t = true → op.testBit t = true := fun t ht => by
          rw [shr_bit] at ht
          exact hsub t (Bool.and_eq_true_iff.mp ht).2
        rw [b_Carriers_canDivide_51, if_neg (by omega), zb_sr (by omega), zb_shl (by omega) (by omega), zb_w (by omega) (by omega), show (((p >>> b) * 2 ^ b : Nat) : Int) - 1 = (((p >>> b) * 2 ^ b - 1 : Nat) : Int) by omega, zb_an (by omega) (by omega), b_Carriers_canDivide_144, zb_s (by omega)]
        refine go (((p >>> b) * 2 ^ b - 1) &&& op) (Nat.lt_of_le_of_lt Nat.and_le_left (by omega)) (fun r r1 r2 r3 r4 r5 => ?_) (fun t ht => by rw [Nat.testBit_and] at ht; exact (Bool.and_eq_true_iff.mp ht).2)
        refine subm op _ r hIs r2 ?_
        apply Classical.byContradiction
        intro z
        exact b3 r (shr_same (by omega) r1) r3
  rw [e_Carriers_canDivide, b_Carriers_canDivide_0, if_pos (by omega), Int.toNat_natCast, hK.1 h hh, zb_or (by omega) (by omega), zb_nd (by omega) (by omega), zb_sl (by omega), zb_nd (by omega) (by omega)]
  have hfin : (∃ r, r ≤ nd (nd (o ||| w) (L (18 + h))) (2 ^ h) ∧ (∀ t, r.testBit t = true → (nd (nd (o ||| w) (L (18 + h))) (2 ^ h)).testBit t = true) ∧ Ld L (e - 1) r ∧ fuL L e (r ||| 2 ^ h) (o ||| w) ∧ Cv L e m (rO o w (r ||| 2 ^ h)) (nd w (r ||| 2 ^ h))) ↔ ∃ x, gdX L e m o w h x := by
    constructor
    · rintro ⟨r, r1, r2, r3, r4, r5⟩
      obtain ⟨x1, x2, x3⟩ := toX r r2 r3.1 r3
      exact ⟨r ||| 2 ^ h, x1, x2, x3, r4, r5⟩
    · rintro ⟨x, x1, x2, x3, x4, x5⟩
      have hsub : ∀ t, (nd x (2 ^ h)).testBit t = true → (nd (nd (o ||| w) (L (18 + h))) (2 ^ h)).testBit t = true := fun t ht => by
        rw [nd_bit, Nat.testBit_two_pow, Bool.and_eq_true] at ht
        rw [hopb, x3 t ht.1, x1.2.2 h t x2 ht.1, ht.2]; rfl
      have e1 : nd x (2 ^ h) ||| 2 ^ h = x := Nat.eq_of_testBit_eq fun t => by
        rw [bor, nd_bit, Nat.testBit_two_pow]
        by_cases c : h = t
        · rw [← c, x2, decide_eq_true rfl]; rfl
        · rw [decide_eq_false c]; cases x.testBit t <;> rfl
      have hpc := pc_nd_eq x1.1 x2 hh
      have hlt : nd x (2 ^ h) < 65536 := nd_lt (k := 16) x1.1
      refine ⟨nd x (2 ^ h), ?_, hsub, ⟨hlt, by have := x1.2.1; omega, fun a b ha hb => ?_⟩, by rw [e1]; exact x4, by rw [e1]; exact x5⟩
      · have := Nat.and_le_right (n := nd x (2 ^ h)) (m := nd (nd (o ||| w) (L (18 + h))) (2 ^ h))
        have e2 : nd x (2 ^ h) &&& nd (nd (o ||| w) (L (18 + h))) (2 ^ h) = nd x (2 ^ h) := Nat.eq_of_testBit_eq fun t => by
          rw [Nat.testBit_and]
          cases hx : (nd x (2 ^ h)).testBit t with
          | false => rfl
          | true => rw [hsub t hx]; rfl
        omega
      · rw [nd_bit, Bool.and_eq_true] at ha hb
        exact x1.2.2 a b ha.1 hb.1
  have g := key (nd (nd (o ||| w) (L (18 + h))) (2 ^ h)) 0 (fun t z => z) (by omega)
  rw [hfin] at g
  exact g
theorem s_C_canCarry {X : Nat × (Nat → Int)} {D : DD} {L : Nat → Nat} {e : Nat} (hL : LOK L) (hK : KC D L e) (he : 1 ≤ e) (he9 : e ≤ 9) : ∀ (m o w d : Nat), 2 * m + 4 ≤ d → m ≤ 16 → o < 65536 → w < 65536 → (∀ t, o.testBit t = true → w.testBit t = false) → (Cv L e m o w ∧ ev X d m_Carriers_canCarry [vR 1 0, vI (o : Int), vI (w : Int), vI (m : Int)] (hp D) = some (some (vI 1), hp D)) ∨ (¬ Cv L e m o w ∧ ev X d m_Carriers_canCarry [vR 1 0, vI (o : Int), vI (w : Int), vI (m : Int)] (hp D) = some (some (vI 0), hp D)) := by
  intro m
  induction m with
  | zero =>
    intro o w d hd _ ho hw dj
    obtain ⟨d, rfl⟩ : ∃ e, d = e + 1 := ⟨d - 1, by omega⟩
    rw [e_Carriers_canCarry, b_Carriers_canCarry_0, zb_or (by omega) (by omega)]
    by_cases c : o ||| w = 0
    · rw [if_neg (by omega)]
      refine Or.inl ⟨Cv_0.mpr ⟨bit0 fun t => ?_, bit0 fun t => ?_⟩, rfl⟩
      · have h9 : (o ||| w).testBit t = false := by rw [c, Nat.zero_testBit]
        rw [Nat.testBit_or] at h9
        exact (Bool.or_eq_false_iff.mp h9).1
      · have h9 : (o ||| w).testBit t = false := by rw [c, Nat.zero_testBit]
        rw [Nat.testBit_or] at h9
        exact (Bool.or_eq_false_iff.mp h9).2
    · rw [if_pos (by omega)]
      have hno : ¬ Cv L e 0 o w := fun z => by
        obtain ⟨rfl, rfl⟩ := Cv_0.mp z
        exact c (by decide)
      by_cases cw : w = 0
      · rw [if_neg (by omega), b_Carriers_canCarry_22, if_pos (by omega)]
        exact Or.inr ⟨hno, rfl⟩
      · rw [if_pos (by omega), b_Carriers_canCarry_22, if_pos (by omega)]
        exact Or.inr ⟨hno, rfl⟩
  | succ m ih =>
    intro o w d hd hm ho hw dj
    obtain ⟨d, rfl⟩ : ∃ e, d = e + 1 := ⟨d - 1, by omega⟩
    have hA : o ||| w < 65536 := Nat.or_lt_two_pow (n := 16) ho hw
    rw [e_Carriers_canCarry, b_Carriers_canCarry_0, zb_or (by omega) (by omega)]
    by_cases c : o ||| w = 0
    · rw [if_neg (by omega)]
      have o0 : o = 0 := bit0 fun t => by
        have h9 : (o ||| w).testBit t = false := by rw [c, Nat.zero_testBit]
        rw [Nat.testBit_or] at h9
        exact (Bool.or_eq_false_iff.mp h9).1
      have w0 : w = 0 := bit0 fun t => by
        have h9 : (o ||| w).testBit t = false := by rw [c, Nat.zero_testBit]
        rw [Nat.testBit_or] at h9
        exact (Bool.or_eq_false_iff.mp h9).2
      subst o0
      subst w0
      refine Or.inl ⟨Cv_deal (m + 1) 0 0 (by omega) (by omega) (fun t z => by rw [Nat.zero_testBit] at z; cases z) (fun t u z => by rw [Nat.testBit_or, Nat.zero_testBit] at z; cases z) (fun z => absurd rfl z) (fun z => absurd rfl z) ?_, rfl⟩
      rw [show pc 0 = 0 by decide]
      exact Nat.zero_le _
    rw [if_pos (by omega)]
    have hpo := pc_le o
    have hpw := pc_le w
    have hme : (m + 1) * e ≤ 16 * 9 := Nat.mul_le_mul hm he9
    have main : (w ≠ 0 → 2 ≤ m + 1) → (Cv L e (m + 1) o w ∧ ab_ci (ev X d m_Integer_bitCount [vI (o : Int)] (hp D)) (fun y9 h9 => at_ X d cd_Carriers_canCarry 29 [vR 1 0, vI (o : Int), vI (w : Int), vI ((m + 1 : Nat) : Int), vI ((o ||| w : Nat) : Int), vU, vU] [vI y9] h9) = some (some (vI 1), hp D)) ∨ (¬ Cv L e (m + 1) o w ∧ ab_ci (ev X d m_Integer_bitCount [vI (o : Int)] (hp D)) (fun y9 h9 => at_ X d cd_Carriers_canCarry 29 [vR 1 0, vI (o : Int), vI (w : Int), vI ((m + 1 : Nat) : Int), vI ((o ||| w : Nat) : Int), vU, vU] [vI y9] h9) = some (some (vI 0), hp D)) := by
      intro h2m
      rw [s_bitCount (by omega) ho]
      simp only [ab_ci]
      rw [b_Carriers_canCarry_29, s_bitCount (by omega) hw]
      simp only [ab_ci]
      rw [b_Carriers_canCarry_34, hK.2, zb_w (n := 2 * (pc w : Int)) (by omega) (by omega), zb_w (n := (pc o : Int) + 2 * (pc w : Int)) (by omega) (by omega), show ((m + 1 : Nat) : Int) * (e : Int) = (((m + 1) * e : Nat) : Int) by rw [Int.natCast_mul], zb_w (by omega) (by omega)]
      by_cases cr : pc o + 2 * pc w ≤ (m + 1) * e
      · rw [if_pos (by omega)]
        obtain ⟨h, g1, g2, g3, g4⟩ := s_C_hardest (X := X) (d := d) (D := D) (by omega) hL hK hA c
        have hsh := hL.s (t := h) g2
        have hlt : L (18 + h) &&& (o ||| w) < 65536 := Nat.lt_of_le_of_lt Nat.and_le_right hA
        rw [g1]
        simp only [ab_ci]
        rw [b_Carriers_canCarry_53, if_pos (by omega), Int.toNat_natCast, hK.1 h g2, zb_an (by omega) (by omega), s_bitCount (by omega) hlt]
        simp only [ab_ci]
        rw [b_Carriers_canCarry_68]
        have hsec : ∀ t u, (o ||| w).testBit t = true → (o ||| w).testBit u = true → (L (18 + t)).testBit u = true → 1 ≤ pc (L (18 + h) &&& (o ||| w)) := by
          intro t u ht hu htu
          have := g4 t ht
          have h9 : pc (L (18 + t) &&& (o ||| w)) ≠ 0 := fun z => by
            have e0 := pc_z (Nat.lt_of_le_of_lt Nat.and_le_right hA) z
            have h8 : (L (18 + t) &&& (o ||| w)).testBit u = true := by rw [Nat.testBit_and, htu, hu]; rfl
            rw [e0, Nat.zero_testBit] at h8
            cases h8
          omega
        by_cases c0 : pc (L (18 + h) &&& (o ||| w)) = 0
        · rw [if_pos (by omega)]
          refine Or.inl ⟨Cv_deal (m + 1) o w ho hw dj (fun t u ht hu => ?_) h2m (fun _ => by omega) cr, rfl⟩
          cases hx : (L (18 + t)).testBit u with
          | false => rfl
          | true => have := hsec t u ht hu hx; omega
        rw [if_neg (by omega)]
        have deep : ∀ v6 : ab_V, (Cv L e (m + 1) o w ∧ at_ X d cd_Carriers_canCarry 87 [vR 1 0, vI (o : Int), vI (w : Int), vI ((m + 1 : Nat) : Int), vI ((o ||| w : Nat) : Int), vI (h : Int), v6] [] (hp D) = some (some (vI 1), hp D)) ∨ (¬ Cv L e (m + 1) o w ∧ at_ X d cd_Carriers_canCarry 87 [vR 1 0, vI (o : Int), vI (w : Int), vI ((m + 1 : Nat) : Int), vI ((o ||| w : Nat) : Int), vI (h : Int), v6] [] (hp D) = some (some (vI 0), hp D)) := by
          intro v6
          rw [b_Carriers_canCarry_87]
          by_cases m1 : m = 0
          · rw [if_pos (by omega)]
            refine Or.inr ⟨fun z => ?_, rfl⟩
            subst m1
            have w0 : w = 0 := by
              apply Classical.byContradiction
              intro y
              have := h2m y
              omega
            have hex : ∃ u, (o ||| w).testBit u = true ∧ (L (18 + h)).testBit u = true := by
              obtain ⟨u, _, hu⟩ := has_bit (n := 16) hlt (fun y => c0 (by rw [y]; decide))
              rw [Nat.testBit_and, Bool.and_eq_true] at hu
              exact ⟨u, hu.2, hu.1⟩
            obtain ⟨u, u1, u2⟩ := hex
            obtain ⟨x, x1, x2⟩ := Cv_cons.mp z
            obtain ⟨y1, y2⟩ := Cv_0.mp x2
            have hin : ∀ t, (o ||| w).testBit t = true → x.testBit t = true := fun t ht => by
              have h9 : (rO o w x).testBit t = false := by rw [y1, Nat.zero_testBit]
              rw [rO_bit] at h9
              rw [Nat.testBit_or, w0, Nat.zero_testBit, Bool.or_false] at ht
              rw [ht] at h9
              cases hx : x.testBit t with
              | true => rfl
              | false => rw [hx] at h9; simp at h9
            rw [x1.2.2 h u (hin h g3) (hin u u1)] at u2
            cases u2
          · rw [if_neg (by omega)]
            obtain ⟨E, q1, q2, q3⟩ := s_C_easy (X := X) (d := d) (D := D) (by omega) hL hK ho hA
            have hol : nd o E < 65536 := nd_lt (k := 16) ho
            have hh9 : (nd o E ||| w).testBit h = true := by
              rw [Nat.testBit_or] at g3 ⊢
              rcases Bool.or_eq_true_iff.mp g3 with z | z
              · have hE : E.testBit h = false := by
                  cases hx : E.testBit h with
                  | false => rfl
                  | true => exact absurd (by rw [((q3 h).mp hx).2]; decide) c0
                rw [nd_bit, z, hE]; rfl
              · rw [z, Bool.or_true]
            have dj' : ∀ t, (nd o E).testBit t = true → w.testBit t = false := fun t z => by
              rw [nd_bit, Bool.and_eq_true] at z
              exact dj t z.1
            have hcv : Cv L e (m + 1) (nd o E) w ↔ Cv L e (m + 1) o w := by
              constructor
              · intro z
                refine Cv_easy hL hw (els E) o ho (els_nd E) dj (fun t ht => ⟨els_lt ht, ((q3 t).mp ((els_mem q2).mp ht)).1⟩) (fun t ht u hu => ?_) cr ?_
                · have := ((q3 t).mp ((els_mem q2).mp ht)).2
                  exact and_0.mp this u (by rw [Nat.testBit_or]; exact Bool.or_eq_true_iff.mpr hu)
                · have e1 : bs (els E) = E := Nat.eq_of_testBit_eq fun t => by
                    rw [bs_bit]
                    cases hx : E.testBit t with
                    | true => exact decide_eq_true ((els_mem q2).mpr hx)
                    | false => exact decide_eq_false fun y => by rw [(els_mem q2).mp y] at hx; cases hx
                  rw [e1]; exact z
              · intro z
                exact Cv_mono z (fun t y => y) (fun t y => Or.inl (by rw [nd_bit, Bool.and_eq_true] at y; exact y.1))
            have hgd : (∃ x, gdX L e m (nd o E) w h x) ↔ Cv L e (m + 1) o w := by
              rw [← hcv]
              constructor
              · rintro ⟨x, x1, _, _, _, x5⟩
                exact Cv_cons.mpr ⟨x, x1, x5⟩
              · intro z
                exact Cv_full hL hol hw z hh9
            have gd := s_C_divide (X := X) (d := d) (D := D) (L := L) (e := e) (m := m) (o := nd o E) (w := w) (h := h) (by omega) hL hK he he9 hol hw dj' (by omega) g2 hh9 (fun o w h1 h2 h3 => ih o w (d - 1) (by omega) (by omega) h1 h2 h3)
            rw [hgd] at gd
            rw [q1]
            simp only [ab_ci]
            rw [b_Carriers_canCarry_101, zb_nd (by omega) (by omega)]
            rcases gd with ⟨k1, k2⟩ | ⟨k1, k2⟩
            · rw [k2]
              simp only [ab_ci]
              rw [b_Carriers_canCarry_111, if_neg (by decide)]
              exact Or.inl ⟨k1, rfl⟩
            · rw [k2]
              simp only [ab_ci]
              rw [b_Carriers_canCarry_111, if_pos rfl]
              exact Or.inr ⟨k1, rfl⟩
        by_cases cw : w = 0
        · rw [if_neg (by omega)]
          by_cases cm : m + 1 ≤ pc (L (18 + h) &&& (o ||| w))
          · rw [if_pos (by omega)]
            exact deep _
          · rw [if_neg (by omega)]
            subst cw
            have e0 : o ||| 0 = o := Nat.or_zero o
            rw [e0] at g4 cm
            have z0 : pc 0 = 0 := by decide
            rw [z0] at cr
            refine Or.inl ⟨Cv_even hL ho (fun t ht => ?_) (by omega), rfl⟩
            have := g4 t ht
            omega
        · rw [if_pos (by omega)]
          exact deep _
      · rw [if_neg (by omega)]
        exact Or.inr ⟨fun z => cr (Cv_need hw ho dj z).2.2, rfl⟩
    by_cases cw : w = 0
    · rw [if_neg (by omega), b_Carriers_canCarry_22, if_neg (by omega)]
      exact main fun z => absurd cw z
    · rw [if_pos (by omega), b_Carriers_canCarry_22]
      by_cases m2 : (m + 1 : Nat) < 2
      · rw [if_pos (by omega)]
        refine Or.inr ⟨fun z => ?_, rfl⟩
        have := (Cv_need hw ho dj z).1 cw
        omega
      · rw [if_neg (by omega)]
        exact main fun _ => by omega
end
