/-! men and loads: the least load, the class's calls -/
section
theorem zb_hi {n t : Nat} (hn : n < 65536) (ht : t ≤ 16) : b_an (n : Int) (b_sl (-1) (t : Int)) = (((n >>> t) * 2 ^ t : Nat) : Int) := by
  have h1 : 2 ^ t < 2 ^ 17 := zb_p2 (by omega)
  have h2 : 1 ≤ 2 ^ t := Nat.two_pow_pos t
  have e1 : b_sl (-1) (t : Int) = b_xr ((2 ^ t - 1 : Nat) : Int) (-1) := by
    rw [zb_not (by omega)]
    unfold b_sl w32
    rw [show ((t : Int) % 32).toNat = t by omega]
    have : ((2 : Int) ^ t) = ((2 ^ t : Nat) : Int) := by rw [Int.natCast_pow]; rfl
    rw [this]
    omega
  rw [e1, zb_nd (by omega) (by omega)]
  congr 1
  refine Nat.eq_of_testBit_eq fun u => ?_
  rw [nd_bit, shr_bit, Nat.testBit_two_pow_sub_one]
  by_cases c : u < t
  · rw [decide_eq_true c, decide_eq_false (by omega : ¬ t ≤ u)]; cases n.testBit u <;> rfl
  · rw [decide_eq_false c, decide_eq_true (by omega : t ≤ u)]; cases n.testBit u <;> rfl
def LX (L : Nat → Nat) (e k o w x : Nat) : Prop := Ld L e x ∧ (∀ t, x.testBit t = true → (o ||| w).testBit t = true) ∧ Cv L e k (rO o w x) (nd w x)
def exB (t l x : Nat) : Prop := ∀ u, t ≤ u → x.testBit u = l.testBit u
theorem bit_cmp : ∀ {t x y : Nat}, (∀ u, t < u → x.testBit u = y.testBit u) → x.testBit t = false → y.testBit t = true → x < y := by
  intro t
  induction t with
  | zero =>
    intro x y h hx hy
    rw [Nat.testBit_zero] at hx hy
    have h1 := of_decide_eq_false hx
    have h2 := of_decide_eq_true hy
    have h3 : x / 2 = y / 2 := Nat.eq_of_testBit_eq fun u => by rw [← Nat.testBit_succ, ← Nat.testBit_succ]; exact h (u + 1) (by omega)
    omega
  | succ t ih =>
    intro x y h hx hy
    rw [Nat.testBit_succ] at hx hy
    have := ih (fun u hu => by rw [← Nat.testBit_succ, ← Nat.testBit_succ]; exact h (u + 1) (by omega)) hx hy
    omega
theorem s_C_least {X : Nat × (Nat → Int)} {D : DD} {L : Nat → Nat} {e o w k : Nat} (hL : LOK L) (hK : KC D L e) (he : 1 ≤ e) (he9 : e ≤ 9) (ho : o < 65536) (hw : w < 65536) (dj : ∀ t, o.testBit t = true → w.testBit t = false) (hk : k ≤ 16) (k2 : D 1 0 2 = (o : Int)) (k3 : D 1 0 3 = (w : Int)) : ∀ (t l d : Nat), t + 40 ≤ d → t ≤ 16 → Ld L e l → (∀ u, l.testBit u = true → (o ||| w).testBit u = true) → (∀ u, u < t → l.testBit u = false) → (∃ x : Nat, ev X d m_Carriers_leastLoad [vR 1 0, vI ((t : Int) - 1), vI (l : Int), vI (k : Int)] (hp D) = some (some (vI (x : Int)), hp D) ∧ LX L e k o w x ∧ exB t l x ∧ ∀ y, LX L e k o w y → exB t l y → x ≤ y) ∨ ((∀ y, LX L e k o w y → exB t l y → False) ∧ ev X d m_Carriers_leastLoad [vR 1 0, vI ((t : Int) - 1), vI (l : Int), vI (k : Int)] (hp D) = some (some (vI (-1)), hp D)) := by
  intro t
  have hA : o ||| w < 65536 := Nat.or_lt_two_pow (n := 16) ho hw
  have pre : ∀ (t l d : Nat), t ≤ 16 → l < 65536 → 36 ≤ d → (Cv L e k ((rO o w l >>> t) * 2 ^ t) ((nd w l >>> t) * 2 ^ t) ∧ at_ X d cd_Carriers_leastLoad 0 [vR 1 0, vI ((t : Int) - 1), vI (l : Int), vI (k : Int), vU, vU, vU, vU, vU] [] (hp D) = at_ X d cd_Carriers_leastLoad 49 [vR 1 0, vI ((t : Int) - 1), vI (l : Int), vI (k : Int), vI (b_sl (-1) (t : Int)), vI (((rO o w l >>> t) * 2 ^ t : Nat) : Int), vI (((nd w l >>> t) * 2 ^ t : Nat) : Int), vU, vU] [vI 1] (hp D)) ∨ (¬ Cv L e k ((rO o w l >>> t) * 2 ^ t) ((nd w l >>> t) * 2 ^ t) ∧ at_ X d cd_Carriers_leastLoad 0 [vR 1 0, vI ((t : Int) - 1), vI (l : Int), vI (k : Int), vU, vU, vU, vU, vU] [] (hp D) = at_ X d cd_Carriers_leastLoad 49 [vR 1 0, vI ((t : Int) - 1), vI (l : Int), vI (k : Int), vI (b_sl (-1) (t : Int)), vI (((rO o w l >>> t) * 2 ^ t : Nat) : Int), vI (((nd w l >>> t) * 2 ^ t : Nat) : Int), vU, vU] [vI 0] (hp D)) := by
    intro t l d ht hl hd
    have h1 : nd o l < 65536 := nd_lt (k := 16) ho
    have h2 : w &&& l < 65536 := Nat.lt_of_le_of_lt Nat.and_le_left hw
    have h3 : nd w l < 65536 := nd_lt (k := 16) hw
    have h4 : rO o w l < 65536 := rO_lt ho hw
    have h4' : nd o l ||| (w &&& l) < 65536 := h4
    have le : ∀ n, (n >>> t) * 2 ^ t ≤ n := fun n => by rw [Nat.shiftRight_eq_div_pow]; exact Nat.div_mul_le_self _ _
    have g := s_C_canCarry (X := X) (D := D) hL hK he he9 k ((rO o w l >>> t) * 2 ^ t) ((nd w l >>> t) * 2 ^ t) d (by omega) hk (Nat.lt_of_le_of_lt (le _) h4) (Nat.lt_of_le_of_lt (le _) h3) (fun u hu => by
      rw [shr_bit, rO_bit] at hu
      rw [shr_bit, nd_bit]
      have := dj u
      cases hx : l.testBit u <;> cases hy : o.testBit u <;> cases hz : w.testBit u <;> simp [hx, hy, hz] at this hu ⊢)
    have e1 : at_ X d cd_Carriers_leastLoad 0 [vR 1 0, vI ((t : Int) - 1), vI (l : Int), vI (k : Int), vU, vU, vU, vU, vU] [] (hp D) = ab_ci (ev X d m_Carriers_canCarry [vR 1 0, vI (((rO o w l >>> t) * 2 ^ t : Nat) : Int), vI (((nd w l >>> t) * 2 ^ t : Nat) : Int), vI (k : Int)] (hp D)) (fun y9 h9 => at_ X d cd_Carriers_leastLoad 49 [vR 1 0, vI ((t : Int) - 1), vI (l : Int), vI (k : Int), vI (b_sl (-1) (t : Int)), vI (((rO o w l >>> t) * 2 ^ t : Nat) : Int), vI (((nd w l >>> t) * 2 ^ t : Nat) : Int), vU, vU] [vI y9] h9) := by
      rw [b_Carriers_leastLoad_0, k2, k3, show (t : Int) - 1 + 1 = (t : Int) by omega, zb_w (n := (t : Int)) (by omega) (by omega), zb_nd (by omega) (by omega), zb_an (by omega) (by omega), zb_or (by omega) (by omega), zb_hi h4' ht, zb_nd (by omega) (by omega), zb_hi h3 ht]
      rfl
    rw [e1]
    rcases g with ⟨g1, g2⟩ | ⟨g1, g2⟩
    · rw [g2]; exact Or.inl ⟨g1, rfl⟩
    · rw [g2]; exact Or.inr ⟨g1, rfl⟩
  -- what a load that goes on has above t
  have need : ∀ t l y, LX L e k o w y → exB t l y → Cv L e k ((rO o w l >>> t) * 2 ^ t) ((nd w l >>> t) * 2 ^ t) := by
    intro t l y hy hex
    refine Cv_mono hy.2.2 (fun u hu => ?_) (fun u hu => Or.inl ?_)
    · rw [shr_bit, Bool.and_eq_true, decide_eq_true_iff, nd_bit] at hu
      rw [nd_bit, hex u hu.1]; exact hu.2
    · rw [shr_bit, Bool.and_eq_true, decide_eq_true_iff, rO_bit] at hu
      rw [rO_bit, hex u hu.1]; exact hu.2
  induction t with
  | zero =>
    intro l d hd ht hl hsub hlow
    obtain ⟨d, rfl⟩ : ∃ e, d = e + 1 := ⟨d - 1, by omega⟩
    rw [e_Carriers_leastLoad]
    rcases pre 0 l d (by omega) hl.1 (by omega) with ⟨g1, g2⟩ | ⟨g1, g2⟩
    · left
      have e0 : ∀ n : Nat, (n >>> 0) * 2 ^ 0 = n := fun n => by rw [Nat.shiftRight_zero, Nat.pow_zero, Nat.mul_one]
      rw [e0, e0] at g1
      refine ⟨l, ?_, ⟨hl, hsub, g1⟩, fun u _ => rfl, fun y _ hex => ?_⟩
      · rw [g2, b_Carriers_leastLoad_49, if_pos (by decide), if_neg (by omega)]
      · exact Nat.le_of_eq (Nat.eq_of_testBit_eq fun u => (hex u (Nat.zero_le _)).symm)
    · right
      refine ⟨fun y hy hex => g1 (need 0 l y hy hex), ?_⟩
      rw [g2, b_Carriers_leastLoad_49, if_neg (by decide)]
  | succ t ih =>
    intro l d hd ht hl hsub hlow
    obtain ⟨d, rfl⟩ : ∃ e, d = e + 1 := ⟨d - 1, by omega⟩
    rw [e_Carriers_leastLoad]
    rcases pre (t + 1) l d (by omega) hl.1 (by omega) with ⟨g1, g2⟩ | ⟨g1, g2⟩
    · have lt0 : l.testBit t = false := hlow t (by omega)
      rw [g2, b_Carriers_leastLoad_49, if_pos (by decide), show ((t + 1 : Nat) : Int) - 1 = (t : Int) by omega, if_pos (by omega), zb_w (by omega) (by omega)]
      have ex0 : ∀ y, exB t l y ↔ exB (t + 1) l y ∧ y.testBit t = false := fun y => by
        constructor
        · exact fun h => ⟨fun u hu => h u (by omega), by rw [h t (Nat.le_refl _), lt0]⟩
        · intro h u hu
          by_cases eu : u = t
          · rw [eu, h.2, lt0]
          · exact h.1 u (by omega)
      rcases ih l d (by omega) (by omega) hl hsub (fun u hu => hlow u (by omega)) with ⟨x, a1, a2, a3, a4⟩ | ⟨a1, a2⟩
      · rw [a1]
        simp only [ab_ci]
        rw [b_Carriers_leastLoad_69, if_neg (by omega)]
        refine Or.inl ⟨x, rfl, a2, ((ex0 x).mp a3).1, fun y hy hex => ?_⟩
        cases hb : y.testBit t with
        | false => exact a4 y hy ((ex0 y).mpr ⟨hex, hb⟩)
        | true =>
          refine Nat.le_of_lt (bit_cmp (t := t) (fun u hu => ?_) ((ex0 x).mp a3).2 hb)
          rw [((ex0 x).mp a3).1 u (by omega), hex u (by omega)]
      · rw [a2]
        simp only [ab_ci]
        rw [b_Carriers_leastLoad_69, if_pos rfl, k2, k3, zb_or (by omega) (by omega), zb_bit (by omega) (by omega)]
        have hs := hL.s (t := t) (by omega)
        have h2t : 2 ^ t < 65536 := zb_p2 (k := 16) (by omega)
        have hl9 := hl.1
        have none1 : ¬ ((o ||| w).testBit t = true ∧ L (18 + t) &&& l = 0 ∧ pc l < e) → ∀ y, LX L e k o w y → exB (t + 1) l y → False := by
          intro hno y hy hex
          cases hb : y.testBit t with
          | false => exact a1 y hy ((ex0 y).mpr ⟨hex, hb⟩)
          | true =>
            have hly : ∀ u, l.testBit u = true → y.testBit u = true := fun u hu => by
              have : t + 1 ≤ u := by
                apply Classical.byContradiction
                intro z
                rw [hlow u (by omega)] at hu
                cases hu
              rw [hex u this]; exact hu
            refine hno ⟨hy.2.1 t hb, and_0.mpr fun u hu => hy.1.2.2 t u hb (hly u hu), ?_⟩
            have := pc_lt (a := l) (b := y) hy.1.1 hly (fun z => by rw [z, hb] at lt0; cases lt0)
            have := hy.1.2.1
            omega
        have no : ¬ ((o ||| w).testBit t = true ∧ L (18 + t) &&& l = 0 ∧ pc l < e) → ∀ z : Option (Option ab_V × ab_H), z = some (some (vI (-1)), hp D) → ((∃ x : Nat, z = some (some (vI (x : Int)), hp D) ∧ LX L e k o w x ∧ exB (t + 1) l x ∧ ∀ y, LX L e k o w y → exB (t + 1) l y → x ≤ y) ∨ ((∀ y, LX L e k o w y → exB (t + 1) l y → False) ∧ z = some (some (vI (-1)), hp D))) := fun hno z hz => Or.inr ⟨none1 hno, hz⟩
        by_cases hb : (o ||| w).testBit t = true
        · rw [if_pos hb, if_neg (by decide), if_pos (by omega), Int.toNat_natCast, hK.1 t (by omega), zb_an (by omega) (by omega)]
          by_cases c2 : L (18 + t) &&& l = 0
          · rw [if_neg (by omega), s_bitCount (by omega) hl.1]
            simp only [ab_ci]
            rw [b_Carriers_leastLoad_111, hK.2]
            by_cases c3 : pc l < e
            · rw [if_neg (by omega), b_Carriers_leastLoad_123, if_neg (by decide), zb_w (by omega) (by omega), zb_sl (by omega), zb_or (by omega) (by omega)]
              have hpo := pc_or (s := l) (t := t) hl.1 (by omega)
              have hl2 : Ld L e (l ||| 2 ^ t) := ⟨Nat.or_lt_two_pow (n := 16) hl.1 h2t, by omega, fun a b ha hb' => by
                rw [bor] at ha hb'
                by_cases e1 : t = a
                · by_cases e2 : t = b
                  · rw [← e1, ← e2]; exact hL.2.2.2.2.1 t (by omega)
                  · rw [decide_eq_false e2, Bool.or_false] at hb'
                    rw [← e1]; exact and_0.mp c2 b hb'
                · rw [decide_eq_false e1, Bool.or_false] at ha
                  by_cases e2 : t = b
                  · rw [← e2, hL.2.2.2.1 a t (bit16 hl.1 ha) (by omega)]
                    exact and_0.mp c2 a ha
                  · rw [decide_eq_false e2, Bool.or_false] at hb'
                    exact hl.2.2 a b ha hb'⟩
              have ex1 : ∀ y, exB t (l ||| 2 ^ t) y ↔ exB (t + 1) l y ∧ y.testBit t = true := fun y => by
                constructor
                · refine fun h => ⟨fun u hu => ?_, ?_⟩
                  · rw [h u (by omega), bor, decide_eq_false (by omega : ¬ t = u), Bool.or_false]
                  · rw [h t (Nat.le_refl _), bor, decide_eq_true rfl, Bool.or_true]
                · intro h u hu
                  rw [bor]
                  by_cases eu : t = u
                  · rw [decide_eq_true eu, Bool.or_true, ← eu]; exact h.2
                  · rw [decide_eq_false eu, Bool.or_false]; exact h.1 u (by omega)
              rcases ih (l ||| 2 ^ t) d (by omega) (by omega) hl2 (fun u hu => by
                rw [bor] at hu
                by_cases eu : t = u
                · rw [← eu]; exact hb
                · rw [decide_eq_false eu, Bool.or_false] at hu
                  exact hsub u hu) (fun u hu => by rw [bor, decide_eq_false (by omega : ¬ t = u), Bool.or_false]; exact hlow u (by omega)) with ⟨x, b1, b2, b3, b4⟩ | ⟨b1, b2⟩
              · rw [b1]
                simp only [ab_ci]
                rw [b_Carriers_leastLoad_143]
                refine Or.inl ⟨x, rfl, b2, ((ex1 x).mp b3).1, fun y hy hex => ?_⟩
                cases hb' : y.testBit t with
                | false => exact absurd ((ex0 y).mpr ⟨hex, hb'⟩) (fun z => a1 y hy z)
                | true => exact b4 y hy ((ex1 y).mpr ⟨hex, hb'⟩)
              · rw [b2]
                simp only [ab_ci]
                rw [b_Carriers_leastLoad_143]
                refine Or.inr ⟨fun y hy hex => ?_, rfl⟩
                cases hb' : y.testBit t with
                | false => exact a1 y hy ((ex0 y).mpr ⟨hex, hb'⟩)
                | true => exact b1 y hy ((ex1 y).mpr ⟨hex, hb'⟩)
            · rw [if_pos (by omega), b_Carriers_leastLoad_122, b_Carriers_leastLoad_123, if_pos rfl]
              exact no (fun z => c3 z.2.2) _ rfl
          · rw [if_pos (by omega), b_Carriers_leastLoad_122, b_Carriers_leastLoad_123, if_pos rfl]
            exact no (fun z => c2 z.2.1) _ rfl
        · rw [if_neg hb, if_pos rfl, b_Carriers_leastLoad_122, b_Carriers_leastLoad_123, if_pos rfl]
          exact no (fun z => hb z.1) _ rfl
    · right
      refine ⟨fun y hy hex => g1 (need (t + 1) l y hy hex), ?_⟩
      rw [g2, b_Carriers_leastLoad_49, if_neg (by decide)]
end
