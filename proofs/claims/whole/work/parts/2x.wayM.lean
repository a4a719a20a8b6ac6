/-! say, walk, deliver, empties, triesAs of the reference -/
section
def LM (D : DD) (L : Nat → Nat) : Prop := ∀ k, k < 152 → D 22 0 k = (L k : Int)
theorem LM.on {D D' : DD} {L : Nat → Nat} (h : LM D L) (e : ∀ k, k < 152 → D' 22 0 k = D 22 0 k) : LM D' L := fun k hk => (e k hk).trans (h k hk)
theorem LM.fm {D D' : DD} {L : Nat → Nat} {b : Nat} (hb : 152 ≤ b) (h : LM D L) (e : fr (mP b) D D') : LM D' L := h.on fun k hk => e 22 0 k (fun z => by have := z.2.2.1; omega)
theorem s_M_within {X : Nat × (Nat → Int)} {d : Nat} {D : DD} {x a b : Int} (hd : 1 ≤ d) : ev X d m_M_within [vL x, vL a, vL b] (hp D) = some (some (vI (if a ≤ x ∧ x ≤ b then 1 else 0)), hp D) := by
  obtain ⟨d, rfl⟩ : ∃ e, d = e + 1 := ⟨d - 1, by omega⟩
  rw [e_M_within, b_M_within_0]
  simp only [cmp_lt, cmp_gt]
  by_cases h1 : x < a
  · rw [if_pos h1, if_neg (by omega)]
  · by_cases h2 : b < x
    · rw [if_neg h1, if_pos h2, if_neg (by omega)]
    · rw [if_neg h1, if_neg h2, if_pos (by omega)]
theorem s_M_isThing {X : Nat × (Nat → Int)} {d : Nat} {D : DD} {x : Int} {L : Nat → Nat} (hd : 2 ≤ d) (hl : LM D L) (hL : LOK L) : ev X d m_M_isThing [vR 12 0, vL x] (hp D) = some (some (vI (isI x (L 0))), hp D) := by
  obtain ⟨d, rfl⟩ : ∃ e, d = e + 1 := ⟨d - 1, by omega⟩
  have := hL.1.1
  rw [e_M_isThing, b_M_isThing_0, hl 0 (by omega), zb_w (by omega) (by omega), s_M_within (by omega)]
  simp only [ab_ci]
  rw [b_M_isThing_14]
  unfold isI
  by_cases h : 0 ≤ x ∧ x < (L 0 : Int)
  · rw [if_pos (show 0 ≤ x ∧ x ≤ (L 0 : Int) - 1 by omega), if_pos h, if_pos (by omega)]
  · rw [if_neg (show ¬ (0 ≤ x ∧ x ≤ (L 0 : Int) - 1) by omega), if_neg h, if_pos (by omega)]
theorem s_M_isInn {X : Nat × (Nat → Int)} {d : Nat} {D : DD} {x : Int} {L : Nat → Nat} (hd : 2 ≤ d) (hl : LM D L) (hL : LOK L) : ev X d m_M_isInn [vR 12 0, vL x] (hp D) = some (some (vI (isI x (L 50))), hp D) := by
  obtain ⟨d, rfl⟩ : ∃ e, d = e + 1 := ⟨d - 1, by omega⟩
  have := hL.1.2.2.2.1
  rw [e_M_isInn, b_M_isInn_0, hl 50 (by omega), zb_w (by omega) (by omega), s_M_within (by omega)]
  simp only [ab_ci]
  rw [b_M_isInn_15]
  unfold isI
  by_cases h : 0 ≤ x ∧ x < (L 50 : Int)
  · rw [if_pos (show 0 ≤ x ∧ x ≤ (L 50 : Int) - 1 by omega), if_pos h, if_pos (by omega)]
  · rw [if_neg (show ¬ (0 ≤ x ∧ x ≤ (L 50 : Int) - 1) by omega), if_neg h, if_pos (by omega)]
theorem lo_add (o : Option Nat) (z z0 : Int) : w32 (w32 (z - z0) + (if goI o ≠ -1 then 1 else 0)) = w32 (loZ o z - z0) := by
  cases o with
  | none => 
    show w32 (w32 (z - z0) + (if (-1 : Int) ≠ -1 then 1 else 0)) = w32 (z - z0)
    rw [if_neg (by omega), Int.add_zero, zb_ww]
  | some u =>
    show w32 (w32 (z - z0) + (if (u : Int) ≠ -1 then 1 else 0)) = w32 (w32 (z + 1) - z0)
    rw [if_pos (by omega)]
    unfold w32
    omega
theorem w32_0 (z : Int) : w32 (z - z) = 0 := by rw [Int.sub_self]; rfl
theorem s_M_say {X : Nat × (Nat → Int)} {d : Nat} {D : DD} {c t : Nat} {v : Cr} {L : Nat → Nat} (hd : 5 ≤ d) (hc : c ≤ 6) (hL : LOK L) (hl : LM D L) (hv : okc v) (h : MC D (mB c) v) (ht : t < 16) : ∃ D', ev X d m_M_say [vR 12 0, vI (c : Int), vI (t : Int)] (hp D) = some (some (vI (w32 (cZ (sayV L v t) - cZ (hrV v t)))), hp D') ∧ MC D' (mB c) (sayV L v t) ∧ fr (mP (mB c)) D D' := by
  obtain ⟨d, rfl⟩ : ∃ e, d = e + 1 := ⟨d - 1, by omega⟩
  have hmb : mB c = 153 + 29 * c := rfl
  have hR := hL.r ht
  have hL1 := hL.1.1
  have key : ∀ (m r : Nat) (D : DD) (w : Cr), r + m = 16 → LM D L → okc w → MC D (mB c) w → ∃ D', at_ X d cd_M_say 12 [vR 12 0, vI (c : Int), vI (t : Int), vI (w32 (cZ w - cZ (hrV v t))), vI (r : Int)] [] (hp D) = some (some (vI (w32 (cZ (hrs w (rst (L (2 + t)) r)) - cZ (hrV v t)))), hp D') ∧ MC D' (mB c) (hrs w (rst (L (2 + t)) r)) ∧ fr (mP (mB c)) D D' := by
    intro m
    induction m with
    | zero =>
      intro r D w hr hl ow hw
      have e : rst (L (2 + t)) r = [] := rst_n fun j hj => Nat.testBit_lt_two_pow (Nat.lt_of_lt_of_le hR (p2le (a := 16) (by omega)))
      rw [b_M_say_12, hl 0 (by omega), if_pos (by omega), e]
      exact ⟨D, rfl, hw, fr.rf D⟩
    | succ m ih =>
      intro r D w hr hl ow hw
      rw [b_M_say_12, hl 0 (by omega)]
      by_cases h1 : L 0 ≤ r
      · have e : rst (L (2 + t)) r = [] := rst_n fun j hj => Nat.testBit_lt_two_pow (Nat.lt_of_lt_of_le (hL.2.1 t ht) (p2le (by omega)))
        rw [if_pos (by omega), e]
        exact ⟨D, rfl, hw, fr.rf D⟩
      · rw [if_neg (by omega), zb_w (n := 2 + (t : Int)) (by omega) (by omega), if_pos (by omega), tn (n := 2 + t) (by omega), hl (2 + t) (by omega), zb_bit (by omega) (by omega), rst_s (by omega)]
        by_cases h3 : (L (2 + t)).testBit r = true
        · rw [if_pos h3, if_pos h3, if_neg (by omega)]
          obtain ⟨D1, g1, g2, g3⟩ := s_M_hear (X := X) (d := d) (D := D) (c := c) (t := r) (v := w) (by omega) hc ow hw (by omega)
          rw [g1]
          simp only [ab_ci]
          rw [b_M_say_48]
          have e2 := lo_add (hrG w r) (cZ w) (cZ (hrV v t))
          obtain ⟨D2, k1, k2, k3⟩ := ih (r + 1) D1 (hrV w r) (by omega) (hl.fm (by omega) g3) (ow.hr (by omega)) g2
          refine ⟨D2, Eq.trans ?_ k1, k2, g3.tr k3⟩
          rw [show cZ (hrV w r) = loZ (hrG w r) (cZ w) from rfl, ← e2]
          by_cases h4 : goI (hrG w r) ≠ -1
          · rw [if_pos h4, if_pos h4, b_M_say_57, b_M_say_59, zb_s (by omega)]
          · rw [if_neg h4, if_neg h4, b_M_say_57, b_M_say_59, zb_s (by omega)]
        · rw [if_neg h3, if_neg h3, if_pos (by omega), b_M_say_59, zb_s (by omega)]
          exact ih (r + 1) D w (by omega) hl ow hw
  rw [e_M_say, b_M_say_0]
  obtain ⟨D1, g1, g2, g3⟩ := s_M_hear (X := X) (d := d) (D := D) (c := c) (t := t) (v := v) (by omega) hc hv h ht
  rw [g1]
  simp only [ab_ci]
  rw [b_M_say_6]
  obtain ⟨D2, k1, k2, k3⟩ := key 16 0 D1 (hrV v t) (by omega) (hl.fm (by omega) g3) (hv.hr ht) g2
  rw [rst_0, w32_0] at k1
  rw [rst_0] at k2
  exact ⟨D2, k1, k2, g3.tr k3⟩
theorem s_M_news {X : Nat × (Nat → Int)} {d : Nat} {c j : Nat} {L : Nat → Nat} {z0 l2 : Int} (hd : 4 ≤ d) (hc : c ≤ 6) (hL : LOK L) (hj : j < 10) : ∀ (m k : Nat) (D : DD) (w : Cr), k + m = L (51 + j) → LM D L → okc w → MC D (mB c) w → ∃ D', at_ X d cd_M_walk 65 [vR 12 0, vI (c : Int), vI l2, vI (w32 (cZ w - z0)), vI ((mB c : Nat) : Int), vI (j : Int), vI (k : Int)] [] (hp D) = at_ X d cd_M_walk 8 [vR 12 0, vI (c : Int), vI l2, vI (w32 (cZ (hrs w ((nws L j).drop k)) - z0)), vI ((mB c : Nat) : Int), vU, vU] [] (hp D') ∧ MC D' (mB c) (hrs w ((nws L j).drop k)) ∧ fr (mP (mB c)) D D' := by
  intro m
  have hmb : mB c = 153 + 29 * c := rfl
  have h9 := hL.2.2.2.2.2.2.1 j hj
  induction m with
  | zero =>
    intro k D w hk hl ow hw
    rw [b_M_walk_65, zb_w (n := 51 + (j : Int)) (by omega) (by omega), if_pos (by omega), tn (n := 51 + j) (by omega), hl (51 + j) (by omega), if_pos (by omega), List.drop_of_length_le (by rw [nws_len]; omega)]
    exact ⟨D, rfl, hw, fr.rf D⟩
  | succ m ih =>
    intro k D w hk hl ow hw
    have ht : L (61 + 9 * j + k) < 16 := Nat.lt_of_lt_of_le (hL.2.2.2.2.2.2.2 j k hj (by omega)) hL.1.1
    rw [b_M_walk_65, zb_w (n := 51 + (j : Int)) (by omega) (by omega), if_pos (by omega), tn (n := 51 + j) (by omega), hl (51 + j) (by omega), if_neg (by omega), zb_w (n := 9 * (j : Int)) (by omega) (by omega), zb_w (n := 61 + 9 * (j : Int)) (by omega) (by omega), zb_w (n := 61 + 9 * (j : Int) + (k : Int)) (by omega) (by omega), if_pos (by omega), tn (n := 61 + 9 * j + k) (by omega), hl (61 + 9 * j + k) (by omega)]
    obtain ⟨D1, g1, g2, g3⟩ := s_M_hear (X := X) (d := d) (D := D) (c := c) (t := L (61 + 9 * j + k)) (v := w) (by omega) hc ow hw ht
    rw [g1]
    simp only [ab_ci]
    rw [b_M_walk_102, nws_get (by omega)]
    have e2 := lo_add (hrG w (L (61 + 9 * j + k))) (cZ w) z0
    obtain ⟨D2, k1, k2, k3⟩ := ih (k + 1) D1 (hrV w (L (61 + 9 * j + k))) (by omega) (hl.fm (by omega) g3) (ow.hr ht) g2
    refine ⟨D2, Eq.trans ?_ k1, k2, g3.tr k3⟩
    rw [show cZ (hrV w (L (61 + 9 * j + k))) = loZ (hrG w (L (61 + 9 * j + k))) (cZ w) from rfl, ← e2]
    by_cases h4 : goI (hrG w (L (61 + 9 * j + k))) ≠ -1
    · rw [if_pos h4, if_pos h4, b_M_walk_111, zb_s (by omega)]
    · rw [if_neg h4, if_neg h4, b_M_walk_111, zb_s (by omega)]
theorem s_M_walk {X : Nat × (Nat → Int)} {d : Nat} {D : DD} {c to : Nat} {v : Cr} {L : Nat → Nat} (hd : 5 ≤ d) (hc : c ≤ 6) (hL : LOK L) (hl : LM D L) (hv : okc v) (h : MC D (mB c) v) (ht : to < 10) : ∃ D', ev X d m_M_walk [vR 12 0, vI (c : Int), vI (to : Int)] (hp D) = some (some (vI (w32 (cZ (walkV L v to) - cZ v))), hp D') ∧ MC D' (mB c) (walkV L v to) ∧ fr (mP (mB c)) D D' := by
  obtain ⟨d, rfl⟩ : ∃ e, d = e + 1 := ⟨d - 1, by omega⟩
  have hmb : mB c = 153 + 29 * c := rfl
  have key : ∀ (m : Nat) (D : DD) (w : Cr), dst (cS w) to = m → LM D L → okc w → MC D (mB c) w → ∃ D', at_ X d cd_M_walk 8 [vR 12 0, vI (c : Int), vI (to : Int), vI (w32 (cZ w - cZ v)), vI ((mB c : Nat) : Int), vU, vU] [] (hp D) = some (some (vI (w32 (cZ (wkV L to m w) - cZ v))), hp D') ∧ MC D' (mB c) (wkV L to m w) ∧ fr (mP (mB c)) D D' := by
    intro m
    induction m with
    | zero =>
      intro D w hm hl ow hw
      have e : cS w = to := by unfold dst at hm; split at hm <;> omega
      rw [b_M_walk_8, zb_w (n := ((mB c : Nat) : Int) + 1) (by omega) (by omega), if_pos (by omega), tn (n := mB c + 1) (by omega), hw.2.1, if_pos (by omega)]
      exact ⟨D, rfl, hw, fr.rf D⟩
    | succ m ih =>
      intro D w hm hl ow hw
      have o3 := ow.1.2.2
      have e : cS w ≠ to := by unfold dst at hm; split at hm <;> omega
      have hn : nxI (cS w) to < 10 := by unfold nxI; split <;> omega
      have hw' : MC (u3 D 22 0 (mB c + 1) ((nxI (cS w) to : Nat) : Int)) (mB c) (atV w (nxI (cS w) to)) := by
        obtain ⟨h0, h1, h2, h3, h4, h5⟩ := hw
        exact ⟨by rw [u3_k (by omega), h0]; rfl, by rw [u3_eq]; rfl, by rw [u3_k (by omega), h2]; rfl, by rw [u3_k (by omega), h3]; rfl, fun k hk => by rw [u3_k (by omega), h4 k hk]; rfl, fun s hs => by rw [u3_k (by omega), h5 s hs]; rfl⟩
      have fw : fr (mP (mB c)) D (u3 D 22 0 (mB c + 1) ((nxI (cS w) to : Nat) : Int)) := (fr.rf D).u ⟨rfl, rfl, by omega, by omega⟩
      have go : ∃ D', at_ X d cd_M_walk 65 [vR 12 0, vI (c : Int), vI (to : Int), vI (w32 (cZ w - cZ v)), vI ((mB c : Nat) : Int), vI ((nxI (cS w) to : Nat) : Int), vI 0] [] (hp (u3 D 22 0 (mB c + 1) ((nxI (cS w) to : Nat) : Int))) = some (some (vI (w32 (cZ (wkV L to (m + 1) w) - cZ v))), hp D') ∧ MC D' (mB c) (wkV L to (m + 1) w) ∧ fr (mP (mB c)) D D' := by
        obtain ⟨D1, g1, g2, g3⟩ := s_M_news (X := X) (d := d) (c := c) (z0 := cZ v) (l2 := (to : Int)) (by omega) hc hL hn (L (51 + nxI (cS w) to)) 0 _ (atV w (nxI (cS w) to)) (by omega) (hl.fm (by omega) fw) ⟨⟨ow.1.1, ow.1.2.1, hn⟩, ow.2⟩ hw'
        have hgo := goV_S L w (nxI (cS w) to)
        obtain ⟨D2, k1, k2, k3⟩ := ih D1 (goV L w (nxI (cS w) to)) (by rw [hgo]; unfold dst at hm ⊢; unfold nxI; split at hm <;> split <;> split <;> omega) ((hl.fm (by omega) fw).fm (by omega) g3) (ow.go hL hn) g2
        exact ⟨D2, g1.trans k1, k2, (fw.tr g3).tr k3⟩
      rw [b_M_walk_8, zb_w (n := ((mB c : Nat) : Int) + 1) (by omega) (by omega), if_pos (by omega), tn (n := mB c + 1) (by omega), hw.2.1, if_neg (by omega), if_pos (by omega), if_pos (by omega)]
      by_cases hx : cS w < to
      · rw [if_neg (by omega), b_M_walk_49, if_pos (by omega), zb_w (n := ((mB c : Nat) : Int) + 1) (by omega) (by omega), if_pos (by omega), tn (n := mB c + 1) (by omega), zb_w (n := (cS w : Int) + 1) (by omega) (by omega), u3_eq, show (cS w : Int) + 1 = ((nxI (cS w) to : Nat) : Int) by unfold nxI; rw [if_pos hx]; omega]
        exact go
      · rw [if_pos (by omega), b_M_walk_49, if_pos (by omega), zb_w (n := ((mB c : Nat) : Int) + 1) (by omega) (by omega), if_pos (by omega), tn (n := mB c + 1) (by omega), zb_w (n := (cS w : Int) + -1) (by omega) (by omega), u3_eq, show (cS w : Int) + -1 = ((nxI (cS w) to : Nat) : Int) by unfold nxI; rw [if_neg hx]; omega]
        exact go
  rw [e_M_walk, b_M_walk_0, s_M_manAt (by omega) hc]
  simp only [ab_ci]
  rw [b_M_walk_6]
  have := key _ D v rfl hl hv h
  rw [w32_0] at this
  exact this
end
