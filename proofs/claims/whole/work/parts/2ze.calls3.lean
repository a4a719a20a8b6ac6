/-! calls: tells, recites, comes -/
section
theorem stM_len (S : St) (c : Nat) (v : Cr) : (sW (stM S c v)).2.1.length = (sW S).2.1.length := by
  show ((sW S).2.1.set c v).length = _
  rw [List.length_set]
theorem mnD_ne {S : St} {c o : Nat} {v : Cr} (h : o ≠ c) : mnD (stM S c v) o = mnD S o := by
  show ((sW S).2.1.set c v).getD o _ = (sW S).2.1.getD o _
  rw [List.getD_eq_getElem?_getD, List.getElem?_set_ne (fun z => h z.symm), ← List.getD_eq_getElem?_getD]
theorem mnD_eq {S : St} {c : Nat} {v : Cr} (h : c < (sW S).2.1.length) : mnD (stM S c v) c = v := by
  show ((sW S).2.1.set c v).getD c _ = v
  rw [List.getD_eq_getElem?_getD, List.getElem?_set_self h]
  rfl
def lo1 (o : Option Nat) (y : Int) : Int := if goI o = -1 then y else w32 (y + 1)
def f_tells (S : St) (x o y : Int) : Int × St := if ((0 ≤ x ∧ x < ((sW S).2.1.length : Int)) ∧ 0 ≤ o ∧ o < ((sW S).2.1.length : Int)) ∧ x ≠ o then (if 0 ≤ y ∧ y < ((sW S).1 0 : Int) then (if y.toNat ∈ cL (mnD S x.toNat) ∧ cS (mnD S x.toNat) = cS (mnD S o.toNat) then (lo1 (hrG (mnD S o.toNat) y.toNat) (w32 (cZ (sayV (sW S).1 (mnD S x.toNat) y.toNat) - cZ (mnD S x.toNat))), stM (stM S x.toNat (sayV (sW S).1 (mnD S x.toNat) y.toNat)) o.toNat (hrV (mnD S o.toNat) y.toNat)) else (-5, S)) else (-2, S)) else (-2, S)
theorem C_tells {X : Nat × (Nat → Int)} {d : Nat} {D : DD} {S : St} {x o y : Int} (hd : 8 ≤ d) (hS : SOK S) (hC : CH D S) : cRes X d m_N_tells [vI x, vI o, vI y] D (f_tells S x o y) := by
  obtain ⟨d, rfl⟩ : ∃ e, d = e + 1 := ⟨d - 1, by omega⟩
  have h6 := hS.n6
  have h16 := hS.L.1.1
  unfold cRes f_tells
  rw [e_N_tells, b_N_tells_0, s_C_areTwo (by omega) hC.n]
  simp only [ab_ci]
  rw [b_N_tells_11]
  by_cases h1 : ((0 ≤ x ∧ x < ((sW S).2.1.length : Int)) ∧ 0 ≤ o ∧ o < ((sW S).2.1.length : Int)) ∧ x ≠ o
  · rw [if_pos h1, if_neg (by decide), if_pos h1, s_C_isThing (by omega) hC.l]
    simp only [ab_ci]
    rw [b_N_tells_23]
    by_cases h2 : 0 ≤ y ∧ y < ((sW S).1 0 : Int)
    · obtain ⟨c, rfl⟩ : ∃ t : Nat, x = (t : Int) := ⟨x.toNat, by omega⟩
      obtain ⟨e, rfl⟩ : ∃ t : Nat, o = (t : Int) := ⟨o.toNat, by omega⟩
      obtain ⟨t, rfl⟩ : ∃ t : Nat, y = (t : Int) := ⟨y.toNat, by omega⟩
      have hc : c < (sW S).2.1.length := by omega
      have he : e < (sW S).2.1.length := by omega
      rw [isI_t h2, if_pos (by decide), if_pos (by omega), Int.toNat_natCast, R46_0 (by omega), if_pos h2]
      simp only [ab_rf]
      rw [b_N_tells_38, if_pos (by omega), Int.toNat_natCast, R46_0 (by omega), Int.toNat_natCast]
      simp only [ab_rf]
      rw [b_N_tells_49, s_C_has (by omega) (hC.cc hc).2.2.2.1 (hS.oc hc).2.2.1 (by omega)]
      simp only [ab_ci]
      rw [b_N_tells_57, (hC.cc hc).2.1, (hC.cc he).2.1]
      by_cases h3 : t ∈ cL (mnD S c)
      · rw [if_pos h3, if_neg (by decide)]
        by_cases h4 : cS (mnD S c) = cS (mnD S e)
        · rw [if_pos (by omega), if_pos (And.intro h3 h4)]
          obtain ⟨D1, g1, g2⟩ := s_C_say (X := X) (d := d) (D := D) (i := c) (q := 1) (t := t) (v := mnD S c) (by omega) hS.L hC.l (hS.oc hc) (hC.cc hc) (by omega)
          obtain ⟨k1, k2⟩ := hC.man' hS hc g2
          have hS1 : SOK (stM S c (sayV (sW S).1 (mnD S c) t)) := hS.man ((hS.oc hc).say (by omega))
          have hce : e < (sW (stM S c (sayV (sW S).1 (mnD S c) t))).2.1.length := by rw [stM_len]; exact he
          have eqe : mnD (stM S c (sayV (sW S).1 (mnD S c) t)) e = mnD S e := mnD_ne (by omega)
          have cce := k1.cc hce
          rw [eqe] at cce
          obtain ⟨D2, q1, q2⟩ := s_C_hear (X := X) (d := d) (D := D1) (i := e) (t := t) (v := mnD S e) (by omega) (hS.oc he) cce (by omega)
          obtain ⟨r1, r2⟩ := k1.man' hS1 hce q2
          rw [g1]
          simp only [ab_ci]
          rw [b_N_tells_86, q1]
          simp only [ab_ci]
          rw [b_N_tells_94]
          refine ⟨D2, ?_, r1, k2.tr r2⟩
          unfold lo1
          by_cases h5 : goI (hrG (mnD S e) t) = -1
          · rw [if_neg (fun z => z h5), if_pos h5]
          · rw [if_pos h5, if_neg h5]
        · rw [if_neg (by omega), if_neg (fun z => h4 z.2)]
          exact ⟨D, rfl, hC, fr.rf D⟩
      · rw [if_neg h3, if_pos rfl, if_neg (fun z => h3 z.1)]
        exact ⟨D, rfl, hC, fr.rf D⟩
    · rw [isI_f h2, if_neg (by decide), if_neg h2]
      exact ⟨D, rfl, hC, fr.rf D⟩
  · rw [if_neg h1, if_pos rfl, if_neg h1]
    exact ⟨D, rfl, hC, fr.rf D⟩
theorem s_M_tell {X : Nat × (Nat → Int)} {d : Nat} {D : DD} {c e t : Nat} {v w : Cr} {L : Nat → Nat} (hd : 6 ≤ d) (hc : c ≤ 6) (he : e ≤ 6) (hce : c ≠ e) (hL : LOK L) (hl : LM D L) (hv : okc v) (h : MC D (mB c) v) (hm : t ∈ cL v) (hw : okc w) (g : MC D (mB e) w) (ht : t < 16) : ∃ D' D1, ev X d m_M_tell [vR 12 0, vI (c : Int), vI (e : Int), vI (t : Int)] (hp D) = some (some (vI (lo1 (hrG w t) (w32 (cZ (sayV L v t) - cZ v)))), hp D') ∧ (MC D1 (mB c) (sayV L v t) ∧ fr (mP (mB c)) D D1) ∧ MC D' (mB e) (hrV w t) ∧ fr (mP (mB e)) D1 D' := by
  obtain ⟨d, rfl⟩ : ∃ e, d = e + 1 := ⟨d - 1, by omega⟩
  have hmb : mB c = 153 + 29 * c := rfl
  have hme : mB e = 153 + 29 * e := rfl
  obtain ⟨D1, g1, g2, g3⟩ := s_M_say (X := X) (d := d) (D := D) (c := c) (t := t) (v := v) (by omega) hc hL hl hv h ht
  have ez : cZ (hrV v t) = cZ v := by
    show loZ (hrG v t) (cZ v) = _
    rw [(hrG_in hv hm).1]
    rfl
  rw [ez] at g1
  have ge : MC D1 (mB e) w := g.fr hw fun k k1 k2 => g3 22 0 k (fun z => by have := z.2.2; omega)
  obtain ⟨D2, q1, q2, q3⟩ := s_M_hear (X := X) (d := d) (D := D1) (c := e) (t := t) (v := w) (by omega) he hw ge ht
  rw [e_M_tell, b_M_tell_0, g1]
  simp only [ab_ci]
  rw [b_M_tell_6, q1]
  simp only [ab_ci]
  rw [b_M_tell_16]
  refine ⟨D2, D1, ?_, ⟨g2, g3⟩, q2, q3⟩
  unfold lo1
  by_cases h5 : goI (hrG w t) = -1
  · rw [if_neg (fun z => z h5), if_pos h5, b_M_tell_25, Int.add_zero, zb_ww]
  · rw [if_pos h5, if_neg h5, b_M_tell_25]
theorem M_tells {X : Nat × (Nat → Int)} {d : Nat} {D : DD} {S : St} {x o y : Int} (hd : 8 ≤ d) (hS : SOK S) (hM : MH D S) : mRes X d m_M_tells [vI x, vI o, vI y] D (f_tells S x o y) := by
  obtain ⟨d, rfl⟩ : ∃ e, d = e + 1 := ⟨d - 1, by omega⟩
  have h6 := hS.n6
  have h16 := hS.L.1.1
  have hM := hM.th hS
  unfold mRes f_tells
  rw [e_M_tells, b_M_tells_0, s_M_isMan (by omega) hM.n h6]
  simp only [ab_ci]
  rw [b_M_tells_11]
  by_cases h0 : 0 ≤ x ∧ x < ((sW S).2.1.length : Int)
  · rw [isI_t h0, if_neg (by decide), s_M_isMan (by omega) hM.n h6]
    simp only [ab_ci]
    rw [b_M_tells_20]
    by_cases h1 : 0 ≤ o ∧ o < ((sW S).2.1.length : Int)
    · rw [isI_t h1, if_neg (by decide)]
      by_cases hxo : x = o
      · rw [if_pos hxo, if_neg (fun z => z.2 hxo)]
        exact ⟨_, rfl, hM, th_mY D⟩
      · rw [if_neg hxo, if_pos (And.intro (And.intro h0 h1) hxo), s_M_isThing (by omega) hM.l hS.L]
        simp only [ab_ci]
        rw [b_M_tells_34]
        by_cases h2 : 0 ≤ y ∧ y < ((sW S).1 0 : Int)
        · obtain ⟨c, rfl⟩ : ∃ t : Nat, x = (t : Int) := ⟨x.toNat, by omega⟩
          obtain ⟨e, rfl⟩ : ∃ t : Nat, o = (t : Int) := ⟨o.toNat, by omega⟩
          obtain ⟨t, rfl⟩ : ∃ t : Nat, y = (t : Int) := ⟨y.toNat, by omega⟩
          have hc : c < (sW S).2.1.length := by omega
          have he : e < (sW S).2.1.length := by omega
          have hmb : mB c = 153 + 29 * c := rfl
          have hme : mB e = 153 + 29 * e := rfl
          have ok := hS.oc hc
          rw [isI_t h2, if_pos (by decide), if_pos h2, s_M_has (by omega) (by omega) (hM.mc hc) (Nat.le_trans ok.2.2.2 ok.1.2.1), Int.toNat_natCast, Int.toNat_natCast, Int.toNat_natCast]
          simp only [ab_ci]
          rw [b_M_tells_46]
          by_cases h3 : t ∈ cL (mnD S c)
          · rw [if_pos h3, if_neg (by decide), s_M_manAt (by omega) (by omega)]
            simp only [ab_ci]
            rw [b_M_tells_57, zb_w (by omega) (by omega), if_pos (by omega), tn (n := mB c + 1) (by omega), (hM.mc hc).2.1, s_M_manAt (by omega) (by omega)]
            simp only [ab_ci]
            rw [b_M_tells_68, zb_w (by omega) (by omega), if_pos (by omega), tn (n := mB e + 1) (by omega), (hM.mc he).2.1]
            by_cases h4 : cS (mnD S c) = cS (mnD S e)
            · rw [if_pos (by omega), if_pos (And.intro h3 h4)]
              obtain ⟨D2, D1, g1, g2, g3, g4⟩ := s_M_tell (X := X) (d := d) (D := u3 D 12 0 0 0) (c := c) (e := e) (t := t) (by omega) (by omega) (by omega) (by omega) hS.L hM.l ok (hM.mc hc) h3 (hS.oc he) (hM.mc he) (by omega)
              rw [g1]
              simp only [ab_ci]
              rw [b_M_tells_84]
              have hS1 : SOK (stM S c (sayV (sW S).1 (mnD S c) t)) := hS.man (ok.say (by omega))
              have hce : e < (sW (stM S c (sayV (sW S).1 (mnD S c) t))).2.1.length := by rw [stM_len]; exact he
              have k1 := hM.man hS hc (g2.2.mo fun _ _ _ z => Or.inl z) g2.1
              have k2 := k1.man hS1 hce (g4.mo fun _ _ _ z => Or.inl z) g3
              refine ⟨D2, rfl, k2, ((th_mY D).tr (g2.2.mo fun t i k z => ?_)).tr (g4.mo fun t i k z => ?_)⟩
              · have := z.1; unfold mY; omega
              · have := z.1; unfold mY; omega
            · rw [if_neg (by omega), if_neg (fun z => h4 z.2)]
              exact ⟨_, rfl, hM, th_mY D⟩
          · rw [if_neg h3, if_pos rfl, if_neg (fun z => h3 z.1)]
            exact ⟨_, rfl, hM, th_mY D⟩
        · rw [isI_f h2, if_neg (by decide), if_neg h2]
          exact ⟨_, rfl, hM, th_mY D⟩
    · rw [isI_f h1, if_pos rfl, if_neg (fun z => h1 z.1.2)]
      exact ⟨_, rfl, hM, th_mY D⟩
  · rw [isI_f h0, if_pos rfl, if_neg (fun z => h0 z.1.1)]
    exact ⟨_, rfl, hM, th_mY D⟩
theorem ok_tells {S : St} {x o y : Int} (hS : SOK S) : SOK (f_tells S x o y).2 := by
  have h16 := hS.L.1.1
  unfold f_tells
  split
  · split
    · split
      · exact (hS.man ((hS.oc (by omega)).say (by omega))).man ((hS.oc (by omega)).hr (by omega))
      · exact hS
    · exact hS
  · exact hS
-- rows
def rrI (S : St) (x : Int) : Int := if 0 ≤ x ∧ x < 4 then (match sR S x.toNat with
  | none => -6
  | some _ => 0) else -2
theorem s_C_refusalOfRow {X : Nat × (Nat → Int)} {d : Nat} {D : DD} {S : St} {x : Int} (hd : 1 ≤ d) (hC : CH D S) : ev X d m_N_refusalOfRow [vR 11 0, vI x] (hp D) = some (some (vI (rrI S x)), hp D) := by
  obtain ⟨d, rfl⟩ : ∃ e, d = e + 1 := ⟨d - 1, by omega⟩
  rw [e_N_refusalOfRow, b_N_refusalOfRow_0]
  unfold rrI
  by_cases h1 : x < 0
  · rw [if_pos h1, if_neg (by omega)]
  · by_cases h2 : x < 4
    · obtain ⟨r, rfl⟩ : ∃ t : Nat, x = (t : Int) := ⟨x.toNat, by omega⟩
      have hr := hC.2.2.1 r (by omega)
      rw [if_neg h1, if_pos h2, if_pos (by omega), Int.toNat_natCast, R21 (by omega), if_pos (by omega)]
      simp only [ab_rf]
      rw [b_N_refusalOfRow_22]
      cases hq : sR S r with
      | none =>
        rw [hq] at hr
        have hr : D 8 r 2 = 0 := hr
        rw [hr, if_pos rfl]
      | some z =>
        rw [hq] at hr
        rw [hr.2.1, if_neg (by decide)]
    · rw [if_neg h1, if_neg h2, if_neg (by omega)]
def rwD (S : St) (r : Nat) : Rw := (sR S r).getD (0, [])
theorem rwD_some {S : St} {r : Nat} (h : sR S r ≠ none) : sR S r = some (rwD S r) := by
  unfold rwD
  cases hq : sR S r with
  | none => exact absurd hq h
  | some z => rfl
def f_recites (S : St) (x y : Int) : Int × St := if 0 ≤ x ∧ x < ((sW S).2.1.length : Int) then (if rrI S y = 0 then (((recV (sW S).1 (mnD S x.toNat) (rwD S y.toNat).2).2 : Int), stM S x.toNat (recV (sW S).1 (mnD S x.toNat) (rwD S y.toNat).2).1) else (rrI S y, S)) else (-2, S)
theorem rrI_0 {S : St} {y : Int} (h : rrI S y = 0) : ∃ r : Nat, y = (r : Int) ∧ r < 4 ∧ sR S r = some (rwD S r) := by
  unfold rrI at h
  split at h
  · rename_i h4
    refine ⟨y.toNat, by omega, by omega, rwD_some fun z => ?_⟩
    rw [z] at h
    cases h
  · cases h
theorem C_recites {X : Nat × (Nat → Int)} {d : Nat} {D : DD} {S : St} {x y : Int} (hd : 8 ≤ d) (hS : SOK S) (hC : CH D S) : cRes X d m_N_recites [vI x, vI y] D (f_recites S x y) := by
  obtain ⟨d, rfl⟩ : ∃ e, d = e + 1 := ⟨d - 1, by omega⟩
  have h6 := hS.n6
  unfold cRes f_recites
  rw [e_N_recites, b_N_recites_0, s_C_isOne (by omega) hC.n]
  simp only [ab_ci]
  rw [b_N_recites_9]
  by_cases h1 : 0 ≤ x ∧ x < ((sW S).2.1.length : Int)
  · obtain ⟨c, rfl⟩ : ∃ t : Nat, x = (t : Int) := ⟨x.toNat, by omega⟩
    have hc : c < (sW S).2.1.length := by omega
    rw [isI_t h1, if_pos (by decide), if_pos h1, s_C_refusalOfRow (by omega) hC]
    simp only [ab_ci]
    rw [b_N_recites_20]
    by_cases h2 : rrI S y = 0
    · obtain ⟨r, rfl, hr, er⟩ := rrI_0 h2
      have hrc := hC.2.2.1 r hr
      have hro := hS.2.2.1 r hr
      rw [er] at hrc hro
      rw [if_pos h2, if_pos (by omega), Int.toNat_natCast, R46_0 (by omega), if_pos h2, Int.toNat_natCast]
      simp only [ab_rf]
      rw [b_N_recites_36, if_pos (by omega), Int.toNat_natCast, R21 hr]
      simp only [ab_rf]
      rw [b_N_recites_46]
      obtain ⟨D1, g1, g2⟩ := s_C_recite (X := X) (d := d) (D := D) (i := c) (q := 1) (r := r) (v := mnD S c) (z := rwD S r) (by omega) hS.L hC.l (hS.oc hc) (hC.cc hc) hrc hro
      rw [g1]
      simp only [ab_ci]
      rw [b_N_recites_49]
      exact ⟨D1, rfl, hC.man' hS hc g2⟩
    · rw [if_neg h2, if_neg h2]
      exact ⟨D, rfl, hC, fr.rf D⟩
  · rw [isI_f h1, if_neg (by decide), if_neg h1]
    exact ⟨D, rfl, hC, fr.rf D⟩
/-- the reference's look at a row: the sort is there or not -/
theorem M_row {D : DD} {S : St} (hM : MH D S) {r : Nat} (hr : r < 4) : (D 40 0 r ≠ -1 ↔ rrI S (r : Int) = 0) ∧ (rrI S (r : Int) ≠ 0 → rrI S (r : Int) = -6) := by
  have h := hM.2.2.1 r hr
  unfold rrI
  rw [if_pos (by omega), Int.toNat_natCast]
  cases hq : sR S r with
  | none =>
    rw [hq] at h
    have h : D 40 0 r = -1 := h
    exact ⟨⟨fun z => absurd h z, fun z => by cases z⟩, fun _ => rfl⟩
  | some z =>
    rw [hq] at h
    have h1 := h.1
    exact ⟨⟨fun _ => rfl, fun _ => by omega⟩, fun z => absurd rfl z⟩
theorem rrI_out {S : St} {y : Int} (h : ¬ (0 ≤ y ∧ y ≤ 3)) : rrI S y = -2 := by unfold rrI; rw [if_neg (by omega)]
theorem M_recites {X : Nat × (Nat → Int)} {d : Nat} {D : DD} {S : St} {x y : Int} (hd : 8 ≤ d) (hS : SOK S) (hM : MH D S) : mRes X d m_M_recites [vI x, vI y] D (f_recites S x y) := by
  obtain ⟨d, rfl⟩ : ∃ e, d = e + 1 := ⟨d - 1, by omega⟩
  have h6 := hS.n6
  have hL1 := hS.L.1.1
  have hM := hM.th hS
  unfold mRes f_recites
  rw [e_M_recites, b_M_recites_0, s_M_isMan (by omega) hM.n h6]
  simp only [ab_ci]
  rw [b_M_recites_11]
  by_cases h1 : 0 ≤ x ∧ x < ((sW S).2.1.length : Int)
  · obtain ⟨c, rfl⟩ : ∃ t : Nat, x = (t : Int) := ⟨x.toNat, by omega⟩
    have hc : c < (sW S).2.1.length := by omega
    have hmb : mB c = 153 + 29 * c := rfl
    rw [isI_t h1, if_neg (by decide), if_pos h1, s_M_within (by omega)]
    simp only [ab_ci]
    rw [b_M_recites_23]
    by_cases h3 : 0 ≤ y ∧ y ≤ 3
    · obtain ⟨r, rfl⟩ : ∃ t : Nat, y = (t : Int) := ⟨y.toNat, by omega⟩
      obtain ⟨w1, w2⟩ := M_row hM (r := r) (by omega)
      rw [if_pos h3, if_pos (by decide), if_pos (by omega), Int.toNat_natCast]
      by_cases h2 : rrI S (r : Int) = 0
      · obtain ⟨r', hr1, hr, er⟩ := rrI_0 h2
        have : r' = r := by omega
        subst this
        have hrc := hM.2.2.1 r' hr
        obtain ⟨z1, z2, z3⟩ : okr (some (rwD S r')) := by rw [← er]; exact hS.2.2.1 r' hr
        rw [er] at hrc
        rw [if_pos (w1.mpr h2), if_pos h2, Int.toNat_natCast]
        generalize rwD S r' = z at hrc z1 z2 z3 ⊢
        have key : ∀ (m k : Nat) (D : DD) (q : Cr × Nat), k + m = z.2.length → LM D (sW S).1 → RWM D r' (some z) → okc q.1 → q.2 ≤ k → MC D (mB c) q.1 → ∃ D', at_ X d cd_M_recites 47 [vR 12 0, vI (c : Int), vI (r' : Int), vI (q.2 : Int), vI (k : Int), vU, vU] [] (hp D) = some (some (vI (((z.2.drop k).foldl (rcF (sW S).1) q).2 : Int)), hp D') ∧ MC D' (mB c) ((z.2.drop k).foldl (rcF (sW S).1) q).1 ∧ fr (mP (mB c)) D D' := by
          intro m
          induction m with
          | zero =>
            intro k D q hk hl hr oy hy hc
            rw [b_M_recites_47, if_pos (by omega), Int.toNat_natCast, hr.2.1, if_pos (by omega), List.drop_of_length_le (by omega)]
            exact ⟨D, rfl, hc, fr.rf D⟩
          | succ m ih =>
            intro k D q hk hl hr oy hy hcc
            have oy9 : (cL q.1).length ≤ 9 := Nat.le_trans oy.2.2.2 oy.1.2.1
            rw [b_M_recites_47, if_pos (by omega), Int.toNat_natCast, hr.2.1, if_neg (by omega), zb_w (n := 40 * (r' : Int)) (by omega) (by omega), zb_w (n := 40 * (r' : Int) + (k : Int)) (by omega) (by omega), if_pos (by omega), tn (n := 40 * r' + k) (by omega), hr.2.2 k (by omega), s_M_isThing (by omega) hl hS.L]
            simp only [ab_ci]
            rw [drop_getD (by omega), List.foldl_cons, b_M_recites_78]
            obtain ⟨oy', hy'⟩ := rcF_ok hS.L (x := z.2.getD k 0) oy
            have hb := z3 (z.2.getD k 0) (by rw [List.getD_eq_getElem?_getD, List.getElem?_eq_getElem (by omega)]; exact List.getElem_mem _)
            generalize z.2.getD k 0 = x at oy' hy' hb ⊢
            by_cases h1 : 0 ≤ x ∧ x < ((sW S).1 0 : Int)
            · obtain ⟨t, rfl⟩ : ∃ t : Nat, x = (t : Int) := ⟨x.toNat, by omega⟩
              rw [isI_t h1, if_neg (by omega), zb_w (by omega) (by omega), s_M_has (by omega) (by omega) hcc oy9]
              simp only [ab_ci]
              rw [b_M_recites_89]
              by_cases h2 : t ∈ cL q.1
              · have e : rcF (sW S).1 q (t : Int) = (sayV (sW S).1 q.1 t, q.2 + 1) := by unfold rcF; rw [if_pos ⟨h1, by rw [Int.toNat_natCast]; exact h2⟩, Int.toNat_natCast]
                obtain ⟨D1, g1, g2, g3⟩ := s_M_say (X := X) (d := d) (D := D) (c := c) (t := t) (v := q.1) (L := (sW S).1) (by omega) (by omega) hS.L hl oy hcc (by omega)
                rw [if_pos h2, if_pos (by omega), zb_w (by omega) (by omega), g1]
                simp only [ab_ci]
                rw [b_M_recites_103, zb_s (by omega), b_M_recites_107, zb_s (by omega)]
                rw [e] at oy' hy' ⊢
                obtain ⟨D2, k1, k2, k3⟩ := ih (k + 1) D1 (sayV (sW S).1 q.1 t, q.2 + 1) (by omega) (hl.fm (by omega) g3) (hr.on fun t' k' ht' => g3 t' 0 k' (fun z => by have := z.1; omega)) oy' (by omega) g2
                exact ⟨D2, k1, k2, g3.tr k3⟩
              · have e : rcF (sW S).1 q (t : Int) = q := by unfold rcF; rw [if_neg (fun z => h2 (by have := z.2; rw [Int.toNat_natCast] at this; exact this))]
                rw [if_neg h2, if_neg (by omega), b_M_recites_107, zb_s (by omega), e]
                exact ih (k + 1) D q (by omega) hl hr oy (by omega) hcc
            · have e : rcF (sW S).1 q x = q := by unfold rcF; rw [if_neg (fun z => h1 z.1)]
              rw [isI_f h1, if_pos rfl, b_M_recites_107, zb_s (by omega), e]
              exact ih (k + 1) D q (by omega) hl hr oy (by omega) hcc
        obtain ⟨D1, g1, g2, g3⟩ := key z.2.length 0 _ (mnD S c, 0) (by omega) hM.l hrc (hS.oc hc) (Nat.le_refl _) (hM.mc hc)
        exact ⟨D1, g1, MH.man' hS hM hc ⟨g2, mP_dP g3⟩⟩
      · rw [if_neg (fun z => h2 (w1.mp z)), if_neg h2, w2 h2]
        exact ⟨_, rfl, hM, th_mY D⟩
    · have e := rrI_out (S := S) h3
      rw [if_neg h3, if_neg (by decide), if_neg (by rw [e]; decide), e]
      exact ⟨_, rfl, hM, th_mY D⟩
  · rw [isI_f h1, if_pos rfl, if_neg h1]
    exact ⟨_, rfl, hM, th_mY D⟩
theorem ok_recites {S : St} {x y : Int} (hS : SOK S) : SOK (f_recites S x y).2 := by
  unfold f_recites
  split
  · split
    · exact hS.man (okc.rec_ hS.L (z := (mnD S x.toNat, 0)) (hS.oc (by omega)))
    · exact hS
  · exact hS
end
