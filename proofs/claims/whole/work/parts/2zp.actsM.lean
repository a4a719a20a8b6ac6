/-! acts of the reference -/
section
def GM (D : DD) (men : List Cr) : Prop := D 22 0 152 = (men.length : Int) ∧ ∀ c v, men[c]? = some v → MC D (mB c) v
theorem GM.mc {D : DD} {men : List Cr} (h : GM D men) {c : Nat} (hc : c < men.length) : MC D (mB c) (mnL men c) := h.2 c _ (mnL_some hc)
/-- all men's cells; the row that stood -/
def aP : Nat → Nat → Nat → Prop := fun t i k => (t = 22 ∧ i = 0 ∧ 153 ≤ k ∧ k < 327) ∨ t = 26
theorem mP_aP {c : Nat} (h : c < 6) {D D' : DD} (e : fr (mP (mB c)) D D') : fr aP D D' := e.mo fun t i k z => Or.inl ⟨z.1, z.2.1, by have := z.2.2; have : mB c = 153 + 29 * c := rfl; omega, by have := z.2.2; have : mB c = 153 + 29 * c := rfl; omega⟩
theorem LM.fa {D D' : DD} {L : Nat → Nat} (h : LM D L) (e : fr aP D D') : LM D' L := h.on fun k hk => e 22 0 k (by unfold aP; omega)
theorem GM.set {D D' : DD} {c : Nat} {men : List Cr} {v : Cr} (hm : okm men) (h : GM D men) (hc : c < men.length) (e : fr (mP (mB c)) D D') (hv : MC D' (mB c) v) : GM D' (men.set c v) := by
  have hmb : mB c = 153 + 29 * c := rfl
  refine ⟨by rw [e 22 0 152 (fun z => by have := z.2.2; omega), h.1, List.length_set], fun c' v' hc' => ?_⟩
  by_cases e1 : c' = c
  · subst e1
    rw [List.getElem?_set_self hc] at hc'
    cases hc'
    exact hv
  · rw [List.getElem?_set_ne (fun z => e1 z.symm)] at hc'
    have hmc : mB c' = 153 + 29 * c' := rfl
    exact (h.2 c' v' hc').fr (hm.2 v' (List.mem_of_getElem? hc')) fun k k1 k2 => e 22 0 k (fun z => by have := z.2.2; omega)
theorem s_M_acts {X : Nat × (Nat → Int)} {d : Nat} {D : DD} {c : Nat} {men : List Cr} {L : Nat → Nat} {x : Int} (hd : 8 ≤ d) (hL : LOK L) (hl : LM D L) (hm : okm men) (h : GM D men) (hc : c < men.length) (hx : -9223372036854775808 ≤ x ∧ x < 9223372036854775808) : ∃ D', ev X d m_M_acts [vR 12 0, vI (c : Int), vL x] (hp D) = some (some (vI (osI (actV L men c x))), hp D') ∧ GM D' ((actV L men c x).getD men) ∧ fr aP D D' := by
  obtain ⟨d, rfl⟩ : ∃ e, d = e + 1 := ⟨d - 1, by omega⟩
  have h6 := hm.1
  have h16 := hL.1.1
  have h10 := hL.1.2.2.2.1
  have hmb : mB c = 153 + 29 * c := rfl
  have ok := hm.oc hc
  have o9 : (cL (mnL men c)).length ≤ 9 := Nat.le_trans ok.2.2.2 ok.1.2.1
  rw [e_M_acts, b_M_acts_0]
  simp only [cmp_lt, cmp_ge]
  -- the last road
  have last : ¬ (40 ≤ x ∧ x < 50) → ¬ (20 ≤ x ∧ x < 36) → ¬ (0 ≤ x ∧ x < 16) → ∃ D', at_ X d cd_M_acts 133 [vR 12 0, vI (c : Int), vL x, vU, vU, vU, vU] [] (hp D) = some (some (vI (osI (actV L men c x))), hp D') ∧ GM D' ((actV L men c x).getD men) ∧ fr aP D D' := by
    intro n1 n2 n3
    rw [b_M_acts_133]
    simp only [cmp_lt]
    unfold actV
    by_cases x60 : x < 60
    · rw [if_pos x60]
      have e : (if x < 20 then (if 0 ≤ x ∧ x < (L 0 : Int) then some (men.set c (hrV (mnL men c) x.toNat)) else none) else if x < 40 then (if (0 ≤ x - 20 ∧ x - 20 < (L 0 : Int)) ∧ (x - 20).toNat ∈ cL (mnL men c) then some (men.set c (sayV L (mnL men c) (x - 20).toNat)) else none) else if x < 60 then (if 0 ≤ x - 40 ∧ x - 40 < (L 50 : Int) then some (men.set c (walkV L (mnL men c) (x - 40).toNat)) else none) else (if ((0 ≤ x - 60 ∧ x - 60 < (men.length : Int)) ∧ (c : Int) ≠ x - 60) ∧ cS (mnL men c) = cS (mnL men (x - 60).toNat) then some ((men.set c (lsV L (mnL men c) (mnL men (x - 60).toNat)).1).set (x - 60).toNat (lsV L (mnL men c) (mnL men (x - 60).toNat)).2) else none)) = none := by
        by_cases x20 : x < 20
        · rw [if_pos x20, if_neg (by omega)]
        rw [if_neg x20]
        by_cases x40 : x < 40
        · rw [if_pos x40, if_neg (fun z => by have := z.1; omega)]
        rw [if_neg x40, if_pos x60, if_neg (by omega)]
      rw [e]
      exact ⟨D, rfl, h, fr.rf D⟩
    rw [if_neg x60, if_neg (by omega), if_neg (by omega), if_neg x60, zb_w64 (by omega) (by omega), s_M_isMan (by omega) h.1 h6]
    simp only [ab_ci]
    rw [b_M_acts_150]
    by_cases h1 : 0 ≤ x - 60 ∧ x - 60 < (men.length : Int)
    · obtain ⟨o, ho⟩ : ∃ t : Nat, x - 60 = (t : Int) := ⟨(x - 60).toNat, by omega⟩
      have hx9 : x = (o : Int) + 60 := by omega
      have hmo : mB o = 153 + 29 * o := rfl
      rw [isI_t h1, if_neg (by decide), zb_w64 (by omega) (by omega), ho] 
      rw [ho] at h1
      simp only [cmp_ne]
      by_cases hco : c = o
      · rw [if_neg (by omega), if_neg (fun z => z.1.2 (by omega))]
        exact ⟨D, rfl, h, fr.rf D⟩
      have holt : o < men.length := by omega
      have oko := hm.oc holt
      have oo9 : (cL (mnL men o)).length ≤ 9 := Nat.le_trans oko.2.2.2 oko.1.2.1
      rw [if_pos (by omega), zb_w (n := x) (by omega) (by omega), zb_w (by omega) (by omega), ho, s_M_manAt (by omega) (by omega)]
      simp only [ab_ci]
      rw [b_M_acts_182, zb_w (by omega) (by omega), if_pos (by omega), tn (n := mB o + 1) (by omega), (h.mc holt).2.1, s_M_manAt (by omega) (by omega)]
      simp only [ab_ci]
      rw [b_M_acts_193, zb_w (by omega) (by omega), if_pos (by omega), tn (n := mB c + 1) (by omega), (h.mc hc).2.1, Int.toNat_natCast]
      by_cases hs : cS (mnL men c) = cS (mnL men o)
      · rw [if_pos (by omega), if_pos (And.intro (And.intro h1 (by omega)) hs), s_M_many (by omega) (by omega) (h.mc holt)]
        simp only [ab_ci]
        rw [b_M_acts_207]
        have o5 := oko.2.2.1
        have cpy : ∀ (m k : Nat) (D : DD), k + m = (cL (mnL men o)).length → MC D (mB o) (mnL men o) → (∀ j, j < k → D 26 0 j = ((cL (mnL men o)).getD j 0 : Nat)) → ∃ D', at_ X d cd_M_acts 212 [vR 12 0, vI (c : Int), vU, vU, vI (o : Int), vI ((cL (mnL men o)).length : Int), vI (k : Int)] [] (hp D) = at_ X d cd_M_acts 243 [vR 12 0, vI (c : Int), vU, vU, vI (o : Int), vI ((cL (mnL men o)).length : Int), vI 0] [] (hp D') ∧ (∀ j, j < (cL (mnL men o)).length → D' 26 0 j = ((cL (mnL men o)).getD j 0 : Nat)) ∧ fr (fun t _ _ => t = 26) D D' := by
          intro m
          induction m with
          | zero =>
            intro k D hk hm hj
            rw [b_M_acts_212, if_pos (by omega)]
            exact ⟨D, rfl, fun j h => hj j (by omega), fr.rf D⟩
          | succ m ih =>
            intro k D hk hm hj
            rw [b_M_acts_212, if_neg (by omega), s_M_thingAt (by omega) (by omega) hm (by omega) (by omega)]
            simp only [ab_ci]
            rw [b_M_acts_233, if_pos (by omega), zb_s (by omega), Int.toNat_natCast]
            have f1 : fr (fun t _ _ => t = 26) D (u3 D 26 0 k ((cL (mnL men o)).getD k 0 : Nat)) := (fr.rf D).u rfl
            obtain ⟨D', g1, g2, g3⟩ := ih (k + 1) _ (by omega) (hm.fr oko fun k' _ _ => f1 22 0 k' (by omega)) (fun j h => by
              by_cases e : j = k
              · subst e; rw [u3_eq]
              · rw [u3_k e, hj j (by omega)])
            exact ⟨D', g1, g2, f1.tr g3⟩
        have key : ∀ (m k : Nat) (D : DD) (z : Cr × Cr), k + m = (cL (mnL men o)).length → LM D L → (∀ j, j < (cL (mnL men o)).length → D 26 0 j = ((cL (mnL men o)).getD j 0 : Nat)) → okc z.1 → okc z.2 → GM D ((men.set c z.1).set o z.2) → ∃ D', at_ X d cd_M_acts 243 [vR 12 0, vI (c : Int), vU, vU, vI (o : Int), vI ((cL (mnL men o)).length : Int), vI (k : Int)] [] (hp D) = some (some (vI 1), hp D') ∧ GM D' ((men.set c (((cL (mnL men o)).drop k).foldl (lsF L) z).1).set o (((cL (mnL men o)).drop k).foldl (lsF L) z).2) ∧ fr aP D D' := by
          intro m
          induction m with
          | zero =>
            intro k D z hk hl hst k1 k2 hg
            rw [b_M_acts_243, if_pos (by omega), List.drop_of_length_le (by omega)]
            exact ⟨D, rfl, hg, fr.rf D⟩
          | succ m ih =>
            intro k D z hk hl hst k1 k2 hg
            have ht : (cL (mnL men o)).getD k 0 < 16 := o5 _ (List.mem_of_getElem? (getD_some (by omega)))
            have e26 := hst k (by omega)
            have lo : o < ((men.set c z.1).set o z.2).length := by rw [List.length_set, List.length_set]; exact holt
            have lc : c < ((men.set c z.1).set o z.2).length := by rw [List.length_set, List.length_set]; exact hc
            have eo : mnL ((men.set c z.1).set o z.2) o = z.2 := mnL_set (by rw [List.length_set]; exact holt)
            have ec : mnL ((men.set c z.1).set o z.2) c = z.1 := by rw [mnL_ne hco, mnL_set hc]
            have mco := hg.mc lo
            rw [eo] at mco
            have mcc := hg.mc lc
            rw [ec] at mcc
            have edr : (cL (mnL men o)).drop k = (cL (mnL men o)).getD k 0 :: (cL (mnL men o)).drop (k + 1) := by
              rw [List.drop_eq_getElem_cons (by omega), List.getD_eq_getElem?_getD, List.getElem?_eq_getElem (by omega)]
              rfl
            rw [b_M_acts_243, if_neg (by omega), if_pos (by omega), Int.toNat_natCast, e26, s_M_has (by omega) (by omega) mco (Nat.le_trans k2.2.2.2 k2.1.2.1), edr, List.foldl_cons]
            simp only [ab_ci]
            rw [b_M_acts_263]
            generalize (cL (mnL men o)).getD k 0 = t at ht e26 ⊢
            by_cases hm2 : t ∈ cL z.2
            · have ed : lsF L z t = (hrV z.1 t, sayV L z.2 t) := by unfold lsF; rw [if_pos hm2]
              obtain ⟨D2, D1, g1, ⟨g2, g3⟩, g4, g5⟩ := s_M_tell (X := X) (d := d) (D := D) (c := o) (e := c) (t := t) (v := z.2) (w := z.1) (by omega) (by omega) (by omega) (fun e => hco e.symm) hL hl k2 mco hm2 k1 mcc ht
              have okz : okm ((men.set c z.1).set o z.2) := (hm.set k1).set k2
              have hg1 := hg.set okz lo g3 g2
              have es1 : ((men.set c z.1).set o z.2).set o (sayV L z.2 t) = (men.set c z.1).set o (sayV L z.2 t) := List.set_set ..
              rw [es1] at hg1
              have lc1 : c < ((men.set c z.1).set o (sayV L z.2 t)).length := by rw [List.length_set, List.length_set]; exact hc
              have hg2 := hg1.set ((hm.set k1).set (k2.say ht)) lc1 g5 g4
              have es2 : ((men.set c z.1).set o (sayV L z.2 t)).set c (hrV z.1 t) = (men.set c (hrV z.1 t)).set o (sayV L z.2 t) := by
                rw [List.set_comm _ _ (fun e => hco e), List.set_set, List.set_comm _ _ (fun e => hco e.symm)]
              rw [es2] at hg2
              have f1 : fr aP D D1 := mP_aP (by omega) g3
              have f2 : fr aP D1 D2 := mP_aP (by omega) g5
              have q26 : ∀ j, D2 26 0 j = D 26 0 j := fun j => (g5 26 0 j (fun z => by have := z.1; omega)).trans (g3 26 0 j (fun z => by have := z.1; omega))
              rw [if_pos hm2, if_neg (by decide), if_pos (by omega), Int.toNat_natCast, e26, g1]
              simp only [ab_ci]
              rw [b_M_acts_280, b_M_acts_281, zb_s (by omega), ed]
              obtain ⟨D3, r1, r2, r3⟩ := ih (k + 1) D2 (hrV z.1 t, sayV L z.2 t) (by omega) ((hl.fa f1).fa f2) (fun j hj => (q26 j).trans (hst j hj)) (k1.hr ht) (k2.say ht) hg2
              exact ⟨D3, r1, r2, (f1.tr f2).tr r3⟩
            · have ed : lsF L z t = z := by unfold lsF; rw [if_neg hm2]
              rw [if_neg hm2, if_pos rfl, b_M_acts_281, zb_s (by omega), ed]
              exact ih (k + 1) D z (by omega) hl hst k1 k2 hg
        have e0 : (men.set c (mnL men c)).set o (mnL men o) = men := by
          have s1 : men.set c (mnL men c) = men := by
            apply List.ext_getElem?
            intro j
            by_cases e : j = c
            · subst e; rw [List.getElem?_set_self hc, mnL_some hc]
            · rw [List.getElem?_set_ne (fun z => e z.symm)]
          rw [s1]
          apply List.ext_getElem?
          intro j
          by_cases e : j = o
          · subst e; rw [List.getElem?_set_self holt, mnL_some holt]
          · rw [List.getElem?_set_ne (fun z => e z.symm)]
        obtain ⟨D1, g1, g2, g3⟩ := cpy (cL (mnL men o)).length 0 D (by omega) (h.mc holt) (fun j h => by omega)
        rw [show ((0 : Nat) : Int) = 0 from rfl] at g1
        have hg1 : GM D1 men := ⟨(g3 22 0 152 (by omega)).trans h.1, fun c v hv => (h.2 c v hv).fr (hm.2 v (List.mem_of_getElem? hv)) fun k _ _ => g3 22 0 k (by omega)⟩
        obtain ⟨D2, r1, r2, r3⟩ := key (cL (mnL men o)).length 0 D1 (mnL men c, mnL men o) (by omega) (hl.on fun k _ => g3 22 0 k (by omega)) g2 ok oko (by rw [e0]; exact hg1)
        rw [List.drop_zero] at r2
        exact ⟨D2, g1.trans r1, r2, (g3.mo fun t i k z => Or.inr z).tr r3⟩
      · rw [if_neg (by omega), if_neg (fun z => hs z.2)]
        exact ⟨D, rfl, h, fr.rf D⟩
    · rw [isI_f h1, if_pos rfl, if_neg (fun z => h1 z.1.1)]
      exact ⟨D, rfl, h, fr.rf D⟩
  have third : ¬ (20 ≤ x ∧ x < 36) → ¬ (0 ≤ x ∧ x < 16) → ∃ D', at_ X d cd_M_acts 90 [vR 12 0, vI (c : Int), vL x, vU, vU, vU, vU] [] (hp D) = some (some (vI (osI (actV L men c x))), hp D') ∧ GM D' ((actV L men c x).getD men) ∧ fr aP D D' := by
    intro n2 n3
    rw [b_M_acts_90]
    simp only [cmp_lt, cmp_ge]
    by_cases c1 : 40 ≤ x ∧ x < 50
    · rw [if_neg (by omega), if_neg (by omega), zb_w64 (by omega) (by omega), s_M_isInn (by omega) hl hL]
      simp only [ab_ci]
      rw [b_M_acts_115]
      unfold actV
      rw [if_neg (show ¬ x < 20 by omega), if_neg (show ¬ x < 40 by omega), if_pos (show x < 60 by omega)]
      by_cases h1 : 0 ≤ x - 40 ∧ x - 40 < (L 50 : Int)
      · obtain ⟨t, ht⟩ : ∃ t : Nat, x - 40 = (t : Int) := ⟨(x - 40).toNat, by omega⟩
        rw [isI_t h1, if_pos (by decide), zb_w (n := x) (by omega) (by omega), zb_w (by omega) (by omega), if_pos h1, ht, Int.toNat_natCast]
        obtain ⟨D1, g1, g2, g3⟩ := s_M_walk (X := X) (d := d) (D := D) (c := c) (to := t) (v := mnL men c) (by omega) (by omega) hL hl ok (h.mc hc) (by omega)
        rw [g1]
        simp only [ab_ci]
        rw [b_M_acts_130]
        exact ⟨D1, rfl, h.set hm hc g3 g2, mP_aP (by omega) g3⟩
      · rw [isI_f h1, if_neg (by decide), if_neg h1]
        exact ⟨D, rfl, h, fr.rf D⟩
    · by_cases c2 : x < 40
      · rw [if_pos c2]; exact last c1 n2 n3
      · rw [if_neg c2, if_pos (by omega)]; exact last c1 n2 n3
  have second : ¬ (0 ≤ x ∧ x < 16) → ∃ D', at_ X d cd_M_acts 34 [vR 12 0, vI (c : Int), vL x, vU, vU, vU, vU] [] (hp D) = some (some (vI (osI (actV L men c x))), hp D') ∧ GM D' ((actV L men c x).getD men) ∧ fr aP D D' := by
    intro n3
    rw [b_M_acts_34]
    simp only [cmp_lt, cmp_ge]
    by_cases c1 : 20 ≤ x ∧ x < 36
    · rw [if_neg (by omega), if_neg (by omega), zb_w64 (by omega) (by omega), s_M_isThing (by omega) hl hL]
      simp only [ab_ci]
      rw [b_M_acts_59]
      unfold actV
      rw [if_neg (show ¬ x < 20 by omega), if_pos (show x < 40 by omega)]
      by_cases h1 : 0 ≤ x - 20 ∧ x - 20 < (L 0 : Int)
      · obtain ⟨t, ht⟩ : ∃ t : Nat, x - 20 = (t : Int) := ⟨(x - 20).toNat, by omega⟩
        rw [isI_t h1, if_neg (by decide), zb_w (n := x) (by omega) (by omega), zb_w (by omega) (by omega)]
        rw [ht] at h1 ⊢
        rw [s_M_has (by omega) (by omega) (h.mc hc) o9, Int.toNat_natCast]
        simp only [ab_ci]
        rw [b_M_acts_72]
        by_cases h2 : t ∈ cL (mnL men c)
        · obtain ⟨D1, g1, g2, g3⟩ := s_M_say (X := X) (d := d) (D := D) (c := c) (t := t) (v := mnL men c) (by omega) (by omega) hL hl ok (h.mc hc) (by omega)
          rw [if_pos h2, if_pos (by decide), zb_w (n := x) (by omega) (by omega), zb_w (by omega) (by omega), ht, g1, if_pos (And.intro h1 h2)]
          simp only [ab_ci]
          rw [b_M_acts_87]
          exact ⟨D1, rfl, h.set hm hc g3 g2, mP_aP (by omega) g3⟩
        · rw [if_neg h2, if_neg (by decide), if_neg (fun z => h2 z.2)]
          exact ⟨D, rfl, h, fr.rf D⟩
      · rw [isI_f h1, if_pos rfl, if_neg (fun z => h1 z.1)]
        exact ⟨D, rfl, h, fr.rf D⟩
    · by_cases c2 : x < 20
      · rw [if_pos c2]; exact third c1 n3
      · rw [if_neg c2, if_pos (by omega)]; exact third c1 n3
  by_cases c1 : 0 ≤ x ∧ x < 16
  · rw [if_neg (by omega), if_neg (by omega), s_M_isThing (by omega) hl hL]
    simp only [ab_ci]
    rw [b_M_acts_19]
    unfold actV
    rw [if_pos (show x < 20 by omega)]
    by_cases h1 : 0 ≤ x ∧ x < (L 0 : Int)
    · obtain ⟨t, rfl⟩ : ∃ t : Nat, x = (t : Int) := ⟨x.toNat, by omega⟩
      rw [isI_t h1, if_pos (by decide), zb_w (by omega) (by omega), if_pos h1, Int.toNat_natCast]
      obtain ⟨D1, g1, g2, g3⟩ := s_M_hear (X := X) (d := d) (D := D) (c := c) (t := t) (v := mnL men c) (by omega) (by omega) ok (h.mc hc) (by omega)
      rw [g1]
      simp only [ab_ci]
      rw [b_M_acts_31]
      exact ⟨D1, rfl, h.set hm hc g3 g2, mP_aP (by omega) g3⟩
    · rw [isI_f h1, if_neg (by decide), if_neg h1]
      exact ⟨D, rfl, h, fr.rf D⟩
  · by_cases c2 : x < 0
    · rw [if_pos c2]; exact second c1
    · rw [if_neg c2, if_pos (by omega)]; exact second c1
def bP : Nat → Nat → Nat → Prop := fun t i k => aP t i k ∨ (t = 12 ∧ i = 0 ∧ k = 17)
theorem s_M_actsAll {X : Nat × (Nat → Int)} {d : Nat} {D : DD} {c r : Nat} {men : List Cr} {L : Nat → Nat} {z : Rw} (hd : 9 ≤ d) (hr4 : r < 4) (hL : LOK L) (hl : LM D L) (hm : okm men) (h : GM D men) (hc : c < men.length) (hr : RWM D r (some z)) (hz : okr (some z)) : ∃ D', ev X d m_M_actsAll [vR 12 0, vI (c : Int), vI (r : Int)] (hp D) = some (some (vI ((aaV L c z.2 0 men 0).1 : Int)), hp D') ∧ (GM D' (aaV L c z.2 0 men 0).2.1 ∧ D' 12 0 17 = ((aaV L c z.2 0 men 0).2.2 : Int)) ∧ fr bP D D' := by
  obtain ⟨d, rfl⟩ : ∃ e, d = e + 1 := ⟨d - 1, by omega⟩
  obtain ⟨z1, z2, z3⟩ := hz
  have key : ∀ (m k : Nat) (D : DD) (men : List Cr) (b : Nat), k + m = z.2.length → b ≤ k → LM D L → okm men → c < men.length → RWM D r (some z) → GM D men → D 12 0 17 = (b : Int) → ∃ D', at_ X d cd_M_actsAll 7 [vR 12 0, vI (c : Int), vI (r : Int), vI (k : Int)] [] (hp D) = some (some (vI ((aaV L c (z.2.drop k) k men b).1 : Int)), hp D') ∧ (GM D' (aaV L c (z.2.drop k) k men b).2.1 ∧ D' 12 0 17 = ((aaV L c (z.2.drop k) k men b).2.2 : Int)) ∧ fr bP D D' := by
    intro m
    induction m with
    | zero =>
      intro k D men b hk hb hl hm hc hr h h2
      rw [b_M_actsAll_7, if_pos (by omega), Int.toNat_natCast, hr.2.1, if_pos (by omega), if_pos (by omega), List.drop_of_length_le (by omega)]
      refine ⟨D, ?_, ⟨h, h2⟩, fr.rf D⟩
      rw [show (z.2.length : Int) = (k : Int) by omega]
      rfl
    | succ m ih =>
      intro k D men b hk hb hl hm hc hr h h2
      have h6 := hm.1
      obtain ⟨D1, g1, g2, g3⟩ := s_M_acts (X := X) (d := d) (D := D) (c := c) (men := men) (L := L) (x := z.2.getD k 0) (by omega) hL hl hm h hc (z3 _ (getD_mem (by omega)))
      rw [b_M_actsAll_7, if_pos (by omega), Int.toNat_natCast, hr.2.1, if_neg (by omega), zb_w (n := 40 * (r : Int)) (by omega) (by omega), zb_w (n := 40 * (r : Int) + (k : Int)) (by omega) (by omega), if_pos (by omega), tn (n := 40 * r + k) (by omega), hr.2.2 k (by omega), g1, drop_getD (by omega), aaV]
      simp only [ab_ci]
      rw [b_M_actsAll_33]
      cases hq : actV L men c (z.2.getD k 0) with
      | none =>
        rw [hq] at g2
        rw [if_neg (show ¬ osI none ≠ 0 from fun z => z rfl)]
        exact ⟨D1, rfl, ⟨g2, (g3 12 0 17 (by unfold aP; omega)).trans h2⟩, g3.mo fun _ _ _ z => Or.inl z⟩
      | some men' =>
        rw [hq] at g2
        have g2 : GM D1 men' := g2
        obtain ⟨k1, k2⟩ := hm.act hL hc hq
        have hc' : c < men'.length := by omega
        have ok := k1.oc hc'
        have e22 : D1 12 0 17 = (b : Int) := (g3 12 0 17 (by unfold aP; omega)).trans h2
        have hr1 : RWM D1 r (some z) := hr.on fun t j ht => g3 t 0 j (by unfold aP; omega)
        rw [if_pos (show osI (some men') ≠ 0 from (by show (1 : Int) ≠ 0; decide)), s_M_isBreach (by omega) (by omega) hL (hl.fa g3) (g2.mc hc') ⟨ok.2.1, ok.2.2.1, Nat.le_trans ok.2.2.2 ok.1.2.1⟩, e22]
        simp only [ab_ci]
        rw [b_M_actsAll_48]
        have go : ∀ b' : Nat, b' ≤ k + 1 → ∃ D', at_ X d cd_M_actsAll 7 [vR 12 0, vI (c : Int), vI (r : Int), vI ((k + 1 : Nat) : Int)] [] (hp (u3 D1 12 0 17 (b' : Int))) = some (some (vI ((aaV L c (z.2.drop (k + 1)) (k + 1) men' b').1 : Int)), hp D') ∧ (GM D' (aaV L c (z.2.drop (k + 1)) (k + 1) men' b').2.1 ∧ D' 12 0 17 = ((aaV L c (z.2.drop (k + 1)) (k + 1) men' b').2.2 : Int)) ∧ fr bP D D' := by
          intro b' hb'
          have f2 : fr bP D1 (u3 D1 12 0 17 (b' : Int)) := (fr.rf D1).u (Or.inr ⟨rfl, rfl, rfl⟩)
          have hg2 : GM (u3 D1 12 0 17 (b' : Int)) men' := ⟨by rw [u3_t (by omega)]; exact g2.1, fun c v hv => (g2.2 c v hv).fr (k1.2 v (List.mem_of_getElem? hv)) fun k _ _ => by rw [u3_t (by omega)]⟩
          obtain ⟨D2, r1, r2, r3⟩ := ih (k + 1) _ men' b' (by omega) hb' ((hl.fa g3).on fun k hk => by rw [u3_t (by omega)]) k1 hc' (hr1.on fun t j ht => by rw [u3_t (by omega)]) hg2 (by rw [u3_eq])
          exact ⟨D2, r1, r2, ((g3.mo fun _ _ _ z => Or.inl z).tr f2).tr r3⟩
        by_cases hs : spO L (bs (cL (mnL men' c))) = none
        · rw [if_pos (spI_none.mpr hs), if_pos rfl, if_pos hs, b_M_actsAll_56, Int.add_zero, zb_w (n := (b : Int)) (by omega) (by omega), zb_s (by omega)]
          exact go b (by omega)
        · rw [if_neg (fun e => hs (spI_none.mp e)), if_neg (by decide), if_neg hs, b_M_actsAll_56, zb_s (by omega), zb_s (by omega)]
          exact go (b + 1) (by omega)
  rw [e_M_actsAll, b_M_actsAll_0]
  have f2 : fr bP D (u3 D 12 0 17 0) := (fr.rf D).u (Or.inr ⟨rfl, rfl, rfl⟩)
  obtain ⟨D2, r1, r2, r3⟩ := key z.2.length 0 (u3 D 12 0 17 0) men 0 (by omega) (by omega) (hl.on fun k hk => by rw [u3_t (by omega)]) hm hc (hr.on fun t j ht => by rw [u3_t (by omega)]) ⟨by rw [u3_t (by omega)]; exact h.1, fun c v hv => (h.2 c v hv).fr (hm.2 v (List.mem_of_getElem? hv)) fun k _ _ => by rw [u3_t (by omega)]⟩ (by rw [u3_eq]; rfl)
  rw [List.drop_zero] at r1 r2
  exact ⟨D2, r1, r2, f2.tr r3⟩
end
