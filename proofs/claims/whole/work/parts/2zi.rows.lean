/-! calls: numbers, write, copy -/
section
def stR (S : St) (r : Nat) (ρ : Option Rw) : St := (S.1, S.2.1, (fun k => if k = r then ρ else sR S k), S.2.2.2)
theorem CH.row {D D' : DD} {S : St} {r : Nat} {ρ : Option Rw} (hS : SOK S) (h : CH D S) (e : fr (fun t i _ => (t = 8 ∨ t = 62) ∧ i = r) D D') (hr : RWC D' r ρ) : CH D' (stR S r ρ) ∧ fr cY D D' := by
  have hn : ∀ t i k, ¬ ((t = 8 ∨ t = 62) ∧ i = r) → D' t i k = D t i k := fun t i k ht => e t i k ht
  obtain ⟨h1, h2, h3, h4⟩ := h
  refine ⟨⟨h1.on hS.1 (fun t k ht => hn t _ k (by omega)) (hn _ _ _ (by omega)) (fun t j k ht _ _ => hn t j k (by omega)) (hn _ _ _ (by omega)) (fun t k ht => hn t _ k (by omega)), fun i hi => (h2 i hi).on hi (hS.2.1 i hi) fun t j k _ _ _ n8 n62 _ _ _ _ _ => hn t j k (by omega), fun k hk => ?_, h4.on (fun k hk => hn 7 0 k (by omega)) (fun k => hn 61 0 k (by omega))⟩, e.mo fun t i k z => by unfold cY; omega⟩
  show RWC D' k (if k = r then ρ else sR S k)
  by_cases e1 : k = r
  · subst e1; rw [if_pos rfl]; exact hr
  · rw [if_neg e1]
    exact (h3 k hk).on fun t j ht => hn t k j (by omega)
theorem MH.row {D D' : DD} {S : St} {r : Nat} {ρ : Option Rw} (hS : SOK S) (hr4 : r < 4) (h : MH D S) (e : fr (fun t i k => i = 0 ∧ ((t = 40 ∧ k = r) ∨ (t = 41 ∧ k = r) ∨ (t = 42 ∧ 40 * r ≤ k ∧ k < 40 * r + 40))) D D') (hr : RWM D' r ρ) : MH D' (stR S r ρ) ∧ fr mY D D' := by
  have hn : ∀ t i k, ¬ (i = 0 ∧ ((t = 40 ∧ k = r) ∨ (t = 41 ∧ k = r) ∨ (t = 42 ∧ 40 * r ≤ k ∧ k < 40 * r + 40))) → D' t i k = D t i k := fun t i k ht => e t i k ht
  obtain ⟨h1, h2, h3, h4⟩ := h
  refine ⟨⟨h1.on hS.1 (fun k _ _ _ => hn _ _ _ (by omega)), fun i hi => (h2 i hi).on (hS.2.1 i hi) (hn _ _ _ (by omega)) (fun k _ _ => hn _ _ _ (by omega)), fun k hk => ?_, h4.on (hn _ _ _ (by omega)) (hn _ _ _ (by omega)) (hn _ _ _ (by omega)) (fun k => hn _ _ _ (by omega))⟩, e.mo fun t i k z => by unfold mY; omega⟩
  show RWM D' k (if k = r then ρ else sR S k)
  by_cases e1 : k = r
  · subst e1; rw [if_pos rfl]; exact hr
  · rw [if_neg e1]
    have h9 := h3 k hk
    have ho := hS.2.2.1 k hk
    cases hq : sR S k with
    | none =>
      rw [hq] at h9
      exact (hn _ _ _ (by omega)).trans h9
    | some z =>
      rw [hq] at h9 ho
      obtain ⟨a1, a2, a3⟩ := h9
      have h40 := ho.2.1
      exact ⟨(hn _ _ _ (by omega)).trans a1, (hn _ _ _ (by omega)).trans a2, fun j hj => (hn _ _ _ (by omega)).trans (a3 j hj)⟩
theorem SOK.row {S : St} {r : Nat} {ρ : Option Rw} (hS : SOK S) (hr : okr ρ) : SOK (stR S r ρ) := by
  obtain ⟨h1, h2, h3, h4⟩ := hS
  refine ⟨h1, h2, fun k hk => ?_, h4⟩
  show okr (if k = r then ρ else sR S k)
  split
  · exact hr
  · exact h3 k hk
-- numbers
def f_numbers (S : St) (x y n : Int) : Int × St := if (0 ≤ x ∧ x < 4) ∧ 0 ≤ y ∧ y ≤ 3 then (if 0 ≤ n ∧ n ≤ 40 then (0, stR S x.toNat (some (y.toNat, List.replicate n.toNat 0))) else (-3, S)) else (-2, S)
theorem rep_get {n k : Nat} : (List.replicate n (0 : Int)).getD k 0 = 0 := by
  rw [List.getD_eq_getElem?_getD, List.getElem?_replicate]
  split <;> rfl
theorem C_numbers {X : Nat × (Nat → Int)} {d : Nat} {D : DD} {S : St} {x y n : Int} (hd : 8 ≤ d) (hS : SOK S) (hC : CH D S) : cRes X d m_N_numbers [vI x, vI y, vI n] D (f_numbers S x y n) := by
  obtain ⟨d, rfl⟩ : ∃ e, d = e + 1 := ⟨d - 1, by omega⟩
  unfold cRes f_numbers
  rw [e_N_numbers, b_N_numbers_0]
  by_cases h1 : (0 ≤ x ∧ x < 4) ∧ 0 ≤ y ∧ y ≤ 3
  · rw [if_neg (by omega), if_neg (by omega), if_neg (by omega), if_pos (by omega), if_pos h1]
    by_cases h2 : 0 ≤ n ∧ n ≤ 40
    · obtain ⟨r, rfl⟩ : ∃ t : Nat, x = (t : Int) := ⟨x.toNat, by omega⟩
      obtain ⟨q, rfl⟩ : ∃ t : Nat, y = (t : Int) := ⟨y.toNat, by omega⟩
      obtain ⟨m, rfl⟩ : ∃ t : Nat, n = (t : Int) := ⟨n.toNat, by omega⟩
      obtain ⟨d, rfl⟩ : ∃ e, d = e + 1 := ⟨d - 1, by omega⟩
      rw [if_neg (by omega), if_pos (by omega), if_pos (by omega), Int.toNat_natCast, R21 (by omega), if_pos h2, Int.toNat_natCast, Int.toNat_natCast]
      simp only [ab_rf]
      rw [b_N_numbers_44, e_Row_begin, b_Row_begin_0, s_fill_62 (by omega)]
      simp only [ab_cv]
      rw [b_Row_begin_23]
      simp only []
      rw [b_N_numbers_49]
      refine ⟨_, rfl, hC.row hS ?_ ?_⟩
      · intro t i k hn
        rw [fil_a, if_neg (by omega), u3_a, if_neg (by omega), u3_a, if_neg (by omega), u3_a, if_neg (by omega)]
      · refine ⟨?_, ?_, ?_, fun k hk => ?_⟩
        · rw [fil_a, if_neg (by omega), u3_k (by omega), u3_eq]
          show (m : Int) = ((List.replicate m (0 : Int)).length : Int)
          rw [List.length_replicate]
        · rw [fil_a, if_neg (by omega), u3_eq]
        · rw [fil_a, if_neg (by omega), u3_k (by omega), u3_k (by omega), u3_eq]
        · have hk : k < (List.replicate m (0 : Int)).length := hk
          rw [List.length_replicate] at hk
          rw [fil_a, if_pos ⟨rfl, rfl, by omega⟩]
          exact rep_get.symm
    · rw [if_neg h2]
      by_cases h3 : n < 0
      · rw [if_pos h3]; exact ⟨D, rfl, hC, fr.rf D⟩
      · rw [if_neg h3, if_neg (by omega)]; exact ⟨D, rfl, hC, fr.rf D⟩
  · rw [if_neg h1]
    refine ⟨D, ?_, hC, fr.rf D⟩
    by_cases c1 : x < 0
    · rw [if_pos c1]
    rw [if_neg c1]
    by_cases c2 : 4 ≤ x
    · rw [if_pos c2]
    rw [if_neg c2]
    by_cases c3 : y < 0
    · rw [if_pos c3]
    rw [if_neg c3, if_neg (by omega)]
theorem M_numbers {X : Nat × (Nat → Int)} {d : Nat} {D : DD} {S : St} {x y n : Int} (hd : 8 ≤ d) (hS : SOK S) (hM : MH D S) : mRes X d m_M_numbers [vI x, vI y, vI n] D (f_numbers S x y n) := by
  obtain ⟨d, rfl⟩ : ∃ e, d = e + 1 := ⟨d - 1, by omega⟩
  have hM := hM.th hS
  unfold mRes f_numbers
  rw [e_M_numbers, b_M_numbers_0, s_M_within (by omega)]
  simp only [ab_ci]
  rw [b_M_numbers_14]
  by_cases h0 : 0 ≤ x ∧ x ≤ 3
  · rw [if_pos h0, if_neg (by decide), s_M_within (by omega)]
    simp only [ab_ci]
    rw [b_M_numbers_26]
    by_cases h1 : 0 ≤ y ∧ y ≤ 3
    · rw [if_pos h1, if_pos (by decide), s_M_within (by omega), if_pos (show (0 ≤ x ∧ x < 4) ∧ 0 ≤ y ∧ y ≤ 3 by omega)]
      simp only [ab_ci]
      rw [b_M_numbers_41]
      by_cases h2 : 0 ≤ n ∧ n ≤ 40
      · obtain ⟨r, rfl⟩ : ∃ t : Nat, x = (t : Int) := ⟨x.toNat, by omega⟩
        obtain ⟨q, rfl⟩ : ∃ t : Nat, y = (t : Int) := ⟨y.toNat, by omega⟩
        obtain ⟨m, rfl⟩ : ∃ t : Nat, n = (t : Int) := ⟨n.toNat, by omega⟩
        rw [if_pos h2, if_pos (by decide), if_pos (by omega), if_pos (by omega), if_pos h2, Int.toNat_natCast, Int.toNat_natCast, Int.toNat_natCast]
        have key : ∀ (l k : Nat) (D : DD) (v2 : ab_V), k + l = m → (∀ j, j < k → D 42 0 (40 * r + j) = 0) → ∃ D', at_ X d cd_M_numbers 64 [vR 12 0, vI (r : Int), v2, vI (m : Int), vI (k : Int)] [] (hp D) = some (some (vI 0), hp D') ∧ (∀ j, j < m → D' 42 0 (40 * r + j) = 0) ∧ fr (fun t i k => i = 0 ∧ (t = 42 ∧ 40 * r ≤ k ∧ k < 40 * r + 40)) D D' := by
          intro l
          induction l with
          | zero =>
            intro k D v2 hk hj
            rw [b_M_numbers_64, if_pos (by omega)]
            exact ⟨D, rfl, fun j hj' => hj j (by omega), fr.rf D⟩
          | succ l ih =>
            intro k D v2 hk hj
            rw [b_M_numbers_64, if_neg (by omega), zb_w (n := 40 * (r : Int)) (by omega) (by omega), zb_w (n := 40 * (r : Int) + (k : Int)) (by omega) (by omega), if_pos (by omega), zb_s (by omega), tn (n := 40 * r + k) (by omega)]
            obtain ⟨D', g1, g2, g3⟩ := ih (k + 1) (u3 D 42 0 (40 * r + k) 0) vU (by omega) (fun j hj' => by
              by_cases e : j = k
              · subst e; rw [u3_eq]
              · rw [u3_k (by omega), hj j (by omega)])
            exact ⟨D', g1, g2, ((fr.rf D).u ⟨rfl, rfl, by omega, by omega⟩).tr g3⟩
        obtain ⟨D1, g1, g2, g3⟩ := key m 0 (u3 (u3 (u3 D 12 0 0 0) 40 0 r (q : Int)) 41 0 r (m : Int)) (vI (q : Int)) (by omega) (fun j hj => by omega)
        obtain ⟨k1, k2⟩ := MH.row (r := r) (ρ := some (q, List.replicate m 0)) (D' := D1) hS (by omega) hM ((((fr.rf _).u ⟨rfl, Or.inl ⟨rfl, rfl⟩⟩).u ⟨rfl, Or.inr (Or.inl ⟨rfl, rfl⟩)⟩).tr (g3.mo fun t i k z => by omega)) ⟨by
          rw [g3 40 0 r (by omega), u3_t (by omega), u3_eq], by
          rw [g3 41 0 r (by omega), u3_eq]
          show (m : Int) = ((List.replicate m (0 : Int)).length : Int)
          rw [List.length_replicate], fun k hk => by
          have hk : k < (List.replicate m (0 : Int)).length := hk
          rw [List.length_replicate] at hk
          rw [g2 k hk]
          exact rep_get.symm⟩
        exact ⟨D1, g1, k1, (th_mY D).tr k2⟩
      · rw [if_neg h2, if_neg (by decide), if_neg h2]
        exact ⟨_, rfl, hM, th_mY D⟩
    · rw [if_neg h1, if_neg (by decide), if_neg (fun z => h1 z.2)]
      exact ⟨_, rfl, hM, th_mY D⟩
  · rw [if_neg h0, if_pos rfl, if_neg (by omega)]
    exact ⟨_, rfl, hM, th_mY D⟩
theorem ok_numbers {S : St} {x y n : Int} (hS : SOK S) : SOK (f_numbers S x y n).2 := by
  unfold f_numbers
  split
  · split
    · refine hS.row ⟨by show y.toNat ≤ 3; omega, ?_, fun z hz => ?_⟩
      · show (List.replicate n.toNat (0 : Int)).length ≤ 40
        rw [List.length_replicate]; omega
      · have := (List.mem_replicate.mp hz).2
        subst this
        omega
    · exact hS
  · exact hS
-- write
def cutV (q : Nat) (v : Int) : Int := if q = 0 then w8 (w32 v) else if q = 1 then w16 (w32 v) else if q = 2 then w32 v else v
def f_write (S : St) (x i v : Int) : Int × St := if rrI S x = 0 then (if 0 ≤ i ∧ i < ((rwD S x.toNat).2.length : Int) then (cutV (rwD S x.toNat).1 v, stR S x.toNat (some ((rwD S x.toNat).1, (rwD S x.toNat).2.set i.toNat (cutV (rwD S x.toNat).1 v)))) else (-7, S)) else (rrI S x, S)
def cResL (X : Nat × (Nat → Int)) (d m : Nat) (as : List ab_V) (D : DD) (z : Int × St) : Prop := ∃ D', ev X d m (vR 11 0 :: as) (hp D) = some (some (vL z.1), hp D') ∧ CH D' z.2 ∧ fr cY D D'
def mResL (X : Nat × (Nat → Int)) (d m : Nat) (as : List ab_V) (D : DD) (z : Int × St) : Prop := ∃ D', ev X d m (vR 12 0 :: as) (hp D) = some (some (vL z.1), hp D') ∧ MH D' z.2 ∧ fr mY D D'
theorem lset_getD {l : List Int} {i k : Nat} {v : Int} (hi : i < l.length) : (l.set i v).getD k 0 = if k = i then v else l.getD k 0 := by
  rw [List.getD_eq_getElem?_getD, List.getD_eq_getElem?_getD]
  by_cases e : k = i
  · subst e; rw [List.getElem?_set_self hi, if_pos rfl]; rfl
  · rw [List.getElem?_set_ne (fun z => e z.symm), if_neg e]
theorem s_C_put {X : Nat × (Nat → Int)} {d : Nat} {D : DD} {r k q : Nat} {v : Int} (hd : 2 ≤ d) (hq : D 8 r 3 = (q : Int)) (hk : k < 40) : ev X d m_Row_put [vR 8 r, vI (k : Int), vL v] (hp D) = some (some (vL (cutV q v)), hp (u3 D 62 r k (cutV q v))) := by
  obtain ⟨d, rfl⟩ : ∃ e, d = e + 1 := ⟨d - 1, by omega⟩
  obtain ⟨d, rfl⟩ : ∃ e, d = e + 1 := ⟨d - 1, by omega⟩
  have hc : ev X (d + 1) m_Row_cut [vR 8 r, vL v] (hp D) = some (some (vL (cutV q v)), hp D) := by
    rw [e_Row_cut, b_Row_cut_0, hq]
    unfold cutV
    by_cases q0 : q = 0
    · rw [if_pos (by omega), if_pos q0]
    rw [if_neg (by omega), if_neg q0]
    by_cases q1 : q = 1
    · rw [if_pos (by omega), if_pos q1]
    rw [if_neg (by omega), if_neg q1]
    by_cases q2 : q = 2
    · rw [if_pos (by omega), if_pos q2]
    rw [if_neg (by omega), if_neg q2]
  rw [e_Row_put, b_Row_put_0, hc]
  simp only [ab_cl]
  rw [b_Row_put_10, if_pos (by omega), if_pos (by omega), Int.toNat_natCast, u3_eq]
theorem C_write {X : Nat × (Nat → Int)} {d : Nat} {D : DD} {S : St} {x i v : Int} (hd : 8 ≤ d) (hS : SOK S) (hC : CH D S) : cResL X d m_N_write [vI x, vI i, vL v] D (f_write S x i v) := by
  obtain ⟨d, rfl⟩ : ∃ e, d = e + 1 := ⟨d - 1, by omega⟩
  unfold cResL f_write
  rw [e_N_write, b_N_write_0, s_C_refusalOfRow (by omega) hC]
  simp only [ab_ci]
  rw [b_N_write_5]
  by_cases h1 : rrI S x = 0
  · obtain ⟨r, rfl, hr, er⟩ := rrI_0 h1
    have hrc := hC.2.2.1 r hr
    have hro := hS.2.2.1 r hr
    rw [er] at hrc hro
    obtain ⟨a1, a2, a3, a4⟩ := hrc
    have h40 := hro.2.1
    rw [if_pos h1, if_pos h1, Int.toNat_natCast]
    by_cases h2 : i < 0
    · rw [if_pos h2, if_neg (by omega)]
      exact ⟨D, rfl, hC, fr.rf D⟩
    · rw [if_neg h2, if_pos (by omega), R21 hr]
      simp only [ab_rf]
      rw [b_N_write_27, a1]
      by_cases h3 : i < ((rwD S r).2.length : Int)
      · obtain ⟨k, rfl⟩ : ∃ t : Nat, i = (t : Int) := ⟨i.toNat, by omega⟩
        rw [if_pos h3, if_pos (by omega), Int.toNat_natCast, R21 hr, if_pos (by omega), Int.toNat_natCast]
        simp only [ab_rf]
        rw [b_N_write_43, s_C_put (by omega) a3 (by omega)]
        simp only [ab_cl]
        rw [b_N_write_48]
        refine ⟨_, rfl, hC.row hS ((fr.rf D).u ⟨Or.inr rfl, rfl⟩) ⟨?_, ?_, ?_, fun j hj => ?_⟩⟩
        · rw [u3_t (by omega), a1]
          show _ = (((rwD S r).2.set k _).length : Int)
          rw [List.length_set]
        · rw [u3_t (by omega), a2]
        · rw [u3_t (by omega), a3]
        · have hj : j < ((rwD S r).2.set k (cutV (rwD S r).1 v)).length := hj
          rw [List.length_set] at hj
          show _ = ((rwD S r).2.set k (cutV (rwD S r).1 v)).getD j 0
          rw [lset_getD (by omega)]
          by_cases e : j = k
          · subst e; rw [u3_eq, if_pos rfl]
          · rw [u3_k e, if_neg e, a4 j hj]
      · rw [if_neg h3, if_neg (by omega)]
        exact ⟨D, rfl, hC, fr.rf D⟩
  · rw [if_neg h1, if_neg h1]
    exact ⟨D, rfl, hC, fr.rf D⟩
theorem M_write {X : Nat × (Nat → Int)} {d : Nat} {D : DD} {S : St} {x i v : Int} (hd : 8 ≤ d) (hS : SOK S) (hM : MH D S) : mResL X d m_M_write [vI x, vI i, vL v] D (f_write S x i v) := by
  obtain ⟨d, rfl⟩ : ∃ e, d = e + 1 := ⟨d - 1, by omega⟩
  have hM := hM.th hS
  unfold mResL f_write
  rw [e_M_write, b_M_write_0, s_M_within (by omega)]
  simp only [ab_ci]
  rw [b_M_write_14]
  by_cases h0 : 0 ≤ x ∧ x ≤ 3
  · obtain ⟨r, rfl⟩ : ∃ t : Nat, x = (t : Int) := ⟨x.toNat, by omega⟩
    obtain ⟨w1, w2⟩ := M_row hM (r := r) (by omega)
    rw [if_pos h0, if_pos (by decide), if_pos (by omega), Int.toNat_natCast]
    by_cases h1 : rrI S (r : Int) = 0
    · obtain ⟨r', hr1, hr, er⟩ := rrI_0 h1
      have : r' = r := by omega
      subst this
      have hrc := hM.2.2.1 r' hr
      have hro := hS.2.2.1 r' hr
      rw [er] at hrc hro
      obtain ⟨a1, a2, a3⟩ := hrc
      have h40 := hro.2.1
      rw [if_pos (w1.mpr h1), if_pos (by omega), if_pos h1, a2, zb_w (by omega) (by omega), s_M_within (by omega)]
      simp only [ab_ci]
      rw [b_M_write_50]
      by_cases h3 : 0 ≤ i ∧ i < ((rwD S r').2.length : Int)
      · obtain ⟨k, rfl⟩ : ∃ t : Nat, i = (t : Int) := ⟨i.toNat, by omega⟩
        have hc : ev X d m_M_cut [vL v, vI ((rwD S r').1 : Int)] (hp (u3 D 12 0 0 0)) = some (some (vL (cutV (rwD S r').1 v)), hp (u3 D 12 0 0 0)) := by
          obtain ⟨d, rfl⟩ : ∃ e, d = e + 1 := ⟨d - 1, by omega⟩
          rw [e_M_cut, b_M_cut_0]
          unfold cutV
          by_cases q0 : (rwD S r').1 = 0
          · rw [if_neg (by omega), if_pos q0]
          rw [if_pos (by omega), if_neg q0]
          by_cases q1 : (rwD S r').1 = 1
          · rw [if_neg (by omega), if_pos q1]
          rw [if_pos (by omega), if_neg q1]
          by_cases q2 : (rwD S r').1 = 2
          · rw [if_neg (by omega), if_pos q2]
          rw [if_pos (by omega), if_neg q2]
        rw [if_pos (show (0 : Int) ≤ (k : Int) ∧ (k : Int) ≤ ((rwD S r').2.length : Int) - 1 by omega), if_pos (by decide), if_pos (by omega), if_pos h3, Int.toNat_natCast, a1, hc]
        simp only [ab_cl]
        rw [b_M_write_77, zb_w (n := 40 * (r' : Int)) (by omega) (by omega), zb_w (by omega) (by omega), if_pos (by omega), if_pos (by omega), tn (n := 40 * r' + k) (by omega), u3_eq, Int.toNat_natCast]
        obtain ⟨k1, k2⟩ := MH.row (r := r') (ρ := some ((rwD S r').1, (rwD S r').2.set k (cutV (rwD S r').1 v))) hS hr hM ((fr.rf _).u (t := 42) (i := 0) (k := 40 * r' + k) (v := cutV (rwD S r').1 v) ⟨rfl, Or.inr (Or.inr ⟨rfl, by omega, by omega⟩)⟩) ⟨by rw [u3_t (by omega), a1], by
          rw [u3_t (by omega), a2]
          show _ = (((rwD S r').2.set k _).length : Int)
          rw [List.length_set], fun j hj => by
          have hj : j < ((rwD S r').2.set k (cutV (rwD S r').1 v)).length := hj
          rw [List.length_set] at hj
          show _ = ((rwD S r').2.set k (cutV (rwD S r').1 v)).getD j 0
          rw [lset_getD (by omega)]
          by_cases e : j = k
          · subst e; rw [u3_eq, if_pos rfl]
          · rw [u3_k (by omega), if_neg e, a3 j hj]⟩
        exact ⟨_, rfl, k1, (th_mY D).tr k2⟩
      · rw [if_neg (show ¬ (0 ≤ i ∧ i ≤ ((rwD S r').2.length : Int) - 1) by omega), if_neg (by decide), if_neg h3]
        exact ⟨_, rfl, hM, th_mY D⟩
    · rw [if_neg (fun z => h1 (w1.mp z)), if_neg h1, w2 h1]
      exact ⟨_, rfl, hM, th_mY D⟩
  · have e := rrI_out (S := S) h0
    rw [if_neg h0, if_neg (by decide), if_neg (by rw [e]; decide), e]
    exact ⟨_, rfl, hM, th_mY D⟩
theorem cutV_in {q : Nat} {v : Int} (h : -9223372036854775808 ≤ v ∧ v < 9223372036854775808) : -9223372036854775808 ≤ cutV q v ∧ cutV q v < 9223372036854775808 := by
  unfold cutV
  split
  · unfold w8; omega
  · split
    · unfold w16; omega
    · split
      · unfold w32; omega
      · exact h
theorem ok_write {S : St} {x i v : Int} (hS : SOK S) (hv : -9223372036854775808 ≤ v ∧ v < 9223372036854775808) : SOK (f_write S x i v).2 := by
  unfold f_write
  split
  · rename_i h1
    obtain ⟨r, rfl, hr, er⟩ := rrI_0 h1
    have hro := hS.2.2.1 r hr
    rw [er] at hro
    obtain ⟨z1, z2, z3⟩ := hro
    rw [Int.toNat_natCast]
    split
    · refine hS.row ⟨z1, ?_, fun z hz => ?_⟩
      · show ((rwD S r).2.set _ _).length ≤ 40
        rw [List.length_set]; exact z2
      · rcases List.mem_or_eq_of_mem_set hz with q | q
        · exact z3 z q
        · rw [q]; exact cutV_in hv
    · exact hS
  · exact hS
end
