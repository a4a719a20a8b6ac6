/-! calls: copy; likeness of lores, companies, pieces -/
section
theorem cutV_t {q t : Nat} (ht : t < 16) : cutV q (t : Int) = (t : Int) := by
  unfold cutV
  have h1 : w32 (t : Int) = t := zb_w (by omega) (by omega)
  split
  · rw [h1]; unfold w8; omega
  · split
    · rw [h1]; unfold w16; omega
    · split
      · exact h1
      · rfl
def cpL (v : Cr) (l : List Int) : List Int := (cL v).map (fun t : Nat => (t : Int)) ++ l.drop (cL v).length
theorem cpL_len {v : Cr} {l : List Int} (h : (cL v).length ≤ l.length) : (cpL v l).length = l.length := by
  unfold cpL
  rw [List.length_append, List.length_map, List.length_drop]
  omega
theorem cpL_get {v : Cr} {l : List Int} {j : Nat} : (cpL v l).getD j 0 = if j < (cL v).length then (((cL v).getD j 0 : Nat) : Int) else l.getD j 0 := by
  unfold cpL
  rw [List.getD_eq_getElem?_getD]
  by_cases h : j < (cL v).length
  · rw [List.getElem?_append_left (by rw [List.length_map]; exact h), List.getElem?_map, if_pos h, List.getD_eq_getElem?_getD, List.getElem?_eq_getElem h]
    rfl
  · rw [List.getElem?_append_right (by rw [List.length_map]; omega), List.length_map, List.getElem?_drop, if_neg h, List.getD_eq_getElem?_getD, show (cL v).length + (j - (cL v).length) = j by omega]
def f_copy (S : St) (x y : Int) : Int × St := if 0 ≤ x ∧ x < ((sW S).2.1.length : Int) then (if rrI S y = 0 then (if (cL (mnD S x.toNat)).length ≤ (rwD S y.toNat).2.length then (((cL (mnD S x.toNat)).length : Int), stR S y.toNat (some ((rwD S y.toNat).1, cpL (mnD S x.toNat) (rwD S y.toNat).2))) else (-7, S)) else (rrI S y, S)) else (-2, S)
theorem C_copy {X : Nat × (Nat → Int)} {d : Nat} {D : DD} {S : St} {x y : Int} (hd : 8 ≤ d) (hS : SOK S) (hC : CH D S) : cRes X d m_N_copy [vI x, vI y] D (f_copy S x y) := by
  obtain ⟨d, rfl⟩ : ∃ e, d = e + 1 := ⟨d - 1, by omega⟩
  have h6 := hS.n6
  unfold cRes f_copy
  rw [e_N_copy, b_N_copy_0, s_C_isOne (by omega) hC.n]
  simp only [ab_ci]
  rw [b_N_copy_9]
  by_cases h1 : 0 ≤ x ∧ x < ((sW S).2.1.length : Int)
  · obtain ⟨c, rfl⟩ : ∃ t : Nat, x = (t : Int) := ⟨x.toNat, by omega⟩
    have hc : c < (sW S).2.1.length := by omega
    rw [isI_t h1, if_pos (by decide), if_pos h1, s_C_refusalOfRow (by omega) hC]
    simp only [ab_ci]
    rw [b_N_copy_20]
    by_cases h2 : rrI S y = 0
    · obtain ⟨r, rfl, hr, er⟩ := rrI_0 h2
      have hrc := hC.2.2.1 r hr
      have hro := hS.2.2.1 r hr
      rw [er] at hrc hro
      obtain ⟨a1, a2, a3, a4⟩ := hrc
      have h40 := hro.2.1
      have hcc := hC.cc hc
      have ok := hS.oc hc
      have o5 := ok.2.2.1
      have o9 : (cL (mnD S c)).length ≤ 9 := Nat.le_trans ok.2.2.2 ok.1.2.1
      rw [if_pos h2, if_pos (by omega), Int.toNat_natCast, R46_0 (by omega), if_pos h2, Int.toNat_natCast]
      simp only [ab_rf]
      rw [b_N_copy_36, if_pos (by omega), Int.toNat_natCast, R21 hr]
      simp only [ab_rf]
      rw [b_N_copy_49, hcc.2.2.1, a1]
      by_cases h3 : (cL (mnD S c)).length ≤ (rwD S r).2.length
      · rw [if_pos (by omega), if_pos h3]
        have key : ∀ (m k : Nat) (D1 : DD), k + m = (cL (mnD S c)).length → fr (fun t i _ => t = 62 ∧ i = r) D D1 → (∀ j, j < (rwD S r).2.length → D1 62 r j = if j < k then (((cL (mnD S c)).getD j 0 : Nat) : Int) else (rwD S r).2.getD j 0) → ∃ D', at_ X d cd_N_copy 61 [vR 11 0, vU, vI (r : Int), vU, vR 3 c, vI (k : Int)] [] (hp D1) = some (some (vI ((cL (mnD S c)).length : Int)), hp D') ∧ fr (fun t i _ => t = 62 ∧ i = r) D D' ∧ (∀ j, j < (rwD S r).2.length → D' 62 r j = (cpL (mnD S c) (rwD S r).2).getD j 0) := by
          intro m
          induction m with
          | zero =>
            intro k D1 hk hf hj
            rw [b_N_copy_61, hf 3 c 2 (by omega), hcc.2.2.1, if_pos (by omega)]
            refine ⟨D1, rfl, hf, fun j hj' => ?_⟩
            rw [hj j hj', cpL_get, show k = (cL (mnD S c)).length by omega]
          | succ m ih =>
            intro k D1 hk hf hj
            have e4 : D1 3 c 4 = (enc (cL (mnD S c)) : Int) := (hf 3 c 4 (by omega)).trans hcc.2.2.2.2.1
            have e83 : D1 8 r 3 = ((rwD S r).1 : Int) := (hf 8 r 3 (by omega)).trans a3
            have ht : (cL (mnD S c)).getD k 0 < 16 := o5 _ (List.mem_of_getElem? (getD_some (by omega)))
            rw [b_N_copy_61, hf 3 c 2 (by omega), hcc.2.2.1, if_neg (by omega), if_pos (by omega), Int.toNat_natCast, R21 hr]
            simp only [ab_rf]
            rw [b_N_copy_77, s_C_thingAt (by omega) e4 o5 (by omega) (by omega)]
            simp only [ab_ci]
            rw [b_N_copy_86, s_C_put (by omega) e83 (by omega), cutV_t ht]
            simp only [ab_cl]
            rw [b_N_copy_90, zb_s (by omega)]
            refine ih (k + 1) _ (by omega) (hf.u ⟨rfl, rfl⟩) fun j hj' => ?_
            by_cases e : j = k
            · subst e; rw [u3_eq, if_pos (by omega)]
            · rw [u3_k e, hj j hj']
              by_cases e2 : j < k
              · rw [if_pos e2, if_pos (by omega)]
              · rw [if_neg e2, if_neg (by omega)]
        obtain ⟨D1, g1, g2, g3⟩ := key (cL (mnD S c)).length 0 D (by omega) (fr.rf D) (fun j hj => by rw [if_neg (by omega)]; exact a4 j hj)
        refine ⟨D1, g1, hC.row hS (g2.mo fun t i k z => by omega) ⟨?_, (g2 8 r 2 (by omega)).trans a2, (g2 8 r 3 (by omega)).trans a3, fun k hk => ?_⟩⟩
        · rw [g2 8 r 1 (by omega), a1]
          show _ = ((cpL (mnD S c) (rwD S r).2).length : Int)
          rw [cpL_len h3]
        · have hk : k < (cpL (mnD S c) (rwD S r).2).length := hk
          rw [cpL_len h3] at hk
          exact g3 k hk
      · rw [if_neg (by omega), if_neg h3]
        exact ⟨D, rfl, hC, fr.rf D⟩
    · rw [if_neg h2, if_neg h2]
      exact ⟨D, rfl, hC, fr.rf D⟩
  · rw [isI_f h1, if_neg (by decide), if_neg h1]
    exact ⟨D, rfl, hC, fr.rf D⟩
theorem M_copy {X : Nat × (Nat → Int)} {d : Nat} {D : DD} {S : St} {x y : Int} (hd : 8 ≤ d) (hS : SOK S) (hM : MH D S) : mRes X d m_M_copy [vI x, vI y] D (f_copy S x y) := by
  obtain ⟨d, rfl⟩ : ∃ e, d = e + 1 := ⟨d - 1, by omega⟩
  have h6 := hS.n6
  have hM := hM.th hS
  unfold mRes f_copy
  rw [e_M_copy, b_M_copy_0, s_M_isMan (by omega) hM.n h6]
  simp only [ab_ci]
  rw [b_M_copy_11]
  by_cases h1 : 0 ≤ x ∧ x < ((sW S).2.1.length : Int)
  · obtain ⟨c, rfl⟩ : ∃ t : Nat, x = (t : Int) := ⟨x.toNat, by omega⟩
    have hc : c < (sW S).2.1.length := by omega
    rw [isI_t h1, if_neg (by decide), if_pos h1, s_M_within (by omega)]
    simp only [ab_ci]
    rw [b_M_copy_23]
    by_cases h0 : 0 ≤ y ∧ y ≤ 3
    · obtain ⟨r, rfl⟩ : ∃ t : Nat, y = (t : Int) := ⟨y.toNat, by omega⟩
      obtain ⟨w1, w2⟩ := M_row hM (r := r) (by omega)
      rw [if_pos h0, if_pos (by decide), if_pos (by omega), Int.toNat_natCast]
      by_cases h2 : rrI S (r : Int) = 0
      · obtain ⟨r', hr1, hr, er⟩ := rrI_0 h2
        have : r' = r := by omega
        subst this
        have hrc := hM.2.2.1 r' hr
        have hro := hS.2.2.1 r' hr
        rw [er] at hrc hro
        obtain ⟨a1, a2, a3⟩ := hrc
        have h40 := hro.2.1
        have hcc := hM.mc hc
        have ok := hS.oc hc
        have o5 := ok.2.2.1
        have o9 : (cL (mnD S c)).length ≤ 9 := Nat.le_trans ok.2.2.2 ok.1.2.1
        rw [if_pos (w1.mpr h2), if_pos (by omega), if_pos h2, s_M_many (by omega) (by omega) hcc, Int.toNat_natCast]
        simp only [ab_ci]
        rw [b_M_copy_53, a2]
        by_cases h3 : (cL (mnD S c)).length ≤ (rwD S r').2.length
        · rw [if_pos (by omega), if_pos h3]
          have hT := th_mY D
          generalize u3 D 12 0 0 0 = D0 at hM hcc a1 a2 a3 hT ⊢
          have key : ∀ (m k : Nat) (D1 : DD), k + m = (cL (mnD S c)).length → fr (fun t i k => i = 0 ∧ t = 42 ∧ 40 * r' ≤ k ∧ k < 40 * r' + 40) D0 D1 → (∀ j, j < (rwD S r').2.length → D1 42 0 (40 * r' + j) = if j < k then (((cL (mnD S c)).getD j 0 : Nat) : Int) else (rwD S r').2.getD j 0) → ∃ D', at_ X d cd_M_copy 61 [vR 12 0, vI (c : Int), vI (r' : Int), vI (k : Int)] [] (hp D1) = some (some (vI ((cL (mnD S c)).length : Int)), hp D') ∧ fr (fun t i k => i = 0 ∧ t = 42 ∧ 40 * r' ≤ k ∧ k < 40 * r' + 40) D0 D' ∧ (∀ j, j < (rwD S r').2.length → D' 42 0 (40 * r' + j) = (cpL (mnD S c) (rwD S r').2).getD j 0) := by
            intro m
            induction m with
            | zero =>
              intro k D1 hk hf hj
              have hm1 : MC D1 (mB c) (mnD S c) := hcc.fr ok fun k _ _ => hf 22 0 k (by omega)
              rw [b_M_copy_61, s_M_many (by omega) (by omega) hm1]
              simp only [ab_ci]
              rw [b_M_copy_67, if_pos (by omega), s_M_many (by omega) (by omega) hm1]
              simp only [ab_ci]
              rw [b_M_copy_99]
              refine ⟨D1, rfl, hf, fun j hj' => ?_⟩
              rw [hj j hj', cpL_get, show k = (cL (mnD S c)).length by omega]
            | succ m ih =>
              intro k D1 hk hf hj
              have hm1 : MC D1 (mB c) (mnD S c) := hcc.fr ok fun k _ _ => hf 22 0 k (by omega)
              rw [b_M_copy_61, s_M_many (by omega) (by omega) hm1]
              simp only [ab_ci]
              rw [b_M_copy_67, if_neg (by omega), s_M_thingAt (by omega) (by omega) hm1 (by omega) o9]
              simp only [ab_ci]
              rw [b_M_copy_86, zb_w (n := 40 * (r' : Int)) (by omega) (by omega), zb_w (n := 40 * (r' : Int) + (k : Int)) (by omega) (by omega), if_pos (by omega), zb_s (by omega), tn (n := 40 * r' + k) (by omega)]
              refine ih (k + 1) _ (by omega) (hf.u ⟨rfl, rfl, by omega, by omega⟩) fun j hj' => ?_
              by_cases e : j = k
              · subst e; rw [u3_eq, if_pos (by omega)]
              · rw [u3_k (by omega), hj j hj']
                by_cases e2 : j < k
                · rw [if_pos e2, if_pos (by omega)]
                · rw [if_neg e2, if_neg (by omega)]
          obtain ⟨D1, g1, g2, g3⟩ := key (cL (mnD S c)).length 0 D0 (by omega) (fr.rf D0) (fun j hj => by rw [if_neg (by omega)]; exact a3 j hj)
          obtain ⟨k1, k2⟩ := MH.row (r := r') (ρ := some ((rwD S r').1, cpL (mnD S c) (rwD S r').2)) (D' := D1) hS hr hM (g2.mo fun t i k z => by omega) ⟨(g2 40 0 r' (by omega)).trans a1, by
            rw [g2 41 0 r' (by omega), a2]
            show _ = ((cpL (mnD S c) (rwD S r').2).length : Int)
            rw [cpL_len h3], fun k hk => by
            have hk : k < (cpL (mnD S c) (rwD S r').2).length := hk
            rw [cpL_len h3] at hk
            exact g3 k hk⟩
          exact ⟨D1, g1, k1, hT.tr k2⟩
        · rw [if_neg (by omega), if_neg h3]
          exact ⟨_, rfl, hM, th_mY D⟩
      · rw [if_neg (fun z => h2 (w1.mp z)), if_neg h2, w2 h2]
        exact ⟨_, rfl, hM, th_mY D⟩
    · have e := rrI_out (S := S) h0
      rw [if_neg h0, if_neg (by decide), if_neg (by rw [e]; decide), e]
      exact ⟨_, rfl, hM, th_mY D⟩
  · rw [isI_f h1, if_pos rfl, if_neg h1]
    exact ⟨_, rfl, hM, th_mY D⟩
theorem ok_copy {S : St} {x y : Int} (hS : SOK S) : SOK (f_copy S x y).2 := by
  unfold f_copy
  split
  · split
    · rename_i h0 h1
      obtain ⟨r, rfl, hr, er⟩ := rrI_0 h1
      have hro := hS.2.2.1 r hr
      rw [er] at hro
      obtain ⟨z1, z2, z3⟩ := hro
      rw [Int.toNat_natCast]
      split
      · rename_i h2
        refine hS.row ⟨z1, ?_, fun z hz => ?_⟩
        · show (cpL _ _).length ≤ 40
          rw [cpL_len h2]; exact z2
        · unfold cpL at hz
          rcases List.mem_append.mp hz with q | q
          · obtain ⟨t, ht, rfl⟩ := List.mem_map.mp q
            have := (hS.oc (c := x.toNat) (by omega)).2.2.1 t ht
            omega
          · exact z3 z (List.mem_of_mem_drop q)
      · exact hS
    · exact hS
  · exact hS
end
