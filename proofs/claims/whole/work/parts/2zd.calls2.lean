/-! calls: lost, hears, says, walks, delivers, tells, recites -/
section
-- lost
def f_lost (S : St) (x y : Int) : Int × St := (if (0 ≤ x ∧ x < ((sW S).2.1.length : Int)) ∧ 0 ≤ y ∧ y < ((sW S).1 0 : Int) then cA (mnD S x.toNat) y.toNat else -2, S)
theorem C_lost {X : Nat × (Nat → Int)} {d : Nat} {D : DD} {S : St} {x y : Int} (hd : 2 ≤ d) (hS : SOK S) (hC : CH D S) : cRes X d m_N_lost [vI x, vI y] D (f_lost S x y) := by
  obtain ⟨d, rfl⟩ : ∃ e, d = e + 1 := ⟨d - 1, by omega⟩
  have h6 := hS.n6
  have h16 := hS.L.1.1
  unfold cRes f_lost
  rw [e_N_lost, b_N_lost_0, s_C_isOne (by omega) hC.n]
  simp only [ab_ci]
  rw [b_N_lost_9]
  refine ⟨D, ?_, hC, fr.rf D⟩
  by_cases h1 : 0 ≤ x ∧ x < ((sW S).2.1.length : Int)
  · rw [isI_t h1, if_neg (by decide), s_C_isThing (by omega) hC.l]
    simp only [ab_ci]
    rw [b_N_lost_21]
    by_cases h2 : 0 ≤ y ∧ y < ((sW S).1 0 : Int)
    · obtain ⟨c, rfl⟩ : ∃ t : Nat, x = (t : Int) := ⟨x.toNat, by omega⟩
      obtain ⟨t, rfl⟩ : ∃ t : Nat, y = (t : Int) := ⟨y.toNat, by omega⟩
      rw [isI_t h2, if_pos (by decide), if_pos (by omega), Int.toNat_natCast, R46_0 (by omega), if_pos (And.intro h1 h2)]
      simp only [ab_rf]
      rw [b_N_lost_36, if_pos (by omega), Int.toNat_natCast, (hC.cc (c := c) (by omega)).2.2.2.2.2.2 t (by omega)]
    · rw [isI_f h2, if_neg (by decide), if_neg (fun z => h2 z.2)]
  · rw [isI_f h1, if_pos rfl, if_neg (fun z => h1 z.1)]
theorem M_lost {X : Nat × (Nat → Int)} {d : Nat} {D : DD} {S : St} {x y : Int} (hd : 3 ≤ d) (hS : SOK S) (hM : MH D S) : mRes X d m_M_lost [vI x, vI y] D (f_lost S x y) := by
  obtain ⟨d, rfl⟩ : ∃ e, d = e + 1 := ⟨d - 1, by omega⟩
  have h6 := hS.n6
  have h16 := hS.L.1.1
  have hM := hM.th hS
  unfold mRes f_lost
  rw [e_M_lost, b_M_lost_0, s_M_isMan (by omega) hM.n h6]
  simp only [ab_ci]
  rw [b_M_lost_11]
  refine ⟨_, ?_, hM, th_mY D⟩
  by_cases h1 : 0 ≤ x ∧ x < ((sW S).2.1.length : Int)
  · rw [isI_t h1, if_neg (by decide), s_M_isThing (by omega) hM.l hS.L]
    simp only [ab_ci]
    rw [b_M_lost_20]
    by_cases h2 : 0 ≤ y ∧ y < ((sW S).1 0 : Int)
    · obtain ⟨c, rfl⟩ : ∃ t : Nat, x = (t : Int) := ⟨x.toNat, by omega⟩
      obtain ⟨t, rfl⟩ : ∃ t : Nat, y = (t : Int) := ⟨y.toNat, by omega⟩
      have hmb : mB c = 153 + 29 * c := rfl
      rw [isI_t h2, if_neg (by decide), s_M_manAt (by omega) (by omega), if_pos (And.intro h1 h2)]
      simp only [ab_ci]
      rw [b_M_lost_31, zb_w (n := ((mB c : Nat) : Int) + 13) (by omega) (by omega), zb_w (by omega) (by omega), if_pos (by omega), tn (n := mB c + 13 + t) (by omega), Int.toNat_natCast, Int.toNat_natCast, (hM.mc (c := c) (by omega)).2.2.2.2.2 t (by omega)]
    · rw [isI_f h2, if_pos rfl, if_neg (fun z => h2 z.2)]
  · rw [isI_f h1, if_pos rfl, if_neg (fun z => h1 z.1)]
theorem CH.man' {D D' : DD} {S : St} {c : Nat} {v : Cr} (hS : SOK S) (h : CH D S) (hc : c < (sW S).2.1.length) (hv : CC D' c v ∧ fr (cP c) D D') : CH D' (stM S c v) ∧ fr cY D D' := ⟨h.man hS hc hv.2 hv.1, hv.2.mo fun _ _ _ z => cP_cY z⟩
theorem MH.man' {D D' : DD} {S : St} {c : Nat} {v : Cr} (hS : SOK S) (h : MH (u3 D 12 0 0 0) S) (hc : c < (sW S).2.1.length) (hv : MC D' (mB c) v ∧ fr (dP (mB c)) (u3 D 12 0 0 0) D') : MH D' (stM S c v) ∧ fr mY D D' := by
  refine ⟨h.man hS hc (hv.2.mo fun t i k z => ?_) hv.1, (th_mY D).tr (hv.2.mo fun t i k z => ?_)⟩
  · rcases z with z | z
    · exact Or.inl z
    · exact Or.inr (by unfold mX; omega)
  · rcases z with ⟨z, _⟩ | z <;> (unfold mY; omega)
theorem mP_dP {b : Nat} {D D' : DD} (h : fr (mP b) D D') : fr (dP b) D D' := h.mo fun _ _ _ z => Or.inl z
-- hears
def f_hears (S : St) (x y : Int) : Int × St := if (0 ≤ x ∧ x < ((sW S).2.1.length : Int)) ∧ 0 ≤ y ∧ y < ((sW S).1 0 : Int) then (goI (hrG (mnD S x.toNat) y.toNat), stM S x.toNat (hrV (mnD S x.toNat) y.toNat)) else (-2, S)
theorem C_hears {X : Nat × (Nat → Int)} {d : Nat} {D : DD} {S : St} {x y : Int} (hd : 8 ≤ d) (hS : SOK S) (hC : CH D S) : cRes X d m_N_hears [vI x, vI y] D (f_hears S x y) := by
  obtain ⟨d, rfl⟩ : ∃ e, d = e + 1 := ⟨d - 1, by omega⟩
  have h6 := hS.n6
  have h16 := hS.L.1.1
  have h10 := hS.L.1.2.2.2.1
  unfold cRes f_hears
  rw [e_N_hears, b_N_hears_0, s_C_isOne (by omega) hC.n]
  simp only [ab_ci]
  rw [b_N_hears_9]
  by_cases h1 : 0 ≤ x ∧ x < ((sW S).2.1.length : Int)
  · rw [isI_t h1, if_neg (by decide), s_C_isThing (by omega) hC.l]
    simp only [ab_ci]
    rw [b_N_hears_21]
    by_cases h2 : 0 ≤ y ∧ y < ((sW S).1 0 : Int)
    · obtain ⟨c, rfl⟩ : ∃ t : Nat, x = (t : Int) := ⟨x.toNat, by omega⟩
      obtain ⟨t, rfl⟩ : ∃ t : Nat, y = (t : Int) := ⟨y.toNat, by omega⟩
      have hc : c < (sW S).2.1.length := by omega
      rw [isI_t h2, if_pos (by decide), if_pos (by omega), Int.toNat_natCast, R46_0 (by omega), if_pos (And.intro h1 h2), Int.toNat_natCast]
      simp only [ab_rf]
      rw [b_N_hears_36]
      obtain ⟨D1, g1, g2⟩ := s_C_hear (X := X) (d := d) (D := D) (i := c) (t := t) (v := mnD S c) (by omega) (hS.oc hc) (hC.cc hc) (by omega)
      rw [g1]
      simp only [ab_ci]
      rw [b_N_hears_40]
      exact ⟨D1, rfl, hC.man' hS hc g2⟩
    · rw [isI_f h2, if_neg (by decide), if_neg (fun z => h2 z.2)]
      exact ⟨D, rfl, hC, fr.rf D⟩
  · rw [isI_f h1, if_pos rfl, if_neg (fun z => h1 z.1)]
    exact ⟨D, rfl, hC, fr.rf D⟩
theorem M_hears {X : Nat × (Nat → Int)} {d : Nat} {D : DD} {S : St} {x y : Int} (hd : 8 ≤ d) (hS : SOK S) (hM : MH D S) : mRes X d m_M_hears [vI x, vI y] D (f_hears S x y) := by
  obtain ⟨d, rfl⟩ : ∃ e, d = e + 1 := ⟨d - 1, by omega⟩
  have h6 := hS.n6
  have h16 := hS.L.1.1
  have h10 := hS.L.1.2.2.2.1
  have hM := hM.th hS
  unfold mRes f_hears
  rw [e_M_hears, b_M_hears_0, s_M_isMan (by omega) hM.n h6]
  simp only [ab_ci]
  rw [b_M_hears_11]
  by_cases h1 : 0 ≤ x ∧ x < ((sW S).2.1.length : Int)
  · rw [isI_t h1, if_neg (by decide), s_M_isThing (by omega) hM.l hS.L]
    simp only [ab_ci]
    rw [b_M_hears_20]
    by_cases h2 : 0 ≤ y ∧ y < ((sW S).1 0 : Int)
    · obtain ⟨c, rfl⟩ : ∃ t : Nat, x = (t : Int) := ⟨x.toNat, by omega⟩
      obtain ⟨t, rfl⟩ : ∃ t : Nat, y = (t : Int) := ⟨y.toNat, by omega⟩
      have hc : c < (sW S).2.1.length := by omega
      rw [isI_t h2, if_pos (And.intro h1 h2), Int.toNat_natCast, Int.toNat_natCast]
      rw [if_neg (by decide)]
      obtain ⟨D1, g1, g2, g3⟩ := s_M_hear (X := X) (d := d) (D := u3 D 12 0 0 0) (c := c) (t := t) (v := mnD S c) (by omega) (by omega) (hS.oc hc) (hM.mc hc) (by omega)
      rw [g1]
      simp only [ab_ci]
      rw [b_M_hears_29]
      exact ⟨D1, rfl, MH.man' hS hM hc ⟨g2, mP_dP g3⟩⟩
    · rw [isI_f h2, if_pos rfl, if_neg (fun z => h2 z.2)]
      exact ⟨_, rfl, hM, th_mY D⟩
  · rw [isI_f h1, if_pos rfl, if_neg (fun z => h1 z.1)]
    exact ⟨_, rfl, hM, th_mY D⟩
theorem ok_hears {S : St} {x y : Int} (hS : SOK S) : SOK (f_hears S x y).2 := by
  have h16 := hS.L.1.1
  have h10 := hS.L.1.2.2.2.1
  unfold f_hears
  split
  · rename_i h
    exact hS.man ((hS.oc (by omega)).hr (by omega))
  · exact hS
-- walks
def f_walks (S : St) (x y : Int) : Int × St := if (0 ≤ x ∧ x < ((sW S).2.1.length : Int)) ∧ 0 ≤ y ∧ y < ((sW S).1 50 : Int) then (w32 (cZ (walkV (sW S).1 (mnD S x.toNat) y.toNat) - cZ (mnD S x.toNat)), stM S x.toNat (walkV (sW S).1 (mnD S x.toNat) y.toNat)) else (-2, S)
theorem C_walks {X : Nat × (Nat → Int)} {d : Nat} {D : DD} {S : St} {x y : Int} (hd : 8 ≤ d) (hS : SOK S) (hC : CH D S) : cRes X d m_N_walks [vI x, vI y] D (f_walks S x y) := by
  obtain ⟨d, rfl⟩ : ∃ e, d = e + 1 := ⟨d - 1, by omega⟩
  have h6 := hS.n6
  have h16 := hS.L.1.1
  have h10 := hS.L.1.2.2.2.1
  unfold cRes f_walks
  rw [e_N_walks, b_N_walks_0, s_C_isOne (by omega) hC.n]
  simp only [ab_ci]
  rw [b_N_walks_9]
  by_cases h1 : 0 ≤ x ∧ x < ((sW S).2.1.length : Int)
  · rw [isI_t h1, if_neg (by decide), s_C_isInn (by omega) hC.l]
    simp only [ab_ci]
    rw [b_N_walks_21]
    by_cases h2 : 0 ≤ y ∧ y < ((sW S).1 50 : Int)
    · obtain ⟨c, rfl⟩ : ∃ t : Nat, x = (t : Int) := ⟨x.toNat, by omega⟩
      obtain ⟨t, rfl⟩ : ∃ t : Nat, y = (t : Int) := ⟨y.toNat, by omega⟩
      have hc : c < (sW S).2.1.length := by omega
      rw [isI_t h2, if_pos (by decide), if_pos (by omega), Int.toNat_natCast, R46_0 (by omega), if_pos (And.intro h1 h2), Int.toNat_natCast]
      simp only [ab_rf]
      rw [b_N_walks_36]
      obtain ⟨D1, g1, g2⟩ := s_C_walk (X := X) (d := d) (D := D) (i := c) (q := 1) (to := t) (v := mnD S c) (by omega) hS.L hC.l (hS.oc hc) (hC.cc hc) (by omega)
      rw [g1]
      simp only [ab_ci]
      rw [b_N_walks_44]
      exact ⟨D1, rfl, hC.man' hS hc g2⟩
    · rw [isI_f h2, if_neg (by decide), if_neg (fun z => h2 z.2)]
      exact ⟨D, rfl, hC, fr.rf D⟩
  · rw [isI_f h1, if_pos rfl, if_neg (fun z => h1 z.1)]
    exact ⟨D, rfl, hC, fr.rf D⟩
theorem M_walks {X : Nat × (Nat → Int)} {d : Nat} {D : DD} {S : St} {x y : Int} (hd : 8 ≤ d) (hS : SOK S) (hM : MH D S) : mRes X d m_M_walks [vI x, vI y] D (f_walks S x y) := by
  obtain ⟨d, rfl⟩ : ∃ e, d = e + 1 := ⟨d - 1, by omega⟩
  have h6 := hS.n6
  have h16 := hS.L.1.1
  have h10 := hS.L.1.2.2.2.1
  have hM := hM.th hS
  unfold mRes f_walks
  rw [e_M_walks, b_M_walks_0, s_M_isMan (by omega) hM.n h6]
  simp only [ab_ci]
  rw [b_M_walks_11]
  by_cases h1 : 0 ≤ x ∧ x < ((sW S).2.1.length : Int)
  · rw [isI_t h1, if_neg (by decide), s_M_isInn (by omega) hM.l hS.L]
    simp only [ab_ci]
    rw [b_M_walks_20]
    by_cases h2 : 0 ≤ y ∧ y < ((sW S).1 50 : Int)
    · obtain ⟨c, rfl⟩ : ∃ t : Nat, x = (t : Int) := ⟨x.toNat, by omega⟩
      obtain ⟨t, rfl⟩ : ∃ t : Nat, y = (t : Int) := ⟨y.toNat, by omega⟩
      have hc : c < (sW S).2.1.length := by omega
      rw [isI_t h2, if_pos (And.intro h1 h2), Int.toNat_natCast, Int.toNat_natCast]
      rw [if_neg (by decide)]
      obtain ⟨D1, g1, g2, g3⟩ := s_M_walk (X := X) (d := d) (D := u3 D 12 0 0 0) (c := c) (to := t) (v := mnD S c) (by omega) (by omega) hS.L hM.l (hS.oc hc) (hM.mc hc) (by omega)
      rw [g1]
      simp only [ab_ci]
      rw [b_M_walks_29]
      exact ⟨D1, rfl, MH.man' hS hM hc ⟨g2, mP_dP g3⟩⟩
    · rw [isI_f h2, if_pos rfl, if_neg (fun z => h2 z.2)]
      exact ⟨_, rfl, hM, th_mY D⟩
  · rw [isI_f h1, if_pos rfl, if_neg (fun z => h1 z.1)]
    exact ⟨_, rfl, hM, th_mY D⟩
theorem ok_walks {S : St} {x y : Int} (hS : SOK S) : SOK (f_walks S x y).2 := by
  have h16 := hS.L.1.1
  have h10 := hS.L.1.2.2.2.1
  unfold f_walks
  split
  · rename_i h
    exact hS.man ((hS.oc (by omega)).walk hS.L (by omega))
  · exact hS
-- says
def f_says (S : St) (x y : Int) : Int × St := if (0 ≤ x ∧ x < ((sW S).2.1.length : Int)) ∧ 0 ≤ y ∧ y < ((sW S).1 0 : Int) then (if y.toNat ∈ cL (mnD S x.toNat) then (w32 (cZ (sayV (sW S).1 (mnD S x.toNat) y.toNat) - cZ (mnD S x.toNat)), stM S x.toNat (sayV (sW S).1 (mnD S x.toNat) y.toNat)) else (-5, S)) else (-2, S)
theorem C_says {X : Nat × (Nat → Int)} {d : Nat} {D : DD} {S : St} {x y : Int} (hd : 8 ≤ d) (hS : SOK S) (hC : CH D S) : cRes X d m_N_says [vI x, vI y] D (f_says S x y) := by
  obtain ⟨d, rfl⟩ : ∃ e, d = e + 1 := ⟨d - 1, by omega⟩
  have h6 := hS.n6
  have h16 := hS.L.1.1
  have h10 := hS.L.1.2.2.2.1
  unfold cRes f_says
  rw [e_N_says, b_N_says_0, s_C_isOne (by omega) hC.n]
  simp only [ab_ci]
  rw [b_N_says_9]
  by_cases h1 : 0 ≤ x ∧ x < ((sW S).2.1.length : Int)
  · rw [isI_t h1, if_neg (by decide), s_C_isThing (by omega) hC.l]
    simp only [ab_ci]
    rw [b_N_says_21]
    by_cases h2 : 0 ≤ y ∧ y < ((sW S).1 0 : Int)
    · obtain ⟨c, rfl⟩ : ∃ t : Nat, x = (t : Int) := ⟨x.toNat, by omega⟩
      obtain ⟨t, rfl⟩ : ∃ t : Nat, y = (t : Int) := ⟨y.toNat, by omega⟩
      have hc : c < (sW S).2.1.length := by omega
      rw [isI_t h2, if_pos (by decide), if_pos (by omega), Int.toNat_natCast, R46_0 (by omega), if_pos (And.intro h1 h2), Int.toNat_natCast]
      simp only [ab_rf]
      rw [b_N_says_36, s_C_has (by omega) (hC.cc hc).2.2.2.1 (hS.oc hc).2.2.1 (by omega)]
      simp only [ab_ci]
      rw [b_N_says_42]
      by_cases h3 : t ∈ cL (mnD S c)
      · rw [if_pos h3, if_neg (by decide), if_pos h3]
        obtain ⟨D1, g1, g2⟩ := s_C_say (X := X) (d := d) (D := D) (i := c) (q := 1) (t := t) (v := mnD S c) (by omega) hS.L hC.l (hS.oc hc) (hC.cc hc) (by omega)
        rw [g1]
        simp only [ab_ci]
        rw [b_N_says_54]
        exact ⟨D1, rfl, hC.man' hS hc g2⟩
      · rw [if_neg h3, if_pos rfl, if_neg h3]
        exact ⟨D, rfl, hC, fr.rf D⟩
    · rw [isI_f h2, if_neg (by decide), if_neg (fun z => h2 z.2)]
      exact ⟨D, rfl, hC, fr.rf D⟩
  · rw [isI_f h1, if_pos rfl, if_neg (fun z => h1 z.1)]
    exact ⟨D, rfl, hC, fr.rf D⟩
theorem M_says {X : Nat × (Nat → Int)} {d : Nat} {D : DD} {S : St} {x y : Int} (hd : 8 ≤ d) (hS : SOK S) (hM : MH D S) : mRes X d m_M_says [vI x, vI y] D (f_says S x y) := by
  obtain ⟨d, rfl⟩ : ∃ e, d = e + 1 := ⟨d - 1, by omega⟩
  have h6 := hS.n6
  have h16 := hS.L.1.1
  have h10 := hS.L.1.2.2.2.1
  have hM := hM.th hS
  unfold mRes f_says
  rw [e_M_says, b_M_says_0, s_M_isMan (by omega) hM.n h6]
  simp only [ab_ci]
  rw [b_M_says_11]
  by_cases h1 : 0 ≤ x ∧ x < ((sW S).2.1.length : Int)
  · rw [isI_t h1, if_neg (by decide), s_M_isThing (by omega) hM.l hS.L]
    simp only [ab_ci]
    rw [b_M_says_20]
    by_cases h2 : 0 ≤ y ∧ y < ((sW S).1 0 : Int)
    · obtain ⟨c, rfl⟩ : ∃ t : Nat, x = (t : Int) := ⟨x.toNat, by omega⟩
      obtain ⟨t, rfl⟩ : ∃ t : Nat, y = (t : Int) := ⟨y.toNat, by omega⟩
      have hc : c < (sW S).2.1.length := by omega
      rw [isI_t h2, if_pos (And.intro h1 h2), Int.toNat_natCast, Int.toNat_natCast]
      have ok := hS.oc hc
      rw [if_pos (by decide), s_M_has (by omega) (by omega) (hM.mc hc) (Nat.le_trans ok.2.2.2 ok.1.2.1)]
      simp only [ab_ci]
      rw [b_M_says_32]
      by_cases h3 : t ∈ cL (mnD S c)
      · rw [if_pos h3, if_neg (by decide), if_pos h3]
        obtain ⟨D1, g1, g2, g3⟩ := s_M_say (X := X) (d := d) (D := u3 D 12 0 0 0) (c := c) (t := t) (v := mnD S c) (by omega) (by omega) hS.L hM.l ok (hM.mc hc) (by omega)
        have e : cZ (hrV (mnD S c) t) = cZ (mnD S c) := by
          show loZ (hrG (mnD S c) t) (cZ (mnD S c)) = _
          rw [(hrG_in ok h3).1]
          rfl
        rw [e] at g1
        rw [g1]
        simp only [ab_ci]
        rw [b_M_says_41]
        exact ⟨D1, rfl, MH.man' hS hM hc ⟨g2, mP_dP g3⟩⟩
      · rw [if_neg h3, if_pos rfl, if_neg h3]
        exact ⟨_, rfl, hM, th_mY D⟩
    · rw [isI_f h2, if_neg (by decide), if_neg (fun z => h2 z.2)]
      exact ⟨_, rfl, hM, th_mY D⟩
  · rw [isI_f h1, if_pos rfl, if_neg (fun z => h1 z.1)]
    exact ⟨_, rfl, hM, th_mY D⟩
theorem ok_says {S : St} {x y : Int} (hS : SOK S) : SOK (f_says S x y).2 := by
  have h16 := hS.L.1.1
  have h10 := hS.L.1.2.2.2.1
  unfold f_says
  split
  · rename_i h
    split
    · exact hS.man ((hS.oc (by omega)).say (by omega))
    · exact hS
  · exact hS
-- delivers
def f_delivers (S : St) (x : Int) : Int × St := if 0 ≤ x ∧ x < ((sW S).2.1.length : Int) then (((delV (sW S).1 (mnD S x.toNat)).2 : Int), stM S x.toNat (delV (sW S).1 (mnD S x.toNat)).1) else (-2, S)
theorem C_delivers {X : Nat × (Nat → Int)} {d : Nat} {D : DD} {S : St} {x : Int} (hd : 8 ≤ d) (hS : SOK S) (hC : CH D S) : cRes X d m_N_delivers [vI x] D (f_delivers S x) := by
  obtain ⟨d, rfl⟩ : ∃ e, d = e + 1 := ⟨d - 1, by omega⟩
  have h6 := hS.n6
  unfold cRes f_delivers
  rw [e_N_delivers, b_N_delivers_0, s_C_isOne (by omega) hC.n]
  simp only [ab_ci]
  rw [b_N_delivers_9]
  by_cases h1 : 0 ≤ x ∧ x < ((sW S).2.1.length : Int)
  · obtain ⟨c, rfl⟩ : ∃ t : Nat, x = (t : Int) := ⟨x.toNat, by omega⟩
    have hc : c < (sW S).2.1.length := by omega
    rw [isI_t h1, if_pos (by decide), if_pos (by omega), Int.toNat_natCast, R46_0 (by omega), if_pos h1]
    simp only [ab_rf]
    rw [b_N_delivers_24]
    obtain ⟨D1, g1, g2⟩ := s_C_deliver (X := X) (d := d) (D := D) (i := c) (q := 1) (v := mnD S c) (by omega) hS.L hC.l (hS.oc hc) (hC.cc hc)
    rw [g1]
    simp only [ab_ci]
    rw [b_N_delivers_31]
    exact ⟨D1, rfl, hC.man' hS hc g2⟩
  · rw [isI_f h1, if_neg (by decide), if_neg h1]
    exact ⟨D, rfl, hC, fr.rf D⟩
theorem M_delivers {X : Nat × (Nat → Int)} {d : Nat} {D : DD} {S : St} {x : Int} (hd : 8 ≤ d) (hS : SOK S) (hM : MH D S) : mRes X d m_M_delivers [vI x] D (f_delivers S x) := by
  obtain ⟨d, rfl⟩ : ∃ e, d = e + 1 := ⟨d - 1, by omega⟩
  have h6 := hS.n6
  have hM := hM.th hS
  unfold mRes f_delivers
  rw [e_M_delivers, b_M_delivers_0, s_M_isMan (by omega) hM.n h6]
  simp only [ab_ci]
  rw [b_M_delivers_11]
  by_cases h1 : 0 ≤ x ∧ x < ((sW S).2.1.length : Int)
  · obtain ⟨c, rfl⟩ : ∃ t : Nat, x = (t : Int) := ⟨x.toNat, by omega⟩
    have hc : c < (sW S).2.1.length := by omega
    rw [isI_t h1, if_neg (by decide), if_pos h1, Int.toNat_natCast]
    obtain ⟨D1, g1, g2⟩ := s_M_deliver (X := X) (d := d) (D := u3 D 12 0 0 0) (c := c) (v := mnD S c) (by omega) (by omega) hS.L hM.l (hS.oc hc) (hM.mc hc)
    rw [g1]
    simp only [ab_ci]
    rw [b_M_delivers_19]
    exact ⟨D1, rfl, MH.man' hS hM hc g2⟩
  · rw [isI_f h1, if_pos rfl, if_neg h1]
    exact ⟨_, rfl, hM, th_mY D⟩
theorem ok_delivers {S : St} {x : Int} (hS : SOK S) : SOK (f_delivers S x).2 := by
  unfold f_delivers
  split
  · exact hS.man ((hS.oc (by omega)).del hS.L).1
  · exact hS
end
