/-! the reference's calls: fresh, kept, less, enough, farBack, through, sizeFor -/
section
theorem fQ_mX {t i k : Nat} (h : fQ t i k) : mX t i k := by unfold fQ at h; unfold mX; omega
theorem tQ_mX {t i k : Nat} (h : tQ t i k) : mX t i k := by
  unfold tQ mP at h
  have : mB 6 = 327 := rfl
  unfold mX; omega
/-- the refusals in the reference's order -/
theorem rhI_cs {S : St} {x size law last : Int} : rhI S x size law last = if 0 ≤ x ∧ x ≤ 3 then (if 0 ≤ law ∧ law ≤ last then (if rrI S x = 0 then (if 1 ≤ size ∧ size ≤ 9 then (if atI (sW S).1 (rwD S x.toNat).2 = 1 then 0 else -3) else -3) else -6) else -2) else -2 := by
  unfold rhI
  by_cases h0 : 0 ≤ x ∧ x ≤ 3
  · rw [if_pos h0]
    by_cases h1 : 0 ≤ law ∧ law ≤ last
    · rw [if_neg (by omega), if_pos h1]
      by_cases h2 : rrI S x = 0
      · rw [if_pos h2, if_pos h2]
        by_cases h3 : 1 ≤ size ∧ size ≤ 9
        · rw [if_pos h3]
          by_cases h4 : atI (sW S).1 (rwD S x.toNat).2 = 1
          · rw [if_pos ⟨h3, h4⟩, if_pos h4]
          · rw [if_neg (fun z => h4 z.2), if_neg h4]
        · rw [if_neg (fun z => h3 z.1), if_neg h3]
      · rw [if_neg h2, if_neg h2]
        unfold rrI at h2 ⊢
        rw [if_pos (by omega)] at h2 ⊢
        cases hq : sR S x.toNat with
        | none => rfl
        | some z => rw [hq] at h2; exact absurd rfl h2
    · rw [if_pos (by omega), if_neg h1]
  · rw [if_neg h0]
    have : rrI S x = -2 := by unfold rrI; rw [if_neg (by omega)]
    rw [this]
    split
    · rfl
    · rfl
theorem M_fresh {X : Nat × (Nat → Int)} {d : Nat} {D : DD} {S : St} {x n law : Int} (hd : 16 ≤ d) (hS : SOK S) (hM : MH D S) : mRes X d m_M_fresh [vI x, vI n, vI law] D (f_fresh S x n law) := by
  obtain ⟨d, rfl⟩ : ∃ e, d = e + 1 := ⟨d - 1, by omega⟩
  have hM := hM.th hS
  unfold mRes f_fresh
  rw [e_M_fresh, b_M_fresh_0, s_M_within (by omega)]
  simp only [ab_ci]
  rw [b_M_fresh_14]
  have hT := th_mY D
  generalize u3 D 12 0 0 0 = D0 at hM hT ⊢
  by_cases h0 : 0 ≤ x ∧ x ≤ 3
  · obtain ⟨r, rfl⟩ : ∃ t : Nat, x = (t : Int) := ⟨x.toNat, by omega⟩
    obtain ⟨w1, w2⟩ := M_row hM (r := r) (by omega)
    rw [if_pos h0, if_neg (by decide), s_M_within (by omega)]
    simp only [ab_ci]
    rw [b_M_fresh_26]
    by_cases h1 : 0 ≤ law ∧ law ≤ 2
    · rw [if_pos h1, if_pos (by decide), if_pos (show (0 : Int) ≤ (r : Int) ∧ (r : Int) < 4 by omega), Int.toNat_natCast]
      by_cases h2 : rrI S (r : Int) = 0
      · obtain ⟨r', hr1, hr, er⟩ := rrI_0 h2
        have : r' = r := by omega
        subst this
        have hrc := hM.2.2.1 r' hr
        have hro := hS.2.2.1 r' hr
        rw [er] at hrc hro
        rw [if_pos (w1.mpr h2), s_M_within (by omega)]
        simp only [ab_ci]
        rw [b_M_fresh_54]
        by_cases h3 : 1 ≤ n ∧ n ≤ 9
        · rw [if_pos h3, if_neg (by decide), s_M_areThings (by omega) hr hS.L hM.l hrc hro]
          simp only [ab_ci]
          rw [b_M_fresh_62]
          rcases atI_01 (sW S).1 (rwD S r').2 with e | e
          · have e' : atI (sW S).1 (rwD S (r' : Int).toNat).2 = 1 := by rw [Int.toNat_natCast]; exact e
            obtain ⟨o1, o2⟩ := tsR_ok hS h2 e'
            have hmr := hM.mr h2 e'
            rw [Int.toNat_natCast] at hmr
            have hz : rhI S (r' : Int) n law 2 = 0 := by rw [rhI_cs, if_pos h0, if_pos h1, if_pos h2, if_pos h3, if_pos e']
            obtain ⟨m, rfl⟩ : ∃ t : Nat, n = (t : Int) := ⟨n.toNat, by omega⟩
            obtain ⟨D2, b1, _, b3⟩ := s_M_freshOf (X := X) (d := d) (D := D0) (r := r') (n := m) (law := law) (by omega) h1 (by omega) (by omega) hr o1 o2 hmr
            rw [e, if_pos (by decide), b1, if_pos hz]
            simp only [ab_ci]
            rw [b_M_fresh_75, Int.toNat_natCast]
            exact ⟨D2, rfl, hM.scr hS (b3.mo fun _ _ _ z => fQ_mX z), hT.tr (b3.mo fun _ _ _ z => mX_mY (fQ_mX z))⟩
          · have hz : rhI S (r' : Int) n law 2 = -3 := by rw [rhI_cs, if_pos h0, if_pos h1, if_pos h2, if_pos h3, Int.toNat_natCast, e]; rfl
            rw [e, if_neg (by decide), hz]
            exact ⟨D0, rfl, hM, hT⟩
        · have hz : rhI S (r' : Int) n law 2 = -3 := by rw [rhI_cs, if_pos h0, if_pos h1, if_pos h2, if_neg h3]
          rw [if_neg h3, if_pos rfl, hz]
          exact ⟨D0, rfl, hM, hT⟩
      · have hz : rhI S (r : Int) n law 2 = -6 := by rw [rhI_cs, if_pos h0, if_pos h1, if_neg h2]
        rw [if_neg (fun z => h2 (w1.mp z)), hz]
        exact ⟨D0, rfl, hM, hT⟩
    · have hz : rhI S (r : Int) n law 2 = -2 := by rw [rhI_cs, if_pos h0, if_neg h1]
      rw [if_neg h1, if_neg (by decide), hz]
      exact ⟨D0, rfl, hM, hT⟩
  · have hz : rhI S x n law 2 = -2 := by rw [rhI_cs, if_neg h0]
    rw [if_neg h0, if_pos rfl, hz]
    exact ⟨D0, rfl, hM, hT⟩
end
