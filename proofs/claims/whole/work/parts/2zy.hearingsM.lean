/-! the reference's calls: fresh, kept, less, enough, farBack, through, sizeFor -/
section
theorem fQ_mX {t i k : Nat} (h : fQ t i k) : mX t i k := by unfold fQ at h; unfold mX; omega
theorem tQ_mX {t i k : Nat} (h : tQ t i k) : mX t i k := by
  unfold tQ mP at h
  have : mB 6 = 327 := rfl
  unfold mX; omega
/-- the refusals in the reference's order -/
theorem rhI_cs {S : St} {x size law last : Int} : rhI S x size law last = if 0 ≤ x ∧ x ≤ 3 then (if 0 ≤ law ∧ law ≤ last then (if rrI S x = 0 then (if 1 ≤ size ∧ size ≤ 9 then (if atI (sW S).1 (rwD S x.toNat).2 = 1 then 0 else -3) else -3) else -6) else -2) else -2 := by
  unfold rhI
  by_cases h0 : 0 ≤ x ∧ x ≤ 3
  · rw [if_pos h0]
    by_cases h1 : 0 ≤ law ∧ law ≤ last
    · rw [if_neg (by omega), if_pos h1]
      by_cases h2 : rrI S x = 0
      · rw [if_pos h2, if_pos h2]
        by_cases h3 : 1 ≤ size ∧ size ≤ 9
        · rw [if_pos h3]
          by_cases h4 : atI (sW S).1 (rwD S x.toNat).2 = 1
          · rw [if_pos ⟨h3, h4⟩, if_pos h4]
          · rw [if_neg (fun z => h4 z.2), if_neg h4]
        · rw [if_neg (fun z => h3 z.1), if_neg h3]
      · rw [if_neg h2, if_neg h2]
        unfold rrI at h2 ⊢
        rw [if_pos (by omega)] at h2 ⊢
        cases hq : sR S x.toNat with
        | none => rfl
        | some z => rw [hq] at h2; exact absurd rfl h2
    · rw [if_pos (by omega), if_neg h1]
  · rw [if_neg h0]
    have : rrI S x = -2 := by unfold rrI; rw [if_neg (by omega)]
    rw [this]
    split
    · rfl
    · rfl
theorem M_fresh {X : Nat × (Nat → Int)} {d : Nat} {D : DD} {S : St} {x n law : Int} (hd : 16 ≤ d) (hS : SOK S) (hM : MH D S) : mRes X d m_M_fresh [vI x, vI n, vI law] D (f_fresh S x n law) := by
  obtain ⟨d, rfl⟩ : ∃ e, d = e + 1 := ⟨d - 1, by omega⟩
  have hM := hM.th hS
  unfold mRes f_fresh
  rw [e_M_fresh, b_M_fresh_0, s_M_within (by omega)]
  simp only [ab_ci]
  rw [b_M_fresh_14]
  have hT := th_mY D
  generalize u3 D 12 0 0 0 = D0 at hM hT ⊢
  by_cases h0 : 0 ≤ x ∧ x ≤ 3
  · obtain ⟨r, rfl⟩ : ∃ t : Nat, x = (t : Int) := ⟨x.toNat, by omega⟩
    obtain ⟨w1, w2⟩ := M_row hM (r := r) (by omega)
    rw [if_pos h0, if_neg (by decide), s_M_within (by omega)]
    simp only [ab_ci]
    rw [b_M_fresh_26]
    by_cases h1 : 0 ≤ law ∧ law ≤ 2
    · rw [if_pos h1, if_pos (by decide), if_pos (show (0 : Int) ≤ (r : Int) ∧ (r : Int) < 4 by omega), Int.toNat_natCast]
      by_cases h2 : rrI S (r : Int) = 0
      · obtain ⟨r', hr1, hr, er⟩ := rrI_0 h2
        have : r' = r := by omega
        subst this
        have hrc := hM.2.2.1 r' hr
        have hro := hS.2.2.1 r' hr
        rw [er] at hrc hro
        rw [if_pos (w1.mpr h2), s_M_within (by omega)]
        simp only [ab_ci]
        rw [b_M_fresh_54]
        by_cases h3 : 1 ≤ n ∧ n ≤ 9
        · rw [if_pos h3, if_neg (by decide), s_M_areThings (by omega) hr hS.L hM.l hrc hro]
          simp only [ab_ci]
          rw [b_M_fresh_62]
          rcases atI_01 (sW S).1 (rwD S r').2 with e | e
          · have e' : atI (sW S).1 (rwD S (r' : Int).toNat).2 = 1 := by rw [Int.toNat_natCast]; exact e
            obtain ⟨o1, o2⟩ := tsR_ok hS h2 e'
            have hmr := hM.mr h2 e'
            rw [Int.toNat_natCast] at hmr
            have hz : rhI S (r' : Int) n law 2 = 0 := by rw [rhI_cs, if_pos h0, if_pos h1, if_pos h2, if_pos h3, if_pos e']
            obtain ⟨m, rfl⟩ : ∃ t : Nat, n = (t : Int) := ⟨n.toNat, by omega⟩
            obtain ⟨D2, b1, _, b3⟩ := s_M_freshOf (X := X) (d := d) (D := D0) (r := r') (n := m) (law := law) (by omega) h1 (by omega) (by omega) hr o1 o2 hmr
            rw [e, if_pos (by decide), b1, if_pos hz]
            simp only [ab_ci]
            rw [b_M_fresh_75, Int.toNat_natCast]
            exact ⟨D2, rfl, hM.scr hS (b3.mo fun _ _ _ z => fQ_mX z), hT.tr (b3.mo fun _ _ _ z => mX_mY (fQ_mX z))⟩
          · have hz : rhI S (r' : Int) n law 2 = -3 := by rw [rhI_cs, if_pos h0, if_pos h1, if_pos h2, if_pos h3, Int.toNat_natCast, e]; rfl
            rw [e, if_neg (by decide), hz]
            exact ⟨D0, rfl, hM, hT⟩
        · have hz : rhI S (r' : Int) n law 2 = -3 := by rw [rhI_cs, if_pos h0, if_pos h1, if_pos h2, if_neg h3]
          rw [if_neg h3, if_pos rfl, hz]
          exact ⟨D0, rfl, hM, hT⟩
      · have hz : rhI S (r : Int) n law 2 = -6 := by rw [rhI_cs, if_pos h0, if_pos h1, if_neg h2]
        rw [if_neg (fun z => h2 (w1.mp z)), hz]
        exact ⟨D0, rfl, hM, hT⟩
    · have hz : rhI S (r : Int) n law 2 = -2 := by rw [rhI_cs, if_pos h0, if_neg h1]
      rw [if_neg h1, if_neg (by decide), hz]
      exact ⟨D0, rfl, hM, hT⟩
  · have hz : rhI S x n law 2 = -2 := by rw [rhI_cs, if_neg h0]
    rw [if_neg h0, if_pos rfl, hz]
    exact ⟨D0, rfl, hM, hT⟩
theorem M_kept {X : Nat × (Nat → Int)} {d : Nat} {D : DD} {S : St} {x n law : Int} (hd : 16 ≤ d) (hS : SOK S) (hM : MH D S) : mRes X d m_M_kept [vI x, vI n, vI law] D (f_kept S x n law) := by
  obtain ⟨d, rfl⟩ : ∃ e, d = e + 1 := ⟨d - 1, by omega⟩
  have hM := hM.th hS
  unfold mRes f_kept
  rw [e_M_kept, b_M_kept_0, s_M_within (by omega)]
  simp only [ab_ci]
  rw [b_M_kept_14]
  have hT := th_mY D
  generalize u3 D 12 0 0 0 = D0 at hM hT ⊢
  by_cases h0 : 0 ≤ x ∧ x ≤ 3
  · obtain ⟨r, rfl⟩ : ∃ t : Nat, x = (t : Int) := ⟨x.toNat, by omega⟩
    obtain ⟨w1, w2⟩ := M_row hM (r := r) (by omega)
    rw [if_pos h0, if_neg (by decide), s_M_within (by omega)]
    simp only [ab_ci]
    rw [b_M_kept_24]
    by_cases h1 : 0 ≤ law ∧ law ≤ 1
    · rw [if_pos h1, if_pos (by decide), if_pos (show (0 : Int) ≤ (r : Int) ∧ (r : Int) < 4 by omega), Int.toNat_natCast]
      by_cases h2 : rrI S (r : Int) = 0
      · obtain ⟨r', hr1, hr, er⟩ := rrI_0 h2
        have : r' = r := by omega
        subst this
        have hrc := hM.2.2.1 r' hr
        have hro := hS.2.2.1 r' hr
        rw [er] at hrc hro
        rw [if_pos (w1.mpr h2), s_M_within (by omega)]
        simp only [ab_ci]
        rw [b_M_kept_52]
        by_cases h3 : 1 ≤ n ∧ n ≤ 9
        · rw [if_pos h3, if_neg (by decide), s_M_areThings (by omega) hr hS.L hM.l hrc hro]
          simp only [ab_ci]
          rw [b_M_kept_60]
          rcases atI_01 (sW S).1 (rwD S r').2 with e | e
          · have e' : atI (sW S).1 (rwD S (r' : Int).toNat).2 = 1 := by rw [Int.toNat_natCast]; exact e
            obtain ⟨o1, o2⟩ := tsR_ok hS h2 e'
            have hmr := hM.mr h2 e'
            rw [Int.toNat_natCast] at hmr
            have hz : rhI S (r' : Int) n law 1 = 0 := by rw [rhI_cs, if_pos h0, if_pos h1, if_pos h2, if_pos h3, if_pos e']
            obtain ⟨m, rfl⟩ : ∃ t : Nat, n = (t : Int) := ⟨n.toNat, by omega⟩
            obtain ⟨D2, b1, b2, b3⟩ := s_M_freshOf (X := X) (d := d) (D := D0) (r := r') (n := m) (law := law) (by omega) (by omega) (by omega) (by omega) hr o1 o2 hmr
            rw [e, if_pos (by decide), b1, if_pos hz]
            simp only [ab_ci]
            rw [b_M_kept_73, Int.toNat_natCast, b2 (by omega)]
            exact ⟨D2, rfl, hM.scr hS (b3.mo fun _ _ _ z => fQ_mX z), hT.tr (b3.mo fun _ _ _ z => mX_mY (fQ_mX z))⟩
          · have hz : rhI S (r' : Int) n law 1 = -3 := by rw [rhI_cs, if_pos h0, if_pos h1, if_pos h2, if_pos h3, Int.toNat_natCast, e]; rfl
            rw [e, if_neg (by decide), hz]
            exact ⟨D0, rfl, hM, hT⟩
        · have hz : rhI S (r' : Int) n law 1 = -3 := by rw [rhI_cs, if_pos h0, if_pos h1, if_pos h2, if_neg h3]
          rw [if_neg h3, if_pos rfl, hz]
          exact ⟨D0, rfl, hM, hT⟩
      · have hz : rhI S (r : Int) n law 1 = -6 := by rw [rhI_cs, if_pos h0, if_pos h1, if_neg h2]
        rw [if_neg (fun z => h2 (w1.mp z)), hz]
        exact ⟨D0, rfl, hM, hT⟩
    · have hz : rhI S (r : Int) n law 1 = -2 := by rw [rhI_cs, if_pos h0, if_neg h1]
      rw [if_neg h1, if_neg (by decide), hz]
      exact ⟨D0, rfl, hM, hT⟩
  · have hz : rhI S x n law 1 = -2 := by rw [rhI_cs, if_neg h0]
    rw [if_neg h0, if_pos rfl, hz]
    exact ⟨D0, rfl, hM, hT⟩
theorem M_less {X : Nat × (Nat → Int)} {d : Nat} {D : DD} {S : St} {x : Int} (hd : 16 ≤ d) (hS : SOK S) (hM : MH D S) : mRes X d m_M_less [vI x] D (f_less S x) := by
  obtain ⟨d, rfl⟩ : ∃ e, d = e + 1 := ⟨d - 1, by omega⟩
  have hM := hM.th hS
  unfold mRes f_less
  rw [e_M_less, b_M_less_0, s_M_within (by omega)]
  simp only [ab_ci]
  rw [b_M_less_14]
  have hT := th_mY D
  generalize u3 D 12 0 0 0 = D0 at hM hT ⊢
  have h1 : (0 : Int) ≤ 1 ∧ (1 : Int) ≤ 1 := by omega
  have h3 : (1 : Int) ≤ 1 ∧ (1 : Int) ≤ 9 := by omega
  by_cases h0 : 0 ≤ x ∧ x ≤ 3
  · obtain ⟨r, rfl⟩ : ∃ t : Nat, x = (t : Int) := ⟨x.toNat, by omega⟩
    obtain ⟨w1, w2⟩ := M_row hM (r := r) (by omega)
    rw [if_pos h0, if_pos (by decide), if_pos (show (0 : Int) ≤ (r : Int) ∧ (r : Int) < 4 by omega), Int.toNat_natCast]
    by_cases h2 : rrI S (r : Int) = 0
    · obtain ⟨r', hr1, hr, er⟩ := rrI_0 h2
      have : r' = r := by omega
      subst this
      have hrc := hM.2.2.1 r' hr
      have hro := hS.2.2.1 r' hr
      rw [er] at hrc hro
      rw [if_pos (w1.mpr h2), s_M_areThings (by omega) hr hS.L hM.l hrc hro]
      simp only [ab_ci]
      rw [b_M_less_38]
      rcases atI_01 (sW S).1 (rwD S r').2 with e | e
      · have e' : atI (sW S).1 (rwD S (r' : Int).toNat).2 = 1 := by rw [Int.toNat_natCast]; exact e
        obtain ⟨o1, o2⟩ := tsR_ok hS h2 e'
        have hmr := hM.mr h2 e'
        rw [Int.toNat_natCast] at hmr
        have hz : rhI S (r' : Int) 1 1 1 = 0 := by rw [rhI_cs, if_pos h0, if_pos h1, if_pos h2, if_pos h3, if_pos e']
        rw [e, if_pos (by decide), if_pos hz]
        have key : ∀ (m s : Nat) (D : DD), s + m = 9 → 1 ≤ s → MR D r' (tsR S r') → ∃ D', at_ X d cd_M_less 46 [vR 12 0, vI (r' : Int), vI (s : Int)] [] (hp D) = some (some (vI (lsU (tsR S r') m s)), hp D') ∧ fr fQ D D' := by
          intro m
          induction m with
          | zero =>
            intro s D hs h1 hr
            rw [b_M_less_46, if_pos (by omega)]
            exact ⟨D, rfl, fr.rf D⟩
          | succ m ih =>
            intro s D hs h1 hr9
            obtain ⟨D2, b1, _, b3⟩ := s_M_freshOf (X := X) (d := d) (D := D) (r := r') (n := s) (law := 1) (by omega) (by omega) h1 (by omega) hr o1 o2 hr9
            obtain ⟨D3, c1, _, c3⟩ := s_M_freshOf (X := X) (d := d) (D := D2) (r := r') (n := s + 1) (law := 1) (by omega) (by omega) (by omega) (by omega) hr o1 o2 (hr9.fq b3)
            rw [b_M_less_46, if_neg (by omega), b1]
            simp only [ab_ci]
            rw [b_M_less_59, zb_s (by omega), c1]
            simp only [ab_ci]
            rw [b_M_less_68, lsU]
            by_cases e : frN (tsR S r') s 1 < frN (tsR S r') (s + 1) 1
            · rw [if_neg (by omega), if_pos e]
              exact ⟨D3, rfl, b3.tr c3⟩
            · rw [if_pos (by omega), if_neg e, zb_s (by omega)]
              obtain ⟨D', q1, q2⟩ := ih (s + 1) D3 (by omega) (by omega) ((hr9.fq b3).fq c3)
              exact ⟨D', q1, (b3.tr c3).tr q2⟩
        obtain ⟨D2, b1, b3⟩ := key 8 1 D0 (by omega) (by omega) hmr
        exact ⟨D2, b1, hM.scr hS (b3.mo fun _ _ _ z => fQ_mX z), hT.tr (b3.mo fun _ _ _ z => mX_mY (fQ_mX z))⟩
      · have hz : rhI S (r' : Int) 1 1 1 = -3 := by rw [rhI_cs, if_pos h0, if_pos h1, if_pos h2, if_pos h3, Int.toNat_natCast, e]; rfl
        rw [e, if_neg (by decide), hz]
        exact ⟨D0, rfl, hM, hT⟩
    · have hz : rhI S (r : Int) 1 1 1 = -6 := by rw [rhI_cs, if_pos h0, if_pos h1, if_neg h2]
      rw [if_neg (fun z => h2 (w1.mp z)), hz]
      exact ⟨D0, rfl, hM, hT⟩
  · have hz : rhI S x 1 1 1 = -2 := by rw [rhI_cs, if_neg h0]
    rw [if_neg h0, if_neg (by decide), hz]
    exact ⟨D0, rfl, hM, hT⟩
theorem M_enough {X : Nat × (Nat → Int)} {d : Nat} {D : DD} {S : St} {x most law : Int} (hd : 16 ≤ d) (hS : SOK S) (hM : MH D S) : mRes X d m_M_enough [vI x, vI most, vI law] D (f_enough S x most law) := by
  obtain ⟨d, rfl⟩ : ∃ e, d = e + 1 := ⟨d - 1, by omega⟩
  have hM := hM.th hS
  unfold mRes f_enough
  rw [e_M_enough, b_M_enough_0, s_M_within (by omega)]
  simp only [ab_ci]
  rw [b_M_enough_14]
  have hT := th_mY D
  generalize u3 D 12 0 0 0 = D0 at hM hT ⊢
  have h3 : (1 : Int) ≤ 1 ∧ (1 : Int) ≤ 9 := by omega
  by_cases h0 : 0 ≤ x ∧ x ≤ 3
  · obtain ⟨r, rfl⟩ : ∃ t : Nat, x = (t : Int) := ⟨x.toNat, by omega⟩
    obtain ⟨w1, w2⟩ := M_row hM (r := r) (by omega)
    rw [if_pos h0, if_neg (by decide), s_M_within (by omega)]
    simp only [ab_ci]
    rw [b_M_enough_26]
    by_cases h1 : 0 ≤ law ∧ law ≤ 2
    · rw [if_pos h1, if_pos (by decide), if_pos (show (0 : Int) ≤ (r : Int) ∧ (r : Int) < 4 by omega), Int.toNat_natCast]
      by_cases h2 : rrI S (r : Int) = 0
      · obtain ⟨r', hr1, hr, er⟩ := rrI_0 h2
        have : r' = r := by omega
        subst this
        have hrc := hM.2.2.1 r' hr
        have hro := hS.2.2.1 r' hr
        rw [er] at hrc hro
        rw [if_pos (w1.mpr h2), s_M_areThings (by omega) hr hS.L hM.l hrc hro]
        simp only [ab_ci]
        rw [b_M_enough_50]
        rcases atI_01 (sW S).1 (rwD S r').2 with e | e
        · have e' : atI (sW S).1 (rwD S (r' : Int).toNat).2 = 1 := by rw [Int.toNat_natCast]; exact e
          obtain ⟨o1, o2⟩ := tsR_ok hS h2 e'
          have hmr := hM.mr h2 e'
          rw [Int.toNat_natCast] at hmr
          have hz : rhI S (r' : Int) 1 law 2 = 0 := by rw [rhI_cs, if_pos h0, if_pos h1, if_pos h2, if_pos h3, if_pos e']
          rw [e, if_pos (by decide), if_pos hz]
          have key : ∀ (m s : Nat) (D : DD), s + m = 10 → 1 ≤ s → MR D r' (tsR S r') → ∃ D', at_ X d cd_M_enough 59 [vR 12 0, vI (r' : Int), vI most, vI law, vI (s : Int)] [] (hp D) = some (some (vI (enU (tsR S r') most law m s)), hp D') ∧ fr fQ D D' := by
            intro m
            induction m with
            | zero =>
              intro s D hs h1 hr
              rw [b_M_enough_59, if_pos (by omega)]
              exact ⟨D, rfl, fr.rf D⟩
            | succ m ih =>
              intro s D hs hs1 hr9
              obtain ⟨D2, b1, _, b3⟩ := s_M_freshOf (X := X) (d := d) (D := D) (r := r') (n := s) (law := law) (by omega) h1 hs1 (by omega) hr o1 o2 hr9
              rw [b_M_enough_59, if_neg (by omega), b1]
              simp only [ab_ci]
              rw [b_M_enough_74, enU]
              by_cases e : (frN (tsR S r') s law : Int) ≤ most
              · rw [if_neg (by omega), if_pos e]
                exact ⟨D2, rfl, b3⟩
              · rw [if_pos (by omega), if_neg e, zb_s (by omega)]
                obtain ⟨D', q1, q2⟩ := ih (s + 1) D2 (by omega) (by omega) (hr9.fq b3)
                exact ⟨D', q1, b3.tr q2⟩
          obtain ⟨D2, b1, b3⟩ := key 9 1 D0 (by omega) (by omega) hmr
          exact ⟨D2, b1, hM.scr hS (b3.mo fun _ _ _ z => fQ_mX z), hT.tr (b3.mo fun _ _ _ z => mX_mY (fQ_mX z))⟩
        · have hz : rhI S (r' : Int) 1 law 2 = -3 := by rw [rhI_cs, if_pos h0, if_pos h1, if_pos h2, if_pos h3, Int.toNat_natCast, e]; rfl
          rw [e, if_neg (by decide), hz]
          exact ⟨D0, rfl, hM, hT⟩
      · have hz : rhI S (r : Int) 1 law 2 = -6 := by rw [rhI_cs, if_pos h0, if_pos h1, if_neg h2]
        rw [if_neg (fun z => h2 (w1.mp z)), hz]
        exact ⟨D0, rfl, hM, hT⟩
    · have hz : rhI S (r : Int) 1 law 2 = -2 := by rw [rhI_cs, if_pos h0, if_neg h1]
      rw [if_neg h1, if_neg (by decide), hz]
      exact ⟨D0, rfl, hM, hT⟩
  · have hz : rhI S x 1 law 2 = -2 := by rw [rhI_cs, if_neg h0]
    rw [if_neg h0, if_pos rfl, hz]
    exact ⟨D0, rfl, hM, hT⟩
theorem M_farBack {X : Nat × (Nat → Int)} {d : Nat} {D : DD} {S : St} {x i : Int} (hd : 16 ≤ d) (hS : SOK S) (hM : MH D S) : mRes X d m_M_farBack [vI x, vI i] D (f_farBack S x i) := by
  obtain ⟨d, rfl⟩ : ∃ e, d = e + 1 := ⟨d - 1, by omega⟩
  have hM := hM.th hS
  unfold mRes f_farBack
  rw [e_M_farBack, b_M_farBack_0, s_M_within (by omega)]
  simp only [ab_ci]
  rw [b_M_farBack_14]
  have hT := th_mY D
  generalize u3 D 12 0 0 0 = D0 at hM hT ⊢
  by_cases h0 : 0 ≤ x ∧ x ≤ 3
  · obtain ⟨r, rfl⟩ : ∃ t : Nat, x = (t : Int) := ⟨x.toNat, by omega⟩
    obtain ⟨w1, w2⟩ := M_row hM (r := r) (by omega)
    rw [if_pos h0, if_pos (by decide), if_pos (show (0 : Int) ≤ (r : Int) ∧ (r : Int) < 4 by omega), Int.toNat_natCast]
    by_cases h2 : rrI S (r : Int) = 0
    · obtain ⟨r', hr1, hr, er⟩ := rrI_0 h2
      have : r' = r := by omega
      subst this
      have hrc := hM.2.2.1 r' hr
      have hro := hS.2.2.1 r' hr
      rw [er] at hrc hro
      obtain ⟨a1, a2, a3⟩ := hrc
      have z2 := hro.2.1
      rw [if_pos (w1.mpr h2), if_pos (show (0 : Int) ≤ (r' : Int) ∧ (r' : Int) < 4 by omega), a2, zb_w (by omega) (by omega), s_M_within (by omega)]
      simp only [ab_ci]
      rw [b_M_farBack_48, if_pos h2, tsR_len, Int.toNat_natCast]
      by_cases h3 : 0 ≤ i ∧ i < ((rwD S r').2.length : Int)
      · obtain ⟨k, rfl⟩ : ∃ t : Nat, i = (t : Int) := ⟨i.toNat, by omega⟩
        rw [if_pos (show (0 : Int) ≤ (k : Int) ∧ (k : Int) ≤ ((rwD S r').2.length : Int) - 1 by omega), if_pos (by decide), s_M_areThings (by omega) hr hS.L hM.l ⟨a1, a2, a3⟩ hro, if_pos h3]
        simp only [ab_ci]
        rw [b_M_farBack_59]
        rcases atI_01 (sW S).1 (rwD S r').2 with e | e
        · have e' : atI (sW S).1 (rwD S (r' : Int).toNat).2 = 1 := by rw [Int.toNat_natCast]; exact e
          obtain ⟨o1, o2⟩ := tsR_ok hS h2 e'
          have hmr := hM.mr h2 e'
          rw [Int.toNat_natCast] at hmr
          have hlen : (tsR S (r' : Int)).length = (rwD S r').2.length := by rw [tsR_len, Int.toNat_natCast]
          generalize tsR S (r' : Int) = ts at o1 o2 hmr hlen ⊢
          rw [e, if_pos (by decide), if_pos rfl, zb_w (by omega) (by omega), Int.toNat_natCast]
          have key : ∀ (j b : Nat), j ≤ k → b < 65536 → at_ X d cd_M_farBack 72 [vR 12 0, vI (r' : Int), vI (k : Int), vI (b : Int), vI ((j : Int) - 1)] [] (hp D0) = some (some (vI (fbU ts k j b)), hp D0) := by
            intro j
            induction j with
            | zero =>
              intro b hj hb
              rw [b_M_farBack_72, if_pos (by omega)]
              rfl
            | succ j ih =>
              intro b hj hb
              have ht := o2 _ (say_mem (l := ts) (k := j) (by omega))
              have hp9 : 2 ^ ts.getD j 0 < 2 ^ 16 := zb_p2 ht
              have hor := Nat.or_lt_two_pow (n := 16) hb hp9
              have ej : ((j + 1 : Nat) : Int) - 1 = (j : Int) := by omega
              rw [b_M_farBack_72, ej, if_neg (by omega), zb_w (n := 40 * (r' : Int)) (by omega) (by omega), zb_w (n := 40 * (r' : Int) + (j : Int)) (by omega) (by omega), zb_w (n := 40 * (r' : Int) + (k : Int)) (by omega) (by omega), if_pos (by omega), if_pos (by omega), if_pos (by omega), tn (x := 40 * (r' : Int) + (j : Int)) (n := 40 * r' + j) (by omega), tn (x := 40 * (r' : Int) + (k : Int)) (n := 40 * r' + k) (by omega), hmr.2 j (by omega), hmr.2 k (by omega), zb_w (n := ((ts.getD j 0 : Nat) : Int)) (by omega) (by omega), zb_sl (by omega), zb_or (by omega) (by omega), fbU]
              by_cases q : ts.getD j 0 = ts.getD k 0
              · rw [if_neg (fun z => cmp_ne.mp z (by omega)), if_pos q, s_M_bitsOf (by omega) hor]
                simp only [ab_ci]
                rw [b_M_farBack_126]
              · rw [if_pos (cmp_ne.mpr (by omega)), if_neg q, zb_w (by omega) (by omega)]
                exact ih _ (by omega) hor
          exact ⟨D0, key k 0 (Nat.le_refl _) (by omega), hM, hT⟩
        · rw [e, if_neg (by decide), if_neg (by decide)]
          exact ⟨D0, rfl, hM, hT⟩
      · rw [if_neg (show ¬ (0 ≤ i ∧ i ≤ ((rwD S r').2.length : Int) - 1) by omega), if_neg (by decide), if_neg h3]
        exact ⟨D0, rfl, hM, hT⟩
    · rw [if_neg (fun z => h2 (w1.mp z)), if_neg h2, w2 h2]
      exact ⟨D0, rfl, hM, hT⟩
  · have hz : rrI S x = -2 := by unfold rrI; rw [if_neg (by omega)]
    rw [if_neg h0, if_neg (by decide), hz]
    exact ⟨D0, rfl, hM, hT⟩
theorem M_through {X : Nat × (Nat → Int)} {d : Nat} {D : DD} {S : St} {x n inn : Int} (hd : 16 ≤ d) (hS : SOK S) (hM : MH D S) : mRes X d m_M_through [vI x, vI n, vI inn] D (f_through S x n inn) := by
  obtain ⟨d, rfl⟩ : ∃ e, d = e + 1 := ⟨d - 1, by omega⟩
  have hM := hM.th hS
  have h10 := hS.L.1.2.2.2.1
  unfold mRes f_through
  rw [e_M_through, b_M_through_0, s_M_within (by omega)]
  simp only [ab_ci]
  rw [b_M_through_14]
  have hT := th_mY D
  generalize u3 D 12 0 0 0 = D0 at hM hT ⊢
  have h1 : (0 : Int) ≤ 0 ∧ (0 : Int) ≤ 0 := by omega
  by_cases h0 : 0 ≤ x ∧ x ≤ 3
  · obtain ⟨r, rfl⟩ : ∃ t : Nat, x = (t : Int) := ⟨x.toNat, by omega⟩
    obtain ⟨w1, w2⟩ := M_row hM (r := r) (by omega)
    rw [if_pos h0, if_neg (by decide), s_M_isInn (by omega) hM.l hS.L]
    simp only [ab_ci]
    rw [b_M_through_23]
    by_cases hi : 0 ≤ inn ∧ inn < ((sW S).1 50 : Int)
    · rw [isI_t hi, if_pos (by decide), if_pos (show (0 : Int) ≤ (r : Int) ∧ (r : Int) < 4 by omega), Int.toNat_natCast, if_pos hi]
      by_cases h2 : rrI S (r : Int) = 0
      · obtain ⟨r', hr1, hr, er⟩ := rrI_0 h2
        have : r' = r := by omega
        subst this
        have hrc := hM.2.2.1 r' hr
        have hro := hS.2.2.1 r' hr
        rw [er] at hrc hro
        rw [if_pos (w1.mpr h2), s_M_within (by omega)]
        simp only [ab_ci]
        rw [b_M_through_51]
        by_cases h3 : 1 ≤ n ∧ n ≤ 9
        · rw [if_pos h3, if_neg (by decide), s_M_areThings (by omega) hr hS.L hM.l hrc hro]
          simp only [ab_ci]
          rw [b_M_through_59]
          rcases atI_01 (sW S).1 (rwD S r').2 with e | e
          · have e' : atI (sW S).1 (rwD S (r' : Int).toNat).2 = 1 := by rw [Int.toNat_natCast]; exact e
            obtain ⟨o1, o2⟩ := tsR_ok hS h2 e'
            have hmr := hM.mr h2 e'
            rw [Int.toNat_natCast] at hmr
            have hz : rhI S (r' : Int) n 0 0 = 0 := by rw [rhI_cs, if_pos h0, if_pos h1, if_pos h2, if_pos h3, if_pos e']
            obtain ⟨m, rfl⟩ : ∃ t : Nat, n = (t : Int) := ⟨n.toNat, by omega⟩
            obtain ⟨j, rfl⟩ : ∃ t : Nat, inn = (t : Int) := ⟨inn.toNat, by omega⟩
            obtain ⟨D1, c1, c2, c3⟩ := s_M_tellsRow (X := X) (d := d) (D := D0) (by omega) hr o1 o2 hmr
            have hM1 : MH D1 S := hM.scr hS (c3.mo fun _ _ _ z => by unfold mX; omega)
            have f1 : fr mY D D1 := hT.tr (c3.mo fun _ _ _ z => by unfold mY; omega)
            have e41 : D1 41 0 r' = ((tsR S (r' : Int)).length : Int) := (c3 _ _ _ (by omega)).trans hmr.1
            obtain ⟨D2, b1, b3⟩ := s_M_throughOf (X := X) (d := d) (D := D1) (n := m) (inn := j) (ts := tsR S (r' : Int)) (by omega) hS.L hM1.l (by omega) (by omega) o1 o2 (by omega) c2
            rw [e, if_pos (by decide), c1, if_pos hz]
            simp only [ab_cv]
            rw [b_M_through_70, if_pos (show (0 : Int) ≤ (r' : Int) ∧ (r' : Int) < 4 by omega), Int.toNat_natCast, e41, b1]
            simp only [ab_ci]
            rw [b_M_through_82, Int.toNat_natCast, Int.toNat_natCast]
            exact ⟨D2, rfl, hM1.scr hS (b3.mo fun _ _ _ z => tQ_mX z), f1.tr (b3.mo fun _ _ _ z => mX_mY (tQ_mX z))⟩
          · have hz : rhI S (r' : Int) n 0 0 = -3 := by rw [rhI_cs, if_pos h0, if_pos h1, if_pos h2, if_pos h3, Int.toNat_natCast, e]; rfl
            rw [e, if_neg (by decide), hz]
            exact ⟨D0, rfl, hM, hT⟩
        · have hz : rhI S (r' : Int) n 0 0 = -3 := by rw [rhI_cs, if_pos h0, if_pos h1, if_pos h2, if_neg h3]
          rw [if_neg h3, if_pos rfl, hz]
          exact ⟨D0, rfl, hM, hT⟩
      · have hz : rhI S (r : Int) n 0 0 = -6 := by rw [rhI_cs, if_pos h0, if_pos h1, if_neg h2]
        rw [if_neg (fun z => h2 (w1.mp z)), hz]
        exact ⟨D0, rfl, hM, hT⟩
    · rw [isI_f hi, if_neg (by decide), if_neg hi]
      exact ⟨D0, rfl, hM, hT⟩
  · have hz : rhI S x n 0 0 = -2 := by rw [rhI_cs, if_neg h0]
    rw [if_neg h0, if_pos rfl, hz]
    by_cases hi : 0 ≤ inn ∧ inn < ((sW S).1 50 : Int)
    · rw [if_pos hi]
      exact ⟨D0, rfl, hM, hT⟩
    · rw [if_neg hi]
      exact ⟨D0, rfl, hM, hT⟩
theorem M_sizeFor {X : Nat × (Nat → Int)} {d : Nat} {D : DD} {S : St} {x inn : Int} (hd : 16 ≤ d) (hS : SOK S) (hM : MH D S) : mRes X d m_M_sizeFor [vI x, vI inn] D (f_sizeFor S x inn) := by
  obtain ⟨d, rfl⟩ : ∃ e, d = e + 1 := ⟨d - 1, by omega⟩
  have hM := hM.th hS
  have h10 := hS.L.1.2.2.2.1
  unfold mRes f_sizeFor
  rw [e_M_sizeFor, b_M_sizeFor_0, s_M_within (by omega)]
  simp only [ab_ci]
  rw [b_M_sizeFor_14]
  have hT := th_mY D
  generalize u3 D 12 0 0 0 = D0 at hM hT ⊢
  have h1 : (0 : Int) ≤ 0 ∧ (0 : Int) ≤ 0 := by omega
  have h3 : (1 : Int) ≤ 1 ∧ (1 : Int) ≤ 9 := by omega
  by_cases h0 : 0 ≤ x ∧ x ≤ 3
  · obtain ⟨r, rfl⟩ : ∃ t : Nat, x = (t : Int) := ⟨x.toNat, by omega⟩
    obtain ⟨w1, w2⟩ := M_row hM (r := r) (by omega)
    rw [if_pos h0, if_neg (by decide), s_M_isInn (by omega) hM.l hS.L]
    simp only [ab_ci]
    rw [b_M_sizeFor_23]
    by_cases hi : 0 ≤ inn ∧ inn < ((sW S).1 50 : Int)
    · rw [isI_t hi, if_pos (by decide), if_pos (show (0 : Int) ≤ (r : Int) ∧ (r : Int) < 4 by omega), Int.toNat_natCast, if_pos hi]
      by_cases h2 : rrI S (r : Int) = 0
      · obtain ⟨r', hr1, hr, er⟩ := rrI_0 h2
        have : r' = r := by omega
        subst this
        have hrc := hM.2.2.1 r' hr
        have hro := hS.2.2.1 r' hr
        rw [er] at hrc hro
        rw [if_pos (w1.mpr h2), s_M_areThings (by omega) hr hS.L hM.l hrc hro]
        simp only [ab_ci]
        rw [b_M_sizeFor_47]
        rcases atI_01 (sW S).1 (rwD S r').2 with e | e
        · have e' : atI (sW S).1 (rwD S (r' : Int).toNat).2 = 1 := by rw [Int.toNat_natCast]; exact e
          obtain ⟨o1, o2⟩ := tsR_ok hS h2 e'
          have hmr := hM.mr h2 e'
          rw [Int.toNat_natCast] at hmr
          have hz : rhI S (r' : Int) 1 0 0 = 0 := by rw [rhI_cs, if_pos h0, if_pos h1, if_pos h2, if_pos h3, if_pos e']
          obtain ⟨j, rfl⟩ : ∃ t : Nat, inn = (t : Int) := ⟨inn.toNat, by omega⟩
          obtain ⟨D1, c1, c2, c3⟩ := s_M_tellsRow (X := X) (d := d) (D := D0) (by omega) hr o1 o2 hmr
          have hM1 : MH D1 S := hM.scr hS (c3.mo fun _ _ _ z => by unfold mX; omega)
          have f1 : fr mY D D1 := hT.tr (c3.mo fun _ _ _ z => by unfold mY; omega)
          have e41 : D1 41 0 r' = ((tsR S (r' : Int)).length : Int) := (c3 _ _ _ (by omega)).trans hmr.1
          rw [e, if_pos (by decide), c1, if_pos hz]
          simp only [ab_cv]
          rw [b_M_sizeFor_58, Int.toNat_natCast]
          generalize tsR S (r' : Int) = ts at o1 o2 c2 e41 ⊢
          have hbs : ∀ k, bs (ts.take k) < 65536 := fun k => bs_lt (n := 16) fun t ht => o2 t (List.mem_of_mem_take ht)
          have w : ∀ (m k : Nat), k + m = ts.length → at_ X d cd_M_sizeFor 63 [vR 12 0, vI (r' : Int), vI (j : Int), vI (bs (ts.take k) : Int), vI (k : Int)] [] (hp D1) = at_ X d cd_M_sizeFor 95 [vR 12 0, vI (r' : Int), vI (j : Int), vI (bs ts : Int), vI 1] [] (hp D1) := by
            intro m
            induction m with
            | zero =>
              intro k hk
              rw [b_M_sizeFor_63, if_pos (by omega), Int.toNat_natCast, e41, if_pos (by omega), List.take_of_length_le (l := ts) (by omega)]
            | succ m ih =>
              intro k hk
              have ht := o2 _ (say_mem (l := ts) (k := k) (by omega))
              have hp9 : 2 ^ ts.getD k 0 < 2 ^ 16 := zb_p2 ht
              have hb9 := hbs k
              rw [b_M_sizeFor_63, if_pos (by omega), Int.toNat_natCast, e41, if_neg (by omega), if_pos (by omega), Int.toNat_natCast, c2 k (by omega), zb_sl (by omega), zb_or (by omega) (by omega), zb_s (by omega)]
              have := ih (k + 1) (by omega)
              rw [take_getD (l := ts) (by omega), bs_app, ← bs_cons [] (ts.getD k 0), show bs [] = 0 from rfl, Nat.zero_or] at this
              exact this
          have w0 := w ts.length 0 (by omega)
          rw [List.take_zero] at w0
          have w0 : at_ X d cd_M_sizeFor 63 [vR 12 0, vI (r' : Int), vI (j : Int), vI 0, vI 0] [] (hp D1) = _ := w0
          rw [w0]
          have hba : bs ts < 65536 := bs_lt (n := 16) o2
          have key : ∀ (m s : Nat) (D : DD), s + m = 10 → 1 ≤ s → MH D S → TL D ts → D 41 0 r' = (ts.length : Int) → ∃ D', at_ X d cd_M_sizeFor 95 [vR 12 0, vI (r' : Int), vI (j : Int), vI (bs ts : Int), vI (s : Int)] [] (hp D) = some (some (vI (szU (sW S).1 ts j m s)), hp D') ∧ fr tQ D D' := by
            intro m
            induction m with
            | zero =>
              intro s D hs h1 hM ht e41
              rw [b_M_sizeFor_95, if_pos (by omega)]
              exact ⟨D, rfl, fr.rf D⟩
            | succ m ih =>
              intro s D hs h1 hM ht e41
              obtain ⟨D2, b1, b3⟩ := s_M_throughOf (X := X) (d := d) (D := D) (n := s) (inn := j) (ts := ts) (by omega) hS.L hM.l (by omega) (by omega) o1 o2 (by omega) ht
              have hth := thV_lt hS.L (n := s) (by omega) (by omega) o2 (inn := j) (by omega)
              rw [b_M_sizeFor_95, if_neg (by omega), if_pos (by omega), Int.toNat_natCast, e41, b1]
              simp only [ab_ci]
              rw [b_M_sizeFor_116, zb_nd (by omega) (by omega), szU]
              by_cases e : nd (bs ts) (thV (sW S).1 s ts j) = 0
              · rw [if_neg (by omega), if_pos e]
                exact ⟨D2, rfl, b3⟩
              · rw [if_pos (by omega), if_neg e, zb_s (by omega)]
                obtain ⟨D', q1, q2⟩ := ih (s + 1) D2 (by omega) (by omega) (hM.scr hS (b3.mo fun _ _ _ z => tQ_mX z)) (fun k hk => (b3 _ _ _ (by unfold tQ mP; omega)).trans (ht k hk)) ((b3 _ _ _ (by unfold tQ mP; omega)).trans e41)
                exact ⟨D', q1, b3.tr q2⟩
          obtain ⟨D2, b1, b3⟩ := key 9 1 D1 (by omega) (by omega) hM1 c2 e41
          exact ⟨D2, b1, hM1.scr hS (b3.mo fun _ _ _ z => tQ_mX z), f1.tr (b3.mo fun _ _ _ z => mX_mY (tQ_mX z))⟩
        · have hz : rhI S (r' : Int) 1 0 0 = -3 := by rw [rhI_cs, if_pos h0, if_pos h1, if_pos h2, if_pos h3, Int.toNat_natCast, e]; rfl
          rw [e, if_neg (by decide), hz]
          exact ⟨D0, rfl, hM, hT⟩
      · have hz : rhI S (r : Int) 1 0 0 = -6 := by rw [rhI_cs, if_pos h0, if_pos h1, if_neg h2]
        rw [if_neg (fun z => h2 (w1.mp z)), hz]
        exact ⟨D0, rfl, hM, hT⟩
    · rw [isI_f hi, if_neg (by decide), if_neg hi]
      exact ⟨D0, rfl, hM, hT⟩
  · have hz : rhI S x 1 0 0 = -2 := by rw [rhI_cs, if_neg h0]
    rw [if_neg h0, if_pos rfl, hz]
    by_cases hi : 0 ≤ inn ∧ inn < ((sW S).1 50 : Int)
    · rw [if_pos hi]
      exact ⟨D0, rfl, hM, hT⟩
    · rw [if_neg hi]
      exact ⟨D0, rfl, hM, hT⟩
end
