/-! calls: fresh, kept, less, enough, farBack, through, sizeFor -/
section
theorem tsR_ok {S : St} (hS : SOK S) {x : Int} (h1 : rrI S x = 0) (h2 : atI (sW S).1 (rwD S x.toNat).2 = 1) : (tsR S x).length ≤ 40 ∧ ∀ t ∈ tsR S x, t < 16 := by
  obtain ⟨r, rfl, hr, er⟩ := rrI_0 h1
  have hro := hS.2.2.1 r hr
  rw [er] at hro
  have h16 := hS.L.1.1
  refine ⟨?_, fun t ht => ?_⟩
  · rw [tsR_len, Int.toNat_natCast]; exact hro.2.1
  · have := tsR_lt h2 t ht
    omega
theorem MH.mr {D : DD} {S : St} (hM : MH D S) {x : Int} (h1 : rrI S x = 0) (h2 : atI (sW S).1 (rwD S x.toNat).2 = 1) : MR D x.toNat (tsR S x) := by
  obtain ⟨r, rfl, hr, er⟩ := rrI_0 h1
  have hrc := hM.2.2.1 r hr
  rw [er] at hrc
  rw [Int.toNat_natCast] at h2 ⊢
  obtain ⟨a1, a2, a3⟩ := hrc
  refine ⟨?_, fun k hk => ?_⟩
  · rw [a2, tsR_len, Int.toNat_natCast]
  · rw [tsR_len, Int.toNat_natCast] at hk
    have := atI_1 h2 _ (getD_mem hk)
    rw [a3 k hk]
    unfold tsR
    rw [Int.toNat_natCast, tl_get hk]
    omega
def f_fresh (S : St) (x n law : Int) : Int × St := (if rhI S x n law 2 = 0 then (frN (tsR S x) n.toNat law : Int) else rhI S x n law 2, S)
def f_kept (S : St) (x n law : Int) : Int × St := (if rhI S x n law 1 = 0 then (bs (cL (nrV (decide (law = 0)) n.toNat (tsR S x)).1) : Int) else rhI S x n law 1, S)
def lsU (ts : List Nat) : Nat → Nat → Int
  | 0, _ => -1
  | m + 1, s => if frN ts s 1 < frN ts (s + 1) 1 then (s : Int) else lsU ts m (s + 1)
def f_less (S : St) (x : Int) : Int × St := (if rhI S x 1 1 1 = 0 then lsU (tsR S x) 8 1 else rhI S x 1 1 1, S)
def enU (ts : List Nat) (most law : Int) : Nat → Nat → Int
  | 0, _ => -1
  | m + 1, s => if (frN ts s law : Int) ≤ most then (s : Int) else enU ts most law m (s + 1)
def f_enough (S : St) (x most law : Int) : Int × St := (if rhI S x 1 law 2 = 0 then enU (tsR S x) most law 9 1 else rhI S x 1 law 2, S)
def f_farBack (S : St) (x i : Int) : Int × St := (if rrI S x = 0 then (if 0 ≤ i ∧ i < ((tsR S x).length : Int) then (if atI (sW S).1 (rwD S x.toNat).2 = 1 then fbU (tsR S x) i.toNat i.toNat 0 else -3) else -7) else rrI S x, S)
def f_through (S : St) (x n inn : Int) : Int × St := (if 0 ≤ inn ∧ inn < ((sW S).1 50 : Int) then (if rhI S x n 0 0 = 0 then (thV (sW S).1 n.toNat (tsR S x) inn.toNat : Int) else rhI S x n 0 0) else -2, S)
def szU (L : Nat → Nat) (ts : List Nat) (inn : Nat) : Nat → Nat → Int
  | 0, _ => -1
  | m + 1, s => if nd (bs ts) (thV L s ts inn) = 0 then (s : Int) else szU L ts inn m (s + 1)
def f_sizeFor (S : St) (x inn : Int) : Int × St := (if 0 ≤ inn ∧ inn < ((sW S).1 50 : Int) then (if rhI S x 1 0 0 = 0 then szU (sW S).1 (tsR S x) inn.toNat 9 1 else rhI S x 1 0 0) else -2, S)
theorem C_fresh {X : Nat × (Nat → Int)} {d : Nat} {D : DD} {S : St} {x n law : Int} (hd : 16 ≤ d) (hS : SOK S) (hC : CH D S) : cRes X d m_N_fresh [vI x, vI n, vI law] D (f_fresh S x n law) := by
  obtain ⟨d, rfl⟩ : ∃ e, d = e + 1 := ⟨d - 1, by omega⟩
  unfold cRes f_fresh
  obtain ⟨D1, g1, g2, g3⟩ := s_C_refHear (X := X) (d := d) (D := D) (x := x) (size := n) (law := law) (last := 2) (by omega) hS hC
  have hC1 : CH D1 S := hC.scr hS (g3.mo fun _ _ _ z => hP_cX z)
  have f1 : fr cY D D1 := g3.mo fun _ _ _ z => cX_cY (hP_cX z)
  rw [e_N_fresh, b_N_fresh_0, g1]
  simp only [ab_ci]
  rw [b_N_fresh_8]
  by_cases h : rhI S x n law 2 = 0
  · obtain ⟨a1, a2, a3, a4⟩ := rhI_0 h
    obtain ⟨o1, o2⟩ := tsR_ok hS a2 a4
    obtain ⟨m, rfl⟩ : ∃ t : Nat, n = (t : Int) := ⟨n.toNat, by omega⟩
    obtain ⟨D2, b1, _, b3⟩ := s_C_newOnes (X := X) (d := d) (D := D1) (n := m) (ts := tsR S x) (law := law) (by omega) (by omega) (by omega) o1 o2 (g2 h)
    rw [if_pos h, if_pos h, b1]
    simp only [ab_ci]
    rw [b_N_fresh_29, Int.toNat_natCast]
    exact ⟨D2, rfl, hC1.scr hS (b3.mo fun _ _ _ z => hQ_cX z), f1.tr (b3.mo fun _ _ _ z => cX_cY (hQ_cX z))⟩
  · rw [if_neg h, if_neg h, b_N_fresh_29]
    exact ⟨D1, rfl, hC1, f1⟩
theorem C_kept {X : Nat × (Nat → Int)} {d : Nat} {D : DD} {S : St} {x n law : Int} (hd : 16 ≤ d) (hS : SOK S) (hC : CH D S) : cRes X d m_N_kept [vI x, vI n, vI law] D (f_kept S x n law) := by
  obtain ⟨d, rfl⟩ : ∃ e, d = e + 1 := ⟨d - 1, by omega⟩
  unfold cRes f_kept
  obtain ⟨D1, g1, g2, g3⟩ := s_C_refHear (X := X) (d := d) (D := D) (x := x) (size := n) (law := law) (last := 1) (by omega) hS hC
  have hC1 : CH D1 S := hC.scr hS (g3.mo fun _ _ _ z => hP_cX z)
  have f1 : fr cY D D1 := g3.mo fun _ _ _ z => cX_cY (hP_cX z)
  rw [e_N_kept, b_N_kept_0, g1]
  simp only [ab_ci]
  rw [b_N_kept_8]
  by_cases h : rhI S x n law 1 = 0
  · obtain ⟨a1, a2, a3, a4⟩ := rhI_0 h
    obtain ⟨o1, o2⟩ := tsR_ok hS a2 a4
    obtain ⟨m, rfl⟩ : ∃ t : Nat, n = (t : Int) := ⟨n.toNat, by omega⟩
    obtain ⟨D2, b1, b2, b3⟩ := s_C_newOnes (X := X) (d := d) (D := D1) (n := m) (ts := tsR S x) (law := law) (by omega) (by omega) (by omega) o1 o2 (g2 h)
    rw [if_pos h, if_pos h, b1]
    simp only [ab_ci]
    rw [b_N_kept_27, Int.toNat_natCast, b2 (by omega)]
    exact ⟨D2, rfl, hC1.scr hS (b3.mo fun _ _ _ z => hQ_cX z), f1.tr (b3.mo fun _ _ _ z => cX_cY (hQ_cX z))⟩
  · rw [if_neg h, if_neg h]
    exact ⟨D1, rfl, hC1, f1⟩
theorem C_less {X : Nat × (Nat → Int)} {d : Nat} {D : DD} {S : St} {x : Int} (hd : 16 ≤ d) (hS : SOK S) (hC : CH D S) : cRes X d m_N_less [vI x] D (f_less S x) := by
  obtain ⟨d, rfl⟩ : ∃ e, d = e + 1 := ⟨d - 1, by omega⟩
  unfold cRes f_less
  obtain ⟨D1, g1, g2, g3⟩ := s_C_refHear (X := X) (d := d) (D := D) (x := x) (size := 1) (law := 1) (last := 1) (by omega) hS hC
  have hC1 : CH D1 S := hC.scr hS (g3.mo fun _ _ _ z => hP_cX z)
  have f1 : fr cY D D1 := g3.mo fun _ _ _ z => cX_cY (hP_cX z)
  rw [e_N_less, b_N_less_0, g1]
  simp only [ab_ci]
  rw [b_N_less_8]
  by_cases h : rhI S x 1 1 1 = 0
  · obtain ⟨a1, a2, a3, a4⟩ := rhI_0 h
    obtain ⟨o1, o2⟩ := tsR_ok hS a2 a4
    rw [if_pos h, if_pos h]
    have key : ∀ (m s : Nat) (D : DD), s + m = 9 → 1 ≤ s → HR D (tsR S x) → ∃ D', at_ X d cd_N_less 17 [vR 11 0, vU, vU, vI (s : Int)] [] (hp D) = some (some (vI (lsU (tsR S x) m s)), hp D') ∧ fr hQ D D' := by
      intro m
      induction m with
      | zero =>
        intro s D hs h1 hr
        rw [b_N_less_17, if_pos (by omega)]
        exact ⟨D, rfl, fr.rf D⟩
      | succ m ih =>
        intro s D hs h1 hr
        obtain ⟨D2, b1, _, b3⟩ := s_C_newOnes (X := X) (d := d) (D := D) (n := s) (ts := tsR S x) (law := 1) (by omega) h1 (by omega) o1 o2 hr
        obtain ⟨D3, c1, _, c3⟩ := s_C_newOnes (X := X) (d := d) (D := D2) (n := s + 1) (ts := tsR S x) (law := 1) (by omega) (by omega) (by omega) o1 o2 (hr.fq b3)
        rw [b_N_less_17, if_neg (by omega), b1]
        simp only [ab_ci]
        rw [b_N_less_32, zb_s (by omega), c1]
        simp only [ab_ci]
        rw [b_N_less_43, lsU]
        by_cases e : frN (tsR S x) s 1 < frN (tsR S x) (s + 1) 1
        · rw [if_neg (by omega), if_pos e]
          exact ⟨D3, rfl, b3.tr c3⟩
        · rw [if_pos (by omega), if_neg e, zb_s (by omega)]
          obtain ⟨D', q1, q2⟩ := ih (s + 1) D3 (by omega) (by omega) ((hr.fq b3).fq c3)
          exact ⟨D', q1, (b3.tr c3).tr q2⟩
    obtain ⟨D2, b1, b3⟩ := key 8 1 D1 (by omega) (by omega) (g2 h)
    exact ⟨D2, b1, hC1.scr hS (b3.mo fun _ _ _ z => hQ_cX z), f1.tr (b3.mo fun _ _ _ z => cX_cY (hQ_cX z))⟩
  · rw [if_neg h, if_neg h]
    exact ⟨D1, rfl, hC1, f1⟩
theorem C_enough {X : Nat × (Nat → Int)} {d : Nat} {D : DD} {S : St} {x most law : Int} (hd : 16 ≤ d) (hS : SOK S) (hC : CH D S) : cRes X d m_N_enough [vI x, vI most, vI law] D (f_enough S x most law) := by
  obtain ⟨d, rfl⟩ : ∃ e, d = e + 1 := ⟨d - 1, by omega⟩
  unfold cRes f_enough
  obtain ⟨D1, g1, g2, g3⟩ := s_C_refHear (X := X) (d := d) (D := D) (x := x) (size := 1) (law := law) (last := 2) (by omega) hS hC
  have hC1 : CH D1 S := hC.scr hS (g3.mo fun _ _ _ z => hP_cX z)
  have f1 : fr cY D D1 := g3.mo fun _ _ _ z => cX_cY (hP_cX z)
  rw [e_N_enough, b_N_enough_0, g1]
  simp only [ab_ci]
  rw [b_N_enough_8]
  by_cases h : rhI S x 1 law 2 = 0
  · obtain ⟨a1, a2, a3, a4⟩ := rhI_0 h
    obtain ⟨o1, o2⟩ := tsR_ok hS a2 a4
    rw [if_pos h, if_pos h]
    have key : ∀ (m s : Nat) (D : DD), s + m = 10 → 1 ≤ s → HR D (tsR S x) → ∃ D', at_ X d cd_N_enough 21 [vR 11 0, vU, vI most, vI law, vU, vI (s : Int)] [] (hp D) = some (some (vI (enU (tsR S x) most law m s)), hp D') ∧ fr hQ D D' := by
      intro m
      induction m with
      | zero =>
        intro s D hs h1 hr
        rw [b_N_enough_21, if_pos (by omega)]
        exact ⟨D, rfl, fr.rf D⟩
      | succ m ih =>
        intro s D hs h1 hr
        obtain ⟨D2, b1, _, b3⟩ := s_C_newOnes (X := X) (d := d) (D := D) (n := s) (ts := tsR S x) (law := law) (by omega) h1 (by omega) o1 o2 hr
        rw [b_N_enough_21, if_neg (by omega), b1]
        simp only [ab_ci]
        rw [b_N_enough_38, enU]
        by_cases e : (frN (tsR S x) s law : Int) ≤ most
        · rw [if_neg (by omega), if_pos e]
          exact ⟨D2, rfl, b3⟩
        · rw [if_pos (by omega), if_neg e, zb_s (by omega)]
          obtain ⟨D', q1, q2⟩ := ih (s + 1) D2 (by omega) (by omega) (hr.fq b3)
          exact ⟨D', q1, b3.tr q2⟩
    obtain ⟨D2, b1, b3⟩ := key 9 1 D1 (by omega) (by omega) (g2 h)
    exact ⟨D2, b1, hC1.scr hS (b3.mo fun _ _ _ z => hQ_cX z), f1.tr (b3.mo fun _ _ _ z => cX_cY (hQ_cX z))⟩
  · rw [if_neg h, if_neg h]
    exact ⟨D1, rfl, hC1, f1⟩
theorem C_farBack {X : Nat × (Nat → Int)} {d : Nat} {D : DD} {S : St} {x i : Int} (hd : 16 ≤ d) (hS : SOK S) (hC : CH D S) : cRes X d m_N_farBack [vI x, vI i] D (f_farBack S x i) := by
  obtain ⟨d, rfl⟩ : ∃ e, d = e + 1 := ⟨d - 1, by omega⟩
  unfold cRes f_farBack
  rw [e_N_farBack, b_N_farBack_0, s_C_refusalOfRow (by omega) hC]
  simp only [ab_ci]
  rw [b_N_farBack_5]
  by_cases h1 : rrI S x = 0
  · obtain ⟨r, rfl, hr, er⟩ := rrI_0 h1
    have hrc := hC.2.2.1 r hr
    have hro := hS.2.2.1 r hr
    rw [er] at hrc hro
    rw [if_pos h1, if_pos h1]
    by_cases h2 : i < 0
    · rw [if_pos h2, if_neg (by omega)]
      exact ⟨D, rfl, hC, fr.rf D⟩
    rw [if_neg h2, if_pos (by omega), Int.toNat_natCast, R21 hr]
    simp only [ab_rf]
    rw [b_N_farBack_23, hrc.1, tsR_len, Int.toNat_natCast]
    by_cases h3 : i < ((rwD S r).2.length : Int)
    · obtain ⟨k, rfl⟩ : ∃ t : Nat, i = (t : Int) := ⟨i.toNat, by omega⟩
      obtain ⟨D1, g1, g2, g3⟩ := s_C_takeRow (X := X) (d := d) (D := D) (r := r) (q := 1) (by omega) hS.L hC.l hrc hro
      have hC1 : CH D1 S := hC.scr hS (g3.mo fun _ _ _ z => hP_cX z)
      have f1 : fr cY D D1 := g3.mo fun _ _ _ z => cX_cY (hP_cX z)
      rw [if_pos h3, if_pos (show (0 : Int) ≤ (r : Int) ∧ (r : Int) < 4 by omega), Int.toNat_natCast, R21 hr, if_pos (show (0 : Int) ≤ (k : Int) ∧ (k : Int) < ((rwD S r).2.length : Int) by omega)]
      simp only [ab_rf]
      rw [b_N_farBack_42, g1]
      simp only [ab_ci]
      rw [b_N_farBack_49]
      rcases atI_01 (sW S).1 (rwD S r).2 with e | e
      · obtain ⟨o1, o2⟩ := tsR_ok hS h1 (by rw [Int.toNat_natCast]; exact e)
        have hts : HR D1 (tsR S (r : Int)) := by
          have := g2 e
          unfold tsR
          rw [Int.toNat_natCast]
          exact this
        rw [e, if_neg (by decide), s_C_unlike (ts := tsR S (r : Int)) (by omega) o1 o2 (by rw [tsR_len, Int.toNat_natCast]; omega) hts]
        simp only [ab_ci]
        rw [b_N_farBack_60, if_pos trivial]
        exact ⟨D1, rfl, hC1, f1⟩
      · rw [e, if_pos rfl, if_neg (by decide)]
        exact ⟨D1, rfl, hC1, f1⟩
    · rw [if_neg h3, if_neg (by omega)]
      exact ⟨D, rfl, hC, fr.rf D⟩
  · rw [if_neg h1, if_neg h1]
    exact ⟨D, rfl, hC, fr.rf D⟩
theorem C_through {X : Nat × (Nat → Int)} {d : Nat} {D : DD} {S : St} {x n inn : Int} (hd : 16 ≤ d) (hS : SOK S) (hC : CH D S) : cRes X d m_N_through [vI x, vI n, vI inn] D (f_through S x n inn) := by
  obtain ⟨d, rfl⟩ : ∃ e, d = e + 1 := ⟨d - 1, by omega⟩
  have h10 := hS.L.1.2.2.2.1
  unfold cRes f_through
  rw [e_N_through, b_N_through_0, s_C_isInn (by omega) hC.l]
  simp only [ab_ci]
  rw [b_N_through_9]
  by_cases h0 : 0 ≤ inn ∧ inn < ((sW S).1 50 : Int)
  · obtain ⟨D1, g1, g2, g3⟩ := s_C_refHear (X := X) (d := d) (D := D) (x := x) (size := n) (law := 0) (last := 0) (by omega) hS hC
    have hC1 : CH D1 S := hC.scr hS (g3.mo fun _ _ _ z => hP_cX z)
    have f1 : fr cY D D1 := g3.mo fun _ _ _ z => cX_cY (hP_cX z)
    rw [isI_t h0, if_pos (by decide), if_pos h0, g1]
    simp only [ab_ci]
    rw [b_N_through_23]
    by_cases h : rhI S x n 0 0 = 0
    · obtain ⟨a1, a2, a3, a4⟩ := rhI_0 h
      obtain ⟨o1, o2⟩ := tsR_ok hS a2 a4
      obtain ⟨m, rfl⟩ : ∃ t : Nat, n = (t : Int) := ⟨n.toNat, by omega⟩
      obtain ⟨j, rfl⟩ : ∃ t : Nat, inn = (t : Int) := ⟨inn.toNat, by omega⟩
      obtain ⟨D2, b1, b3⟩ := s_C_through (X := X) (d := d) (D := D1) (n := m) (q := 1) (inn := j) (ts := tsR S x) (by omega) hS.L hC1.l (by omega) (by omega) o1 o2 (by omega) (g2 h)
      rw [if_pos h, if_pos h, b1]
      simp only [ab_ci]
      rw [b_N_through_48, Int.toNat_natCast, Int.toNat_natCast]
      exact ⟨D2, rfl, hC1.scr hS (b3.mo fun _ _ _ z => hQ_cX z), f1.tr (b3.mo fun _ _ _ z => cX_cY (hQ_cX z))⟩
    · rw [if_neg h, if_neg h, b_N_through_48]
      exact ⟨D1, rfl, hC1, f1⟩
  · rw [isI_f h0, if_neg (by decide), if_neg h0]
    exact ⟨D, rfl, hC, fr.rf D⟩
theorem C_sizeFor {X : Nat × (Nat → Int)} {d : Nat} {D : DD} {S : St} {x inn : Int} (hd : 16 ≤ d) (hS : SOK S) (hC : CH D S) : cRes X d m_N_sizeFor [vI x, vI inn] D (f_sizeFor S x inn) := by
  obtain ⟨d, rfl⟩ : ∃ e, d = e + 1 := ⟨d - 1, by omega⟩
  have h10 := hS.L.1.2.2.2.1
  unfold cRes f_sizeFor
  rw [e_N_sizeFor, b_N_sizeFor_0, s_C_isInn (by omega) hC.l]
  simp only [ab_ci]
  rw [b_N_sizeFor_9]
  by_cases h0 : 0 ≤ inn ∧ inn < ((sW S).1 50 : Int)
  · obtain ⟨D1, g1, g2, g3⟩ := s_C_refHear (X := X) (d := d) (D := D) (x := x) (size := 1) (law := 0) (last := 0) (by omega) hS hC
    have hC1 : CH D1 S := hC.scr hS (g3.mo fun _ _ _ z => hP_cX z)
    have f1 : fr cY D D1 := g3.mo fun _ _ _ z => cX_cY (hP_cX z)
    rw [isI_t h0, if_pos (by decide), if_pos h0, g1]
    simp only [ab_ci]
    rw [b_N_sizeFor_23]
    by_cases h : rhI S x 1 0 0 = 0
    · obtain ⟨a1, a2, a3, a4⟩ := rhI_0 h
      obtain ⟨o1, o2⟩ := tsR_ok hS a2 a4
      obtain ⟨j, rfl⟩ : ∃ t : Nat, inn = (t : Int) := ⟨inn.toNat, by omega⟩
      have hbs : bs (tsR S x) < 65536 := bs_lt (n := 16) o2
      rw [if_pos h, if_pos h, s_C_inRow (by omega) o1 o2 (g2 h)]
      simp only [ab_ci]
      rw [b_N_sizeFor_37, Int.toNat_natCast]
      have key : ∀ (m s : Nat) (D : DD), s + m = 10 → 1 ≤ s → CH D S → HR D (tsR S x) → ∃ D', at_ X d cd_N_sizeFor 42 [vR 11 0, vU, vI (j : Int), vU, vI (bs (tsR S x) : Int), vI (s : Int)] [] (hp D) = some (some (vI (szU (sW S).1 (tsR S x) j m s)), hp D') ∧ fr hQ D D' := by
        intro m
        induction m with
        | zero =>
          intro s D hs h1 hC hr
          rw [b_N_sizeFor_42, if_pos (by omega)]
          exact ⟨D, rfl, fr.rf D⟩
        | succ m ih =>
          intro s D hs h1 hC hr
          obtain ⟨D2, b1, b3⟩ := s_C_through (X := X) (d := d) (D := D) (n := s) (q := 1) (inn := j) (ts := tsR S x) (by omega) hS.L hC.l (by omega) (by omega) o1 o2 (by omega) hr
          have hth := thV_lt hS.L (n := s) (by omega) (by omega) o2 (inn := j) (by omega)
          rw [b_N_sizeFor_42, if_neg (by omega), b1]
          simp only [ab_ci]
          rw [b_N_sizeFor_65, zb_nd (by omega) (by omega), szU]
          by_cases e : nd (bs (tsR S x)) (thV (sW S).1 s (tsR S x) j) = 0
          · rw [if_neg (by omega), if_pos e]
            exact ⟨D2, rfl, b3⟩
          · rw [if_pos (by omega), if_neg e, zb_s (by omega)]
            obtain ⟨D', q1, q2⟩ := ih (s + 1) D2 (by omega) (by omega) (hC.scr hS (b3.mo fun _ _ _ z => hQ_cX z)) (hr.fq b3)
            exact ⟨D', q1, b3.tr q2⟩
      obtain ⟨D2, b1, b3⟩ := key 9 1 D1 (by omega) (by omega) hC1 (g2 h)
      exact ⟨D2, b1, hC1.scr hS (b3.mo fun _ _ _ z => hQ_cX z), f1.tr (b3.mo fun _ _ _ z => cX_cY (hQ_cX z))⟩
    · rw [if_neg h, if_neg h]
      exact ⟨D1, rfl, hC1, f1⟩
  · rw [isI_f h0, if_neg (by decide), if_neg h0]
    exact ⟨D, rfl, hC, fr.rf D⟩
end
