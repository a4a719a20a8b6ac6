/-! men and loads: the reference's calls -/
section
theorem mkS_all {s : Nat} (hs : s < 65536) {P : Nat → Bool} (h : ∀ i, i < pc s → P i = true) : mkS s P = s := (mkS_ext (fun t ht => by
    obtain ⟨j, j1, j2⟩ := mem_getD ((els_mem hs).mpr ht)
    exact ⟨j, j1, j2⟩) (fun i hi => by rw [h i hi]; exact (th_mem hs hi).2)).symm
theorem mkS_no {s : Nat} {P : Nat → Bool} (h : ∀ i, i < pc s → P i = false) : mkS s P = 0 := bit0 fun t => by
  cases hx : (mkS s P).testBit t with
  | false => rfl
  | true =>
    obtain ⟨i, i1, i2, _⟩ := mkS_bit.mp hx
    rw [h i i1] at i2
    cases i2
theorem full_D {s B : Nat} {dbl : Int} (hs : s < 65536) (hB : (dbl = 0 ∧ B = 2) ∨ (dbl ≠ 0 ∧ B = 3)) : mkS s (fun i => decide (dgB B (B ^ pc s - 1) i = 1)) = (if dbl = 0 then s else 0) ∧ mkS s (fun i => decide (dgB B (B ^ pc s - 1) i = 2)) = (if dbl = 0 then 0 else s) := by
  have hB2 : 2 ≤ B := by omega
  have hd : ∀ i, i < pc s → dgB B (B ^ pc s - 1) i = B - 1 := fun i hi => dg_all hB2 (pc s) i hi
  rcases hB with ⟨h1, h2⟩ | ⟨h1, h2⟩
  · rw [if_pos h1, if_pos h1]
    exact ⟨mkS_all hs fun i hi => by rw [hd i hi]; exact decide_eq_true (by omega), mkS_no fun i hi => by rw [hd i hi]; exact decide_eq_false (by omega)⟩
  · rw [if_neg h1, if_neg h1]
    exact ⟨mkS_no fun i hi => by rw [hd i hi]; exact decide_eq_false (by omega), mkS_all hs fun i hi => by rw [hd i hi]; exact decide_eq_true (by omega)⟩
theorem s_M_refuses {X : Nat × (Nat → Int)} {d : Nat} {D : DD} {S : St} {set e dbl : Int} (hd : 4 ≤ d) (hS : SOK S) (hM : MH D S) : ev X d m_M_refusesMen [vR 12 0, vI set, vI e, vI dbl] (hp D) = some (some (vI (rfM S set e dbl)), hp D) := by
  obtain ⟨d, rfl⟩ : ∃ e, d = e + 1 := ⟨d - 1, by omega⟩
  have hp9 : 2 ^ (sW S).1 0 ≤ 2 ^ 16 := p2le hS.L.1.1
  unfold rfM
  rw [e_M_refusesMen, b_M_refusesMen_0, s_M_isSet (by omega) hS.L hM.l]
  simp only [ab_ci]
  rw [b_M_refusesMen_5]
  by_cases hs : 0 ≤ set ∧ set < ((2 ^ (sW S).1 0 : Nat) : Int)
  · rw [setI_t hs, if_neg (by decide), if_pos hs, s_M_within (by omega)]
    simp only [ab_ci]
    rw [b_M_refusesMen_17]
    by_cases hn : 1 ≤ e ∧ e ≤ 9
    · rw [if_pos hn, if_pos (by decide), if_pos hn]
      by_cases hb : dbl = 0
      · rw [if_pos hb, if_pos hb]
      · obtain ⟨s, rfl⟩ : ∃ t : Nat, set = (t : Int) := ⟨set.toNat, by omega⟩
        rw [if_neg hb, if_neg hb, s_M_bitsOf (by omega) (by omega), Int.toNat_natCast]
        simp only [ab_ci]
        rw [b_M_refusesMen_31]
        by_cases c8 : pc s ≤ 8
        · rw [if_pos (by omega), if_pos c8]
        · rw [if_neg (by omega), if_neg c8]
    · rw [if_neg hn, if_neg (by decide), if_neg hn]
  · rw [setI_f hs, if_pos rfl, if_neg hs]
theorem M_men {X : Nat × (Nat → Int)} {d : Nat} {D : DD} {S : St} {set e dbl : Int} (hd : 20 ≤ d) (hS : SOK S) (hM : MH D S) : mRes X d m_M_men [vI set, vI e, vI dbl] D (f_men S set e dbl) := by
  obtain ⟨d, rfl⟩ : ∃ e, d = e + 1 := ⟨d - 1, by omega⟩
  have hM := hM.th hS
  have hT9 := th_mY D
  unfold mRes f_men
  rw [e_M_men, b_M_men_0]
  generalize u3 D 12 0 0 0 = D0 at hM hT9 ⊢
  rw [s_M_refuses (by omega) hS hM]
  simp only [ab_ci]
  rw [b_M_men_12]
  by_cases c : rfM S set e dbl = 0
  · obtain ⟨h1, h2, h3⟩ := rfM_0 c
    have hp9 : 2 ^ (sW S).1 0 ≤ 2 ^ 16 := p2le hS.L.1.1
    obtain ⟨s, rfl⟩ : ∃ t : Nat, set = (t : Int) := ⟨set.toNat, by omega⟩
    obtain ⟨n, rfl⟩ : ∃ t : Nat, e = (t : Int) := ⟨e.toNat, by omega⟩
    rw [Int.toNat_natCast] at h3
    have hs9 : s < 65536 := by omega
    have hBx : ∃ B, (dbl = 0 ∧ B = 2) ∨ (dbl ≠ 0 ∧ B = 3 ∧ pc s ≤ 8) := by
      by_cases z : dbl = 0
      · exact ⟨2, Or.inl ⟨z, rfl⟩⟩
      · exact ⟨3, Or.inr ⟨z, rfl, h3 z⟩⟩
    obtain ⟨B, hB⟩ := hBx
    obtain ⟨D1, a1, a2, a3, a4, a5⟩ := s_M_laysMen (X := X) (d := d) (D := D0) (s := s) (e := n) (by omega) hS.L hM.l (by omega) (by omega) hB
    obtain ⟨f1, f2⟩ := full_D (dbl := dbl) (B := B) hs9 (by omega)
    have hpc := pc_le s
    have hN0 : 0 < B ^ pc s := Nat.pow_pos (by omega)
    have hN : B ^ pc s ≤ 65536 := by
      rcases hB with ⟨_, rfl⟩ | ⟨_, rfl, h8⟩
      · exact Nat.le_trans (Nat.pow_le_pow_right (by decide) hpc) (by decide)
      · exact Nat.le_trans (Nat.pow_le_pow_right (by decide) h8) (by decide)
    have ea : mnQ (sW S).1 n B s (B ^ pc s - 1) = mnS S (s : Int) (n : Int) dbl := by
      unfold mnQ mnS
      rw [f1, f2, Int.toNat_natCast, Int.toNat_natCast]
    rw [if_pos c, if_pos c, a1]
    simp only [ab_ci]
    rw [b_M_men_35, if_pos (by omega), Int.toNat_natCast, a4 _ (by omega), ea]
    exact ⟨D1, rfl, hM.scr hS (a5.mo fun _ _ _ z => hM_mX z), hT9.tr (a5.mo fun _ _ _ z => mX_mY (hM_mX z))⟩
  · rw [if_neg c, if_neg c]
    exact ⟨D0, rfl, hM, hT9⟩
theorem s_M_loads {X : Nat × (Nat → Int)} {d : Nat} {D : DD} {L : Nat → Nat} {s e B a : Nat} {dbl : Int} (hd : 6 ≤ d) (hL : LOK L) (hs9 : s < 65536) (he : 1 ≤ e) (hB : (dbl = 0 ∧ B = 2) ∨ (dbl ≠ 0 ∧ B = 3 ∧ pc s ≤ 8)) (hN : B ^ pc s ≤ 65536) (hT : TH D s B) (h35 : ∀ x, x < 2 ^ pc s → D 35 0 x = if dcP (Ld L e (mkS s x.testBit)) = true then 1 else 0) (h32 : ∀ c, c < B ^ pc s → D 32 0 c = (mnQ L e B s c : Int)) (ha : a < 100) : ∀ (r m c : Nat) (v9 : ab_V), m + r = a → c < B ^ pc s → r + 1 ≤ mnQ L e B s c → at_ X d cd_M_load 56 [vR 12 0, vU, vU, vI dbl, vI (a : Int), vU, vI (c : Int), vI (m : Int), vU, v9] [] (hp D) = some (some (vI (ldF L e r (mkS s (fun i => decide (dgB B c i = 1))) (mkS s (fun i => decide (dgB B c i = 2))) (mnQ L e B s c) : Int)), hp D) := by
  have hB2 : 2 ≤ B := by omega
  have hB3 : B = 2 ∨ B = 3 := by omega
  have hB4 : B = 2 ∨ (B = 3 ∧ pc s ≤ 8) := by omega
  have hB5 : (dbl = 0 ∧ B = 2) ∨ (dbl ≠ 0 ∧ B = 3) := by omega
  have hpc := pc_le s
  have h2p : 2 ^ pc s ≤ 2 ^ 16 := p2le hpc
  have hok : ∀ c, _ := fun c => mnD_ok (c := c) hL he hs9 hB4
  -- the least load of the reference is the least load
  have one : ∀ c, c < B ^ pc s → 1 ≤ mnQ L e B s c → ∃ y, (1 ≤ y ∧ y < 2 ^ pc s ∧ (∀ i, i < pc s → y.testBit i = true → 1 ≤ dgB B c i) ∧ Ld L e (mkS s y.testBit) ∧ mnQ L e B s (woB B (pc s) y c) + 1 = mnQ L e B s c) ∧ (∀ z, z < y → ¬ ((∀ i, i < pc s → z.testBit i = true → 1 ≤ dgB B c i) ∧ Ld L e (mkS s z.testBit) ∧ mnQ L e B s (woB B (pc s) z c) + 1 = mnQ L e B s c)) ∧ lsN (LX L e (mnQ L e B s c - 1) (mkS s (fun i => decide (dgB B c i = 1))) (mkS s (fun i => decide (dgB B c i = 2)))) = mkS s y.testBit := by
    intro c hc hm
    obtain ⟨o1, o2, o3⟩ := hok c
    have hdl : ∀ i, dgB B c i ≤ 2 := fun i => by
      have : dgB B c i < B := Nat.mod_lt _ (by omega)
      omega
    -- any load that leaves less is one of them
    have iff9 : ∀ y, y < 2 ^ pc s → (∀ i, i < pc s → y.testBit i = true → 1 ≤ dgB B c i) → Ld L e (mkS s y.testBit) → (mnQ L e B s (woB B (pc s) y c) + 1 = mnQ L e B s c ↔ Cv L e (mnQ L e B s c - 1) (rO (mkS s (fun i => decide (dgB B c i = 1))) (mkS s (fun i => decide (dgB B c i = 2))) (mkS s y.testBit)) (nd (mkS s (fun i => decide (dgB B c i = 2))) (mkS s y.testBit))) := by
      intro y hy hle hld
      obtain ⟨k1, k2⟩ := rest_D hB3 hle
      obtain ⟨p1, p2, p3'⟩ := hok (woB B (pc s) y c)
      rw [← k1, ← k2]
      constructor
      · intro z
        rw [show mnQ L e B s c - 1 = mnQ L e B s (woB B (pc s) y c) by omega]
        exact p2
      · intro z
        have a1 : mnQ L e B s (woB B (pc s) y c) ≤ mnQ L e B s c - 1 := by
          apply Classical.byContradiction
          intro w
          exact p3' _ (by omega) z
        have a2 : mnQ L e B s c ≤ mnQ L e B s (woB B (pc s) y c) + 1 := by
          apply Classical.byContradiction
          intro w
          refine o3 (mnQ L e B s (woB B (pc s) y c) + 1) (by omega) (Cv_cons.mpr ⟨_, hld, ?_⟩)
          rw [← k1, ← k2]
          exact p2
        omega
    have dense : ∀ x, LX L e (mnQ L e B s c - 1) (mkS s (fun i => decide (dgB B c i = 1))) (mkS s (fun i => decide (dgB B c i = 2))) x → ∃ y, y < 2 ^ pc s ∧ (∀ i, i < pc s → y.testBit i = true → 1 ≤ dgB B c i) ∧ x = mkS s y.testBit := by
      intro x hx
      have hyb : ∀ i, (bs ((kL (pc s)).filter (fun i => x.testBit ((els s).getD i 0)))).testBit i = true ↔ i < pc s ∧ x.testBit ((els s).getD i 0) = true := fun i => by
        rw [bs_bit, decide_eq_true_iff, List.mem_filter, kL_mem]
      have hylt : bs ((kL (pc s)).filter (fun i => x.testBit ((els s).getD i 0))) < 2 ^ pc s := bs_lt fun t ht => kL_mem.mp (List.mem_filter.mp ht).1
      refine ⟨_, hylt, fun i hi h => ?_, mkS_ext (fun t ht => ?_) (fun i hi => ?_)⟩
      · have h9 := hx.2.1 _ ((hyb i).mp h).2
        rw [Nat.testBit_or, mkS_at hi, mkS_at hi, Bool.or_eq_true, decide_eq_true_iff, decide_eq_true_iff] at h9
        omega
      · obtain ⟨i, i1, _, i3⟩ := mkS_or.mp (hx.2.1 t ht)
        exact ⟨i, i1, i3⟩
      · cases h9 : x.testBit ((els s).getD i 0) with
        | true => exact ((hyb i).mpr ⟨hi, h9⟩).symm
        | false =>
          cases h8 : (bs ((kL (pc s)).filter (fun i => x.testBit ((els s).getD i 0)))).testBit i with
          | false => rfl
          | true => have := ((hyb i).mp h8).2; rw [h9] at this; cases this
    have toLX : ∀ y, y < 2 ^ pc s → (∀ i, i < pc s → y.testBit i = true → 1 ≤ dgB B c i) → Ld L e (mkS s y.testBit) → mnQ L e B s (woB B (pc s) y c) + 1 = mnQ L e B s c → LX L e (mnQ L e B s c - 1) (mkS s (fun i => decide (dgB B c i = 1))) (mkS s (fun i => decide (dgB B c i = 2))) (mkS s y.testBit) := by
      intro y hy hle hld hq
      refine ⟨hld, fun t ht => ?_, (iff9 y hy hle hld).mp hq⟩
      obtain ⟨i, i1, i2, i3⟩ := mkS_bit.mp ht
      refine mkS_or.mpr ⟨i, i1, ?_, i3⟩
      have h1 := hle i i1 i2
      have h2 := hdl i
      by_cases z : dgB B c i = 1
      · exact Or.inl (decide_eq_true z)
      · exact Or.inr (decide_eq_true (by omega))
    have hex : ∃ y, y < 2 ^ pc s ∧ (∀ i, i < pc s → y.testBit i = true → 1 ≤ dgB B c i) ∧ Ld L e (mkS s y.testBit) ∧ mnQ L e B s (woB B (pc s) y c) + 1 = mnQ L e B s c := by
      obtain ⟨x, hx⟩ := LX_ex (k := mnQ L e B s c - 1) (by rw [show mnQ L e B s c - 1 + 1 = mnQ L e B s c by omega]; exact o2)
      obtain ⟨y, y1, y2, y3⟩ := dense x hx
      rw [y3] at hx
      exact ⟨y, y1, y2, hx.1, (iff9 y y1 y2 hx.1).mpr hx.2.2⟩
    obtain ⟨y0, hy0⟩ := hex
    obtain ⟨y, y1, y2⟩ := least (P := fun y => y < 2 ^ pc s ∧ (∀ i, i < pc s → y.testBit i = true → 1 ≤ dgB B c i) ∧ Ld L e (mkS s y.testBit) ∧ mnQ L e B s (woB B (pc s) y c) + 1 = mnQ L e B s c) hy0
    have ypos : 1 ≤ y := by
      apply Classical.byContradiction
      intro z
      have e0 : y = 0 := by omega
      have h9 := y1.2.2.2
      obtain ⟨_, w2⟩ := wo_dg (n := pc s) hB2 y1.2.1
      have ew : mnQ L e B s (woB B (pc s) y c) = mnQ L e B s c := by
        unfold mnQ
        have hsame : ∀ i, dgB B (woB B (pc s) y c) i = dgB B c i := fun i => by
          rw [w2, if_neg (by rw [e0, Nat.zero_testBit]; intro q; cases q.2)]
        rw [mkS_eq (Q := fun i => decide (dgB B c i = 1)) (fun i _ => by rw [hsame]), mkS_eq (P := fun i => decide (dgB B (woB B (pc s) y c) i = 2)) (Q := fun i => decide (dgB B c i = 2)) (fun i _ => by rw [hsame])]
      omega
    refine ⟨y, ⟨ypos, y1.1, y1.2.1, y1.2.2.1, y1.2.2.2⟩, fun z hz hq => y2 z hz ⟨by have := y1.1; omega, hq⟩, lsN_eq (toLX y y1.1 y1.2.1 y1.2.2.1 y1.2.2.2) fun x hx => ?_⟩
    obtain ⟨z, z1, z2, z3⟩ := dense x hx
    rw [z3] at hx ⊢
    have hzq := (iff9 z z1 z2 hx.1).mpr hx.2.2
    by_cases hlt : z < y
    · exact absurd ⟨z1, z2, hx.1, hzq⟩ (y2 z hlt)
    · by_cases eq : z = y
      · rw [eq]; exact Nat.le_refl _
      · exact Nat.le_of_lt (mkS_mono y1.1 z1 (by omega))
  -- the search for it
  have seek : ∀ (m c : Nat) (v9 : ab_V), c < B ^ pc s → 1 ≤ mnQ L e B s c → m < 100 → ∀ y, (1 ≤ y ∧ y < 2 ^ pc s ∧ (∀ i, i < pc s → y.testBit i = true → 1 ≤ dgB B c i) ∧ Ld L e (mkS s y.testBit) ∧ mnQ L e B s (woB B (pc s) y c) + 1 = mnQ L e B s c) → (∀ z, z < y → ¬ ((∀ i, i < pc s → z.testBit i = true → 1 ≤ dgB B c i) ∧ Ld L e (mkS s z.testBit) ∧ mnQ L e B s (woB B (pc s) z c) + 1 = mnQ L e B s c)) → at_ X d cd_M_load 56 [vR 12 0, vU, vU, vI dbl, vI (a : Int), vU, vI (c : Int), vI (m : Int), vU, v9] [] (hp D) = if m = a then some (some (vI (mkS s y.testBit : Int)), hp D) else at_ X d cd_M_load 56 [vR 12 0, vU, vU, vI dbl, vI (a : Int), vU, vI (woB B (pc s) y c : Int), vI ((m + 1 : Nat) : Int), vU, vI (y : Int)] [] (hp D) := by
    intro m c v9 hc hm hm9 y hy hmin
    obtain ⟨o1, o2, o3⟩ := hok c
    have hlf : lfM B (pc s) c < 2 ^ pc s := lfM_lt
    rw [b_M_load_56, s_M_leftIn (by omega) hB5 hT hc (by omega)]
    simp only [ab_ci]
    rw [b_M_load_63]
    have key : ∀ (n z : Nat), z + n = y → 1 ≤ z → at_ X d cd_M_load 68 [vR 12 0, vU, vU, vI dbl, vI (a : Int), vU, vI (c : Int), vI (m : Int), vI (lfM B (pc s) c : Int), vI (z : Int)] [] (hp D) = if m = a then some (some (vI (mkS s y.testBit : Int)), hp D) else at_ X d cd_M_load 56 [vR 12 0, vU, vU, vI dbl, vI (a : Int), vU, vI (woB B (pc s) y c : Int), vI ((m + 1 : Nat) : Int), vU, vI (y : Int)] [] (hp D) := by
      intro n
      induction n with
      | zero =>
        intro z hz hz1
        have : z = y := by omega
        subst this
        have e0 : nd z (lfM B (pc s) c) = 0 := nd_0.mpr fun i hi => lfM_bit.mpr ⟨bit_lt hy.2.1 hi, hy.2.2.1 i (bit_lt hy.2.1 hi) hi⟩
        obtain ⟨w1, _⟩ := wo_dg (n := pc s) hB2 hy.2.2.1
        rw [b_M_load_68, zb_nd (by omega) (by omega), e0, if_neg (by decide), if_pos (by omega), Int.toNat_natCast, h35 z hy.2.1, if_pos (dcP_iff.mpr hy.2.2.2.1), if_neg (by decide), s_M_without (by omega) hB2 hT (by omega) (by omega) hy.2.2.1]
        simp only [ab_ci]
        rw [b_M_load_100, if_pos (by omega), if_pos (by omega), Int.toNat_natCast, Int.toNat_natCast, h32 _ (by omega), h32 _ hc, zb_w (by omega) (by omega), if_pos (by have := hy.2.2.2.2; omega)]
        by_cases em : m = a
        · rw [if_neg (by omega), if_pos em, s_M_asThings (by omega) hs9 hT (by omega)]
          simp only [ab_ci]
          rw [b_M_load_132]
        · rw [if_pos (by omega), if_neg em, s_M_without (by omega) hB2 hT (by omega) (by omega) hy.2.2.1]
          simp only [ab_ci]
          rw [b_M_load_141, zb_s (by omega)]
      | succ n ih =>
        intro z hz hz1
        have hno := hmin z (by omega)
        have hzl : z < 2 ^ pc s := by omega
        have nx : at_ X d cd_M_load 113 [vR 12 0, vU, vU, vI dbl, vI (a : Int), vU, vI (c : Int), vI (m : Int), vI (lfM B (pc s) c : Int), vI (z : Int)] [] (hp D) = if m = a then some (some (vI (mkS s y.testBit : Int)), hp D) else at_ X d cd_M_load 56 [vR 12 0, vU, vU, vI dbl, vI (a : Int), vU, vI (woB B (pc s) y c : Int), vI ((m + 1 : Nat) : Int), vU, vI (y : Int)] [] (hp D) := by
          rw [b_M_load_113, zb_s (by omega)]
          exact ih (z + 1) (by omega) (by omega)
        rw [b_M_load_68, zb_nd (by omega) (by omega)]
        by_cases c1 : nd z (lfM B (pc s) c) = 0
        · have hle : ∀ i, i < pc s → z.testBit i = true → 1 ≤ dgB B c i := fun i _ hi => (lfM_bit.mp (nd_0.mp c1 i hi)).2
          rw [c1, if_neg (by decide), if_pos (by omega), Int.toNat_natCast, h35 z hzl]
          by_cases c2 : dcP (Ld L e (mkS s z.testBit)) = true
          · obtain ⟨w1, _⟩ := wo_dg (n := pc s) hB2 hle
            rw [if_pos c2, if_neg (by decide), s_M_without (by omega) hB2 hT (by omega) (by omega) hle]
            simp only [ab_ci]
            rw [b_M_load_100, if_pos (by omega), if_pos (by omega), Int.toNat_natCast, Int.toNat_natCast, h32 _ (by omega), h32 _ hc, zb_w (by omega) (by omega), if_neg (fun q => hno ⟨hle, dcP_iff.mp c2, by omega⟩)]
            exact nx
          · rw [if_neg c2, if_pos rfl]
            exact nx
        · rw [if_pos (by omega)]
          exact nx
    exact key (y - 1) 1 (by omega) (by omega)
  intro r
  induction r with
  | zero =>
    intro m c v9 hm hc hk
    obtain ⟨y, hy, hmin, hls⟩ := one c hc (by omega)
    rw [seek m c v9 hc (by omega) (by omega) y hy hmin, if_pos (by omega), ldF, hls]
  | succ r ih =>
    intro m c v9 hm hc hk
    obtain ⟨y, hy, hmin, hls⟩ := one c hc (by omega)
    obtain ⟨w1, _⟩ := wo_dg (n := pc s) hB2 hy.2.2.1
    obtain ⟨k1, k2⟩ := rest_D hB3 hy.2.2.1
    have hq := hy.2.2.2.2
    rw [seek m c v9 hc (by omega) (by omega) y hy hmin, if_neg (by omega), ldF, hls, ← k1, ← k2, show mnQ L e B s c - 1 = mnQ L e B s (woB B (pc s) y c) by omega]
    exact ih (m + 1) (woB B (pc s) y c) _ (by omega) (by omega) (by omega)
theorem M_load {X : Nat × (Nat → Int)} {d : Nat} {D : DD} {S : St} {set e dbl man : Int} (hd : 20 ≤ d) (hS : SOK S) (hM : MH D S) : mRes X d m_M_load [vI set, vI e, vI dbl, vI man] D (f_load S set e dbl man) := by
  obtain ⟨d, rfl⟩ : ∃ e, d = e + 1 := ⟨d - 1, by omega⟩
  have hM := hM.th hS
  have hT9 := th_mY D
  unfold mRes f_load
  rw [e_M_load, b_M_load_0]
  generalize u3 D 12 0 0 0 = D0 at hM hT9 ⊢
  rw [s_M_refuses (by omega) hS hM]
  simp only [ab_ci]
  rw [b_M_load_12]
  by_cases c : rfM S set e dbl = 0
  · obtain ⟨h1, h2, h3⟩ := rfM_0 c
    have hp9 : 2 ^ (sW S).1 0 ≤ 2 ^ 16 := p2le hS.L.1.1
    obtain ⟨s, rfl⟩ : ∃ t : Nat, set = (t : Int) := ⟨set.toNat, by omega⟩
    obtain ⟨n, rfl⟩ : ∃ t : Nat, e = (t : Int) := ⟨e.toNat, by omega⟩
    rw [Int.toNat_natCast] at h3
    have hs9 : s < 65536 := by omega
    have hBx : ∃ B, (dbl = 0 ∧ B = 2) ∨ (dbl ≠ 0 ∧ B = 3 ∧ pc s ≤ 8) := by
      by_cases z : dbl = 0
      · exact ⟨2, Or.inl ⟨z, rfl⟩⟩
      · exact ⟨3, Or.inr ⟨z, rfl, h3 z⟩⟩
    obtain ⟨B, hB⟩ := hBx
    obtain ⟨D1, a1, a2, a3, a4, a5⟩ := s_M_laysMen (X := X) (d := d) (D := D0) (s := s) (e := n) (by omega) hS.L hM.l (by omega) (by omega) hB
    obtain ⟨f1, f2⟩ := full_D (dbl := dbl) (B := B) hs9 (by omega)
    have hpc := pc_le s
    have hN0 : 0 < B ^ pc s := Nat.pow_pos (by omega)
    have hN : B ^ pc s ≤ 65536 := by
      rcases hB with ⟨_, rfl⟩ | ⟨_, rfl, h8⟩
      · exact Nat.le_trans (Nat.pow_le_pow_right (by decide) hpc) (by decide)
      · exact Nat.le_trans (Nat.pow_le_pow_right (by decide) h8) (by decide)
    have ea : mnQ (sW S).1 n B s (B ^ pc s - 1) = mnS S (s : Int) (n : Int) dbl := by
      unfold mnQ mnS
      rw [f1, f2, Int.toNat_natCast, Int.toNat_natCast]
    have h16 := (mnS_ok hS c).1
    have hM1 : MH D1 S := hM.scr hS (a5.mo fun _ _ _ z => hM_mX z)
    have fY := hT9.tr (a5.mo fun _ _ _ z => mX_mY (hM_mX z))
    rw [if_pos c, if_pos c, a1]
    simp only [ab_ci]
    rw [b_M_load_29, if_pos (by omega), Int.toNat_natCast, a4 _ (by omega), ea, s_M_within (by omega), zb_w (by omega) (by omega)]
    simp only [ab_ci]
    rw [b_M_load_48]
    by_cases cm : 0 ≤ man ∧ man < (mnS S (s : Int) (n : Int) dbl : Int)
    · obtain ⟨a, rfl⟩ : ∃ t : Nat, man = (t : Int) := ⟨man.toNat, by omega⟩
      have g := s_M_loads (X := X) (d := d) (D := D1) (L := (sW S).1) (s := s) (e := n) (B := B) (a := a) (dbl := dbl) (by omega) hS.L hs9 (by omega) hB hN a2 a3 a4 (by omega) a 0 (B ^ pc s - 1) vU (by omega) (by omega) (by rw [ea]; omega)
      have g : at_ X d cd_M_load 56 [vR 12 0, vU, vU, vI dbl, vI (a : Int), vU, vI ((B ^ pc s - 1 : Nat) : Int), vI 0, vU, vU] [] (hp D1) = _ := g
      rw [if_pos (show 0 ≤ (a : Int) ∧ (a : Int) ≤ (mnS S (s : Int) (n : Int) dbl : Int) - 1 by omega), if_pos (by decide), if_pos cm, g, f1, f2, ea, Int.toNat_natCast, Int.toNat_natCast, Int.toNat_natCast]
      exact ⟨D1, rfl, hM1, fY⟩
    · rw [if_neg (show ¬ (0 ≤ man ∧ man ≤ (mnS S (s : Int) (n : Int) dbl : Int) - 1) by omega), if_neg (by decide), if_neg cm]
      exact ⟨D1, rfl, hM1, fY⟩
  · rw [if_neg c, if_neg c]
    exact ⟨D0, rfl, hM, hT9⟩
end
