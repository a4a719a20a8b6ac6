/-! men and loads: the reference's table -/
section
/-- the second stage: which loads can be -/
theorem s_M_lays2 {X : Nat × (Nat → Int)} {d : Nat} {D : DD} {L : Nat → Nat} {s B e : Nat} {dbl l4 : Int} (hd : 3 ≤ d) (hL : LOK L) (hl : LM D L) (hs : s < 2 ^ L 0) (hT : TH D s B) : ∃ D', at_ X d cd_M_laysMen 119 [vR 12 0, vU, vI (e : Int), vI dbl, vI l4, vU, vI 0, vU, vU, vU, vU, vU, vU, vU, vU] [] (hp D) = at_ X d cd_M_laysMen 164 [vR 12 0, vU, vU, vI dbl, vI l4, vU, vI 1, vU, vU, vU, vU, vU, vU, vU, vU] [] (hp D') ∧ TH D' s B ∧ D' 32 0 0 = 0 ∧ (∀ x, x < 2 ^ pc s → D' 35 0 x = if dcP (Ld L e (mkS s x.testBit)) = true then 1 else 0) ∧ fr hM D D' := by
  have hp9 : 2 ^ L 0 ≤ 2 ^ 16 := p2le hL.1.1
  have hs9 : s < 65536 := by omega
  have hpc := pc_le s
  have h2 : 2 ^ pc s ≤ 2 ^ 16 := p2le hpc
  have key : ∀ (m x : Nat) (D1 : DD), x + m = 2 ^ pc s → (∀ y, y < x → D1 35 0 y = if dcP (Ld L e (mkS s y.testBit)) = true then 1 else 0) → fr (fun t i _ => t = 35 ∧ i = 0) D D1 → ∃ D', at_ X d cd_M_laysMen 119 [vR 12 0, vU, vI (e : Int), vI dbl, vI l4, vU, vI (x : Int), vU, vU, vU, vU, vU, vU, vU, vU] [] (hp D1) = at_ X d cd_M_laysMen 164 [vR 12 0, vU, vU, vI dbl, vI l4, vU, vI 1, vU, vU, vU, vU, vU, vU, vU, vU] [] (hp D') ∧ TH D' s B ∧ D' 32 0 0 = 0 ∧ (∀ x, x < 2 ^ pc s → D' 35 0 x = if dcP (Ld L e (mkS s x.testBit)) = true then 1 else 0) ∧ fr hM D D' := by
    intro m
    induction m with
    | zero =>
      intro x D1 hx h35 hf
      have hT1 : TH D1 s B := hT.on (hf 12 0 27 (by omega)) (fun t k ht => hf t 0 k (by omega))
      rw [b_M_laysMen_119, hT1.1, zb_sl (by omega), if_pos (by omega)]
      refine ⟨_, rfl, hT1.on (by rw [u3_t (by omega)]) (fun t k ht => by rw [u3_t (by omega)]), by rw [u3_eq], fun y hy => by rw [u3_t (by omega)]; exact h35 y (by omega), (hf.mo fun t i k z => ⟨z.2, Or.inr ⟨by omega, by omega⟩⟩).u ⟨rfl, Or.inr ⟨by omega, by omega⟩⟩⟩
    | succ m ih =>
      intro x D1 hx h35 hf
      have hT1 : TH D1 s B := hT.on (hf 12 0 27 (by omega)) (fun t k ht => hf t 0 k (by omega))
      have hl1 : LM D1 L := hl.on fun k _ => hf 22 0 k (by omega)
      have hmk : mkS s x.testBit < 2 ^ L 0 := by
        unfold mkS
        refine bs_lt fun t ht => ?_
        obtain ⟨i, hi, e9⟩ := List.mem_map.mp ht
        rw [← e9]
        exact bit_lt hs (th_mem hs9 (kL_mem.mp (List.mem_filter.mp hi).1)).2
      rw [b_M_laysMen_119, hT1.1, zb_sl (by omega), if_neg (by omega), s_M_asThings (by omega) hs9 hT1 (by omega)]
      simp only [ab_ci]
      rw [b_M_laysMen_143, s_M_canCarry (by omega) hL hl1 hmk]
      simp only [ab_ci]
      have hv : (if dcP (Ld L e (mkS s x.testBit)) = true then (1 : Int) else 0) = 0 ∨ (if dcP (Ld L e (mkS s x.testBit)) = true then (1 : Int) else 0) = 1 := by split <;> omega
      rw [b_M_laysMen_147, if_pos ⟨by omega, hv⟩, Int.toNat_natCast, zb_s (by omega)]
      refine ih (x + 1) _ (by omega) (fun y hy => ?_) (hf.u ⟨rfl, rfl⟩)
      by_cases ey : y = x
      · rw [ey, u3_eq]
      · rw [u3_k ey]; exact h35 y (by omega)
  exact key (2 ^ pc s) 0 D (by omega) (fun y hy => by omega) (fr.rf D)
theorem lowest_b {x : Nat} (h : x ≠ 0) : ∃ i, x.testBit i = true ∧ ∀ j, j < i → x.testBit j = false := by
  have hex : ∃ i, x.testBit i = true := by
    apply Classical.byContradiction
    intro z
    refine h (bit0 fun t => ?_)
    cases hx : x.testBit t with
    | false => rfl
    | true => exact absurd ⟨t, hx⟩ z
  obtain ⟨i, hi⟩ := hex
  obtain ⟨m, m1, m2⟩ := least (P := fun i => x.testBit i = true) hi
  refine ⟨m, m1, fun j hj => ?_⟩
  cases hx : x.testBit j with
  | false => rfl
  | true => exact absurd hx (m2 j hj)
/-- the value of a pick -/
noncomputable def gvQ (L : Nat → Nat) (e B s c low p : Nat) : Nat := if dcP (Ld L e (mkS s (p ||| low).testBit)) = true then mnQ L e B s (woB B (pc s) (p ||| low) c) + 1 else 99
/-- one entry of the table -/
theorem s_M_lays3i {X : Nat × (Nat → Int)} {d : Nat} {D : DD} {L : Nat → Nat} {s B e c i0 : Nat} {dbl l4 : Int} (hd : 3 ≤ d) (hB : 2 ≤ B) (hs9 : s < 65536) (hT : TH D s B) (hc9 : c < 65536) (h35 : ∀ x, x < 2 ^ pc s → D 35 0 x = if dcP (Ld L e (mkS s x.testBit)) = true then 1 else 0) (h32 : ∀ r, r < c → D 32 0 r = (mnQ L e B s r : Int)) (hm16 : ∀ r, mnQ L e B s r ≤ 16) (hi0 : (lfM B (pc s) c).testBit i0 = true) : ∀ (p : Nat) (best : Nat) (v7 : ab_V), best ≤ 99 → (∀ t, p.testBit t = true → (nd (lfM B (pc s) c) (2 ^ i0)).testBit t = true) → ∃ r : Nat, at_ X d cd_M_laysMen 206 [vR 12 0, vU, vU, vI dbl, vI l4, vU, vI (c : Int), v7, vI ((2 ^ i0 : Nat) : Int), vI (best : Int), vI (nd (lfM B (pc s) c) (2 ^ i0) : Nat), vI (p : Int), vI 0, vU, vU] [] (hp D) = at_ X d cd_M_laysMen 164 [vR 12 0, vU, vU, vI dbl, vI l4, vU, vI ((c + 1 : Nat) : Int), vU, vU, vI (r : Int), vU, vU, vU, vU, vU] [] (hp (u3 D 32 0 c (r : Int))) ∧ r ≤ best ∧ (r = best ∨ ∃ q, q ≤ p ∧ (∀ t, q.testBit t = true → (nd (lfM B (pc s) c) (2 ^ i0)).testBit t = true) ∧ r = gvQ L e B s c (2 ^ i0) q) ∧ ∀ q, q ≤ p → (∀ t, q.testBit t = true → (nd (lfM B (pc s) c) (2 ^ i0)).testBit t = true) → r ≤ gvQ L e B s c (2 ^ i0) q := by
  have hpc := pc_le s
  have h2 : 2 ^ pc s ≤ 2 ^ 16 := p2le hpc
  have hlf : lfM B (pc s) c < 2 ^ pc s := lfM_lt
  have hN : nd (lfM B (pc s) c) (2 ^ i0) < 2 ^ pc s := nd_lt hlf
  have hi1 := (lfM_bit.mp hi0).1
  have h2i : 2 ^ i0 < 2 ^ pc s := zb_p2 hi1
  have fin : ∀ (v7 v8 v10 v11 : Int) (w7 : ab_V) (best : Nat), at_ X d cd_M_laysMen 206 [vR 12 0, vU, vU, vI dbl, vI l4, vU, vI (c : Int), w7, vI v8, vI (best : Int), vI v10, vI v11, vI 1, vU, vU] [] (hp D) = at_ X d cd_M_laysMen 164 [vR 12 0, vU, vU, vI dbl, vI l4, vU, vI ((c + 1 : Nat) : Int), vU, vU, vI (best : Int), vU, vU, vU, vU, vU] [] (hp (u3 D 32 0 c (best : Int))) := by
    intro v7 v8 v10 v11 w7 best
    rw [b_M_laysMen_206, if_pos (by decide), if_pos (by omega), Int.toNat_natCast, zb_s (by omega)]
  intro p
  induction p using Nat.strongRecOn with
  | ind p ih =>
    intro best v7 hb hsub
    have hple : p ≤ nd (lfM B (pc s) c) (2 ^ i0) := by
      have e1 : p &&& nd (lfM B (pc s) c) (2 ^ i0) = p := Nat.eq_of_testBit_eq fun t => by
        rw [Nat.testBit_and]
        cases hx : p.testBit t with
        | false => rfl
        | true => rw [hsub t hx]; rfl
      have := Nat.and_le_right (n := p) (m := nd (lfM B (pc s) c) (2 ^ i0))
      omega
    have hx : p ||| 2 ^ i0 < 2 ^ pc s := Nat.or_lt_two_pow (by omega) h2i
    have hxl : ∀ i, i < pc s → (p ||| 2 ^ i0).testBit i = true → 1 ≤ dgB B c i := fun i _ h => by
      rw [bor, Bool.or_eq_true, decide_eq_true_iff] at h
      rcases h with z | z
      · have := hsub i z
        rw [nd_bit, Bool.and_eq_true] at this
        exact (lfM_bit.mp this.1).2
      · rw [← z]; exact (lfM_bit.mp hi0).2
    obtain ⟨w1, w2⟩ := wo_dg hB hxl
    have hwlt : woB B (pc s) (p ||| 2 ^ i0) c < c := by
      apply Classical.byContradiction
      intro z
      have e9 : woB B (pc s) (p ||| 2 ^ i0) c = c := by omega
      have h9 := w2 i0
      rw [e9, if_pos ⟨hi1, by rw [bor, decide_eq_true rfl, Bool.or_true]⟩] at h9
      have := (lfM_bit.mp hi0).2
      omega
    -- the value of this pick, then the rest
    have go : ∀ v12 v13 : ab_V, at_ X d cd_M_laysMen 248 [vR 12 0, vU, vU, vI dbl, vI l4, vU, vI (c : Int), vU, vI ((2 ^ i0 : Nat) : Int), vI (best : Int), vI (nd (lfM B (pc s) c) (2 ^ i0) : Nat), vI (p : Int), v12, v13, vU] [vI (gvQ L e B s c (2 ^ i0) p : Int)] (hp D) = at_ X d cd_M_laysMen 276 [vR 12 0, vU, vU, vI dbl, vI l4, vU, vI (c : Int), vU, vI ((2 ^ i0 : Nat) : Int), vI ((if best ≤ gvQ L e B s c (2 ^ i0) p then best else gvQ L e B s c (2 ^ i0) p : Nat) : Int), vI (nd (lfM B (pc s) c) (2 ^ i0) : Nat), vI (p : Int), vU, vU, vU] [vI (if p = 0 then 1 else 0)] (hp D) := by
      intro v12 v13
      have tl : ∀ (v9 v14 : ab_V) (z : Int), at_ X d cd_M_laysMen 264 [vR 12 0, vU, vU, vI dbl, vI l4, vU, vI (c : Int), vU, vI ((2 ^ i0 : Nat) : Int), v9, vI (nd (lfM B (pc s) c) (2 ^ i0) : Nat), vI (p : Int), vU, vU, v14] [vI z] (hp D) = at_ X d cd_M_laysMen 276 [vR 12 0, vU, vU, vI dbl, vI l4, vU, vI (c : Int), vU, vI ((2 ^ i0 : Nat) : Int), vI z, vI (nd (lfM B (pc s) c) (2 ^ i0) : Nat), vI (p : Int), vU, vU, vU] [vI (if p = 0 then 1 else 0)] (hp D) := by
        intro v9 v14 z
        rw [b_M_laysMen_264]
        by_cases p0 : p = 0
        · rw [if_neg (by omega), if_pos p0]
        · rw [if_pos (by omega), if_neg p0]
      rw [b_M_laysMen_248]
      by_cases cb : best ≤ gvQ L e B s c (2 ^ i0) p
      · rw [if_pos (by omega), if_pos cb]; exact tl _ _ _
      · rw [if_neg (by omega), if_neg cb]; exact tl _ _ _
    have step : at_ X d cd_M_laysMen 206 [vR 12 0, vU, vU, vI dbl, vI l4, vU, vI (c : Int), v7, vI ((2 ^ i0 : Nat) : Int), vI (best : Int), vI (nd (lfM B (pc s) c) (2 ^ i0) : Nat), vI (p : Int), vI 0, vU, vU] [] (hp D) = at_ X d cd_M_laysMen 276 [vR 12 0, vU, vU, vI dbl, vI l4, vU, vI (c : Int), vU, vI ((2 ^ i0 : Nat) : Int), vI ((if best ≤ gvQ L e B s c (2 ^ i0) p then best else gvQ L e B s c (2 ^ i0) p : Nat) : Int), vI (nd (lfM B (pc s) c) (2 ^ i0) : Nat), vI (p : Int), vU, vU, vU] [vI (if p = 0 then 1 else 0)] (hp D) := by
      rw [b_M_laysMen_206, if_neg (by decide), zb_or (by omega) (by omega), if_pos (by omega), Int.toNat_natCast, h35 _ hx]
      by_cases hl : dcP (Ld L e (mkS s (p ||| 2 ^ i0).testBit)) = true
      · have hg : gvQ L e B s c (2 ^ i0) p = mnQ L e B s (woB B (pc s) (p ||| 2 ^ i0) c) + 1 := by unfold gvQ; rw [if_pos hl]
        have h16 := hm16 (woB B (pc s) (p ||| 2 ^ i0) c)
        rw [if_pos hl, if_neg (by decide), s_M_without (by omega) hB hT hc9 (by omega) hxl]
        simp only [ab_ci]
        rw [b_M_laysMen_240, if_pos (by omega), Int.toNat_natCast, h32 _ hwlt, zb_s (by omega), ← hg]
        exact go _ _
      · have hg : gvQ L e B s c (2 ^ i0) p = 99 := by unfold gvQ; rw [if_neg hl]
        have := go vU vU
        rw [hg] at this ⊢
        rw [if_neg hl, if_pos rfl]
        exact this
    rw [step, b_M_laysMen_276]
    by_cases p0 : p = 0
    · refine ⟨if best ≤ gvQ L e B s c (2 ^ i0) p then best else gvQ L e B s c (2 ^ i0) p, ?_, ?_, ?_, fun q hq _ => ?_⟩
      · rw [if_pos p0]
        exact fin 0 _ _ _ _ _
      · split <;> omega
      · split
        · exact Or.inl rfl
        · exact Or.inr ⟨p, Nat.le_refl _, hsub, rfl⟩
      · have : q = p := by omega
        rw [this]
        split <;> omega
    · rw [if_neg p0, zb_w (by omega) (by omega), show (p : Int) - 1 = ((p - 1 : Nat) : Int) by omega, zb_an (by omega) (by omega)]
      have hm1 : (if best ≤ gvQ L e B s c (2 ^ i0) p then best else gvQ L e B s c (2 ^ i0) p) ≤ best := by split <;> omega
      have hm2 : (if best ≤ gvQ L e B s c (2 ^ i0) p then best else gvQ L e B s c (2 ^ i0) p) ≤ gvQ L e B s c (2 ^ i0) p := by split <;> omega
      obtain ⟨r, r1, r2, r3, r4⟩ := ih ((p - 1) &&& nd (lfM B (pc s) c) (2 ^ i0)) (Nat.lt_of_le_of_lt Nat.and_le_left (by omega)) (if best ≤ gvQ L e B s c (2 ^ i0) p then best else gvQ L e B s c (2 ^ i0) p) vU (by omega) (fun t ht => by rw [Nat.testBit_and] at ht; exact (Bool.and_eq_true_iff.mp ht).2)
      have hle : (p - 1) &&& nd (lfM B (pc s) c) (2 ^ i0) ≤ p - 1 := Nat.and_le_left
      refine ⟨r, r1, by omega, ?_, fun q hq hqs => ?_⟩
      · rcases r3 with z | ⟨q, q1, q2, q3⟩
        · by_cases cb : best ≤ gvQ L e B s c (2 ^ i0) p
          · rw [if_pos cb] at z; exact Or.inl z
          · rw [if_neg cb] at z; exact Or.inr ⟨p, Nat.le_refl _, hsub, z⟩
        · exact Or.inr ⟨q, by omega, q2, q3⟩
      · by_cases eq : q = p
        · rw [eq]; omega
        · exact r4 q (subm _ p q hsub hqs (by omega)) hqs
theorem s_M_laysMen {X : Nat × (Nat → Int)} {d : Nat} {D : DD} {L : Nat → Nat} {s e B : Nat} {dbl : Int} (hd : 6 ≤ d) (hL : LOK L) (hl : LM D L) (hs : s < 2 ^ L 0) (he : 1 ≤ e) (hB : (dbl = 0 ∧ B = 2) ∨ (dbl ≠ 0 ∧ B = 3 ∧ pc s ≤ 8)) : ∃ D', ev X d m_M_laysMen [vR 12 0, vI (s : Int), vI (e : Int), vI dbl] (hp D) = some (some (vI ((B ^ pc s - 1 : Nat) : Int)), hp D') ∧ TH D' s B ∧ (∀ x, x < 2 ^ pc s → D' 35 0 x = if dcP (Ld L e (mkS s x.testBit)) = true then 1 else 0) ∧ (∀ c, c < B ^ pc s → D' 32 0 c = (mnQ L e B s c : Int)) ∧ fr hM D D' := by
  obtain ⟨d, rfl⟩ : ∃ e, d = e + 1 := ⟨d - 1, by omega⟩
  have hp9 : 2 ^ L 0 ≤ 2 ^ 16 := p2le hL.1.1
  have hs9 : s < 65536 := by omega
  have hpc := pc_le s
  have hB2 : 2 ≤ B := by omega
  have hB3 : B = 2 ∨ B = 3 := by omega
  have hB4 : B = 2 ∨ (B = 3 ∧ pc s ≤ 8) := by omega
  have hB5 : (dbl = 0 ∧ B = 2) ∨ (dbl ≠ 0 ∧ B = 3) := by omega
  have hBp : ∀ i, 0 < B ^ i := fun i => Nat.pow_pos (by omega)
  have hB9 : ∀ i, i ≤ pc s → B ^ i ≤ 65536 := fun i hi => by
    rcases hB4 with rfl | ⟨rfl, h8⟩
    · exact Nat.le_trans (Nat.pow_le_pow_right (by decide) (show i ≤ 16 by omega)) (by decide)
    · exact Nat.le_trans (Nat.pow_le_pow_right (by decide) (show i ≤ 8 by omega)) (by decide)
  have hB6 : (dbl = 0 ∧ B = 2) ∨ (dbl ≠ 0 ∧ ∀ i, B ^ i = p3 i) := by
    rcases hB5 with z | ⟨z1, z2⟩
    · exact Or.inl z
    · exact Or.inr ⟨z1, fun i => by rw [z2]; rfl⟩
  have hok : ∀ c, _ := fun c => mnD_ok (c := c) hL he hs9 hB4
  obtain ⟨D1, a1, a2, a3⟩ := s_M_lays1 (X := X) (d := d) (D := D) (e := (e : Int)) hL hl hs hB6 hBp hB9
  have hl1 : LM D1 L := hl.on fun k _ => a3 22 0 k (by unfold hM; omega)
  obtain ⟨D2, b1, b2, b3, b4, b5⟩ := s_M_lays2 (X := X) (d := d) (D := D1) (e := e) (dbl := dbl) (l4 := ((B ^ pc s - 1 : Nat) : Int)) (by omega) hL hl1 hs a2
  have hN := hB9 (pc s) (Nat.le_refl _)
  have hN0 := hBp (pc s)
  have key : ∀ (m c : Nat) (D3 : DD) (v9 : ab_V), c + m = B ^ pc s → 1 ≤ c → TH D3 s B → (∀ x, x < 2 ^ pc s → D3 35 0 x = if dcP (Ld L e (mkS s x.testBit)) = true then 1 else 0) → (∀ r, r < c → D3 32 0 r = (mnQ L e B s r : Int)) → fr hM D D3 → ∃ D', at_ X d cd_M_laysMen 164 [vR 12 0, vU, vU, vI dbl, vI ((B ^ pc s - 1 : Nat) : Int), vU, vI (c : Int), vU, vU, v9, vU, vU, vU, vU, vU] [] (hp D3) = some (some (vI ((B ^ pc s - 1 : Nat) : Int)), hp D') ∧ TH D' s B ∧ (∀ x, x < 2 ^ pc s → D' 35 0 x = if dcP (Ld L e (mkS s x.testBit)) = true then 1 else 0) ∧ (∀ c, c < B ^ pc s → D' 32 0 c = (mnQ L e B s c : Int)) ∧ fr hM D D' := by
    intro m
    induction m with
    | zero =>
      intro c D3 v9 hc h1 hT h35 h32 hf
      rw [b_M_laysMen_164, if_pos (by omega)]
      exact ⟨D3, rfl, hT, h35, fun r hr => h32 r (by omega), hf⟩
    | succ m ih =>
      intro c D3 v9 hc h1 hT h35 h32 hf
      have hlf : lfM B (pc s) c < 2 ^ pc s := lfM_lt
      have h2p : 2 ^ pc s ≤ 2 ^ 16 := p2le hpc
      have hne : lfM B (pc s) c ≠ 0 := fun z => by
        have : c = 0 := dg_z hB2 (pc s) c (by omega) (fun i hi => by
          apply Classical.byContradiction
          intro y
          have h9 : (lfM B (pc s) c).testBit i = true := lfM_bit.mpr ⟨hi, by omega⟩
          rw [z, Nat.zero_testBit] at h9
          cases h9)
        omega
      obtain ⟨i0, i1, i2⟩ := lowest_b hne
      obtain ⟨g0, g1⟩ := lfM_bit.mp i1
      have h2i : 2 ^ i0 < 2 ^ pc s := zb_p2 g0
      have exr : lfM B (pc s) c ^^^ 2 ^ i0 = nd (lfM B (pc s) c) (2 ^ i0) := Nat.eq_of_testBit_eq fun t => by
        rw [Nat.testBit_xor, nd_bit, Nat.testBit_two_pow]
        by_cases e9 : i0 = t
        · rw [← e9, i1, decide_eq_true rfl]; rfl
        · rw [decide_eq_false e9]; cases (lfM B (pc s) c).testBit t <;> rfl
      obtain ⟨r, r1, r2, r3, r4⟩ := s_M_lays3i (X := X) (d := d) (D := D3) (L := L) (e := e) (c := c) (i0 := i0) (dbl := dbl) (l4 := ((B ^ pc s - 1 : Nat) : Int)) (by omega) hB2 hs9 hT (by omega) h35 h32 (fun r => (hok r).1) i1 (nd (lfM B (pc s) c) (2 ^ i0)) 99 (vI (lfM B (pc s) c : Int)) (by omega) (fun t z => z)
      have hr : r = mnQ L e B s c := by
        obtain ⟨o1, o2, o3⟩ := hok c
        have hge : ∀ q, (∀ t, q.testBit t = true → (nd (lfM B (pc s) c) (2 ^ i0)).testBit t = true) → mnQ L e B s c ≤ gvQ L e B s c (2 ^ i0) q := by
          intro q hq
          unfold gvQ
          by_cases hl9 : dcP (Ld L e (mkS s (q ||| 2 ^ i0).testBit)) = true
          · rw [if_pos hl9]
            have hxl : ∀ i, i < pc s → (q ||| 2 ^ i0).testBit i = true → 1 ≤ dgB B c i := fun i _ h => by
              rw [bor, Bool.or_eq_true, decide_eq_true_iff] at h
              rcases h with z | z
              · have := hq i z
                rw [nd_bit, Bool.and_eq_true] at this
                exact (lfM_bit.mp this.1).2
              · rw [← z]; exact g1
            obtain ⟨k1, k2⟩ := rest_D hB3 hxl
            apply Classical.byContradiction
            intro z
            refine o3 (mnQ L e B s (woB B (pc s) (q ||| 2 ^ i0) c) + 1) (by omega) (Cv_cons.mpr ⟨mkS s (q ||| 2 ^ i0).testBit, dcP_iff.mp hl9, ?_⟩)
            rw [← k1, ← k2]
            exact (hok _).2.1
          · rw [if_neg hl9]; omega
        have hup : r ≤ mnQ L e B s c := by
          have hm0 : mnQ L e B s c ≠ 0 := fun z => by
            rw [z] at o2
            obtain ⟨y1, y2⟩ := Cv_0.mp o2
            have hd3 : dgB B c i0 < B := Nat.mod_lt _ (by omega)
            have q1 := mkS_at (P := fun i => decide (dgB B c i = 1)) g0
            have q2 := mkS_at (P := fun i => decide (dgB B c i = 2)) g0
            rw [y1, Nat.zero_testBit] at q1
            rw [y2, Nat.zero_testBit] at q2
            have := of_decide_eq_false q1.symm
            have := of_decide_eq_false q2.symm
            omega
          obtain ⟨m', hm'⟩ : ∃ m', mnQ L e B s c = m' + 1 := ⟨mnQ L e B s c - 1, by omega⟩
          rw [hm'] at o2
          obtain ⟨y, y1, y2, y3, y4, y5⟩ := pick_D hB3 g0 g1 o2
          have ey : nd y (2 ^ i0) ||| 2 ^ i0 = y := Nat.eq_of_testBit_eq fun t => by
            rw [bor, nd_bit, Nat.testBit_two_pow]
            by_cases e9 : i0 = t
            · rw [← e9, y2, decide_eq_true rfl]; rfl
            · rw [decide_eq_false e9]; cases y.testBit t <;> rfl
          have hsubq : ∀ t, (nd y (2 ^ i0)).testBit t = true → (nd (lfM B (pc s) c) (2 ^ i0)).testBit t = true := fun t ht => by
            rw [nd_bit, Bool.and_eq_true] at ht
            rw [nd_bit, lfM_bit.mpr ⟨bit_lt y1 ht.1, y3 t (bit_lt y1 ht.1) ht.1⟩, ht.2]; rfl
          have hqle : nd y (2 ^ i0) ≤ nd (lfM B (pc s) c) (2 ^ i0) := by
            have e1 : nd y (2 ^ i0) &&& nd (lfM B (pc s) c) (2 ^ i0) = nd y (2 ^ i0) := Nat.eq_of_testBit_eq fun t => by
              rw [Nat.testBit_and]
              cases hx : (nd y (2 ^ i0)).testBit t with
              | false => rfl
              | true => rw [hsubq t hx]; rfl
            have := Nat.and_le_right (n := nd y (2 ^ i0)) (m := nd (lfM B (pc s) c) (2 ^ i0))
            omega
          have h9 := r4 _ hqle hsubq
          unfold gvQ at h9
          rw [ey, if_pos (dcP_iff.mpr y4)] at h9
          have h10 : mnQ L e B s (woB B (pc s) y c) ≤ m' := by
            apply Classical.byContradiction
            intro z
            exact (hok (woB B (pc s) y c)).2.2 m' (by omega) y5
          omega
        have hlow : mnQ L e B s c ≤ r := by
          rcases r3 with z | ⟨q, q1, q2, q3⟩
          · omega
          · rw [q3]; exact hge q q2
        omega
      have hni : b_an (lfM B (pc s) c : Int) (w32 (-(lfM B (pc s) c : Int))) = ((2 ^ i0 : Nat) : Int) := zb_low (by omega) i1 i2
      rw [b_M_laysMen_164, if_neg (by omega), s_M_leftIn (by omega) hB5 hT (by omega) (by omega)]
      simp only [ab_ci]
      rw [b_M_laysMen_178, hni, zb_xr (by omega) (by omega), exr]
      have r1' : at_ X d cd_M_laysMen 206 [vR 12 0, vU, vU, vI dbl, vI ((B ^ pc s - 1 : Nat) : Int), vU, vI (c : Int), vI (lfM B (pc s) c : Int), vI ((2 ^ i0 : Nat) : Int), vI 99, vI (nd (lfM B (pc s) c) (2 ^ i0) : Nat), vI (nd (lfM B (pc s) c) (2 ^ i0) : Nat), vI 0, vU, vU] [] (hp D3) = _ := r1
      rw [r1']
      refine ih (c + 1) _ _ (by omega) (by omega) (hT.on (by rw [u3_t (by omega)]) (fun t k ht => by rw [u3_t (by omega)])) (fun x hx => by rw [u3_t (by omega)]; exact h35 x hx) (fun q hq => ?_) (hf.u ⟨rfl, Or.inr ⟨by omega, by omega⟩⟩)
      by_cases eq : q = c
      · rw [eq, u3_eq, hr]
      · rw [u3_k eq]; exact h32 q (by omega)
  rw [e_M_laysMen, a1, b1]
  refine key (B ^ pc s - 1) 1 D2 vU (by omega) (by omega) b2 b4 (fun r hr => ?_) (a3.tr b5)
  have : r = 0 := by omega
  subst this
  rw [b3]
  have z0 : ∀ i, dgB B 0 i = 0 := fun i => by unfold dgB; rw [Nat.zero_div, Nat.zero_mod]
  have : mnQ L e B s 0 = 0 := by
    apply Classical.byContradiction
    intro z
    refine (hok 0).2.2 0 (by omega) (Cv_0.mpr ⟨bit0 fun t => ?_, bit0 fun t => ?_⟩)
    · cases h : (mkS s (fun i => decide (dgB B 0 i = 1))).testBit t with
      | false => rfl
      | true =>
        obtain ⟨i, _, i2, _⟩ := mkS_bit.mp h
        have := of_decide_eq_true i2
        rw [z0] at this
        omega
    · cases h : (mkS s (fun i => decide (dgB B 0 i = 2))).testBit t with
      | false => rfl
      | true =>
        obtain ⟨i, _, i2, _⟩ := mkS_bit.mp h
        have := of_decide_eq_true i2
        rw [z0] at this
        omega
  rw [this]; rfl
end
