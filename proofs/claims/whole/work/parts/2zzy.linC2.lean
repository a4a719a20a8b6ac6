/-! lore: words and lines, the class -/
section
theorem isW_gen {D : DD} {T W : List Nat} {n s e : Nat} (F : Int → Option (Option ab_V × ab_H)) (hF : ∀ l2 : Int, F l2 = if (W.length : Int) ≤ l2 then some (some (vI 1), hp D) else if (0 : Int) ≤ (w32 ((D 7 0 7) + l2)) ∧ (w32 ((D 7 0 7) + l2)) < 500 then if (0 : Int) ≤ l2 ∧ l2 < (W.length : Int) then if (D 61 0 (w32 ((D 7 0 7) + l2)).toNat) = ((W.getD (l2).toNat 0 : Nat) : Int) then F (w32 (l2 + 1)) else some (some (vI 0), hp D) else none else none) (hT : okT T n) (hC : CT D T n) (e7 : D 7 0 7 = (s : Int)) (hse : s ≤ e) (hen : e ≤ n) (hw : ∀ k, k < W.length → W.getD k 0 < 128) (hl : e - s = W.length) : F 0 = some (some (vI (if wdB T s e W = true then 1 else 0)), hp D) := by
  have h5 := hT.1
  have key : ∀ (m j : Nat), j + m = W.length → (∀ k, k < j → T.getD (s + k) 0 = W.getD k 0) → F (j : Int) = some (some (vI (if wdB T s e W = true then 1 else 0)), hp D) := by
    intro m
    induction m with
    | zero =>
      intro j hj hm
      rw [hF, if_pos (by omega), if_pos (wdB_iff.mpr ⟨hl, fun k hk => hm k (by omega)⟩)]
    | succ m ih =>
      intro j hj hm
      have hc : D 61 0 (s + j) = (W.getD j 0 : Nat) ↔ T.getD (s + j) 0 = W.getD j 0 := by
        rw [hC.2 (s + j) (by omega)]
        exact w8_e (hT.2 _) (hw j (by omega))
      rw [hF, if_neg (by omega), e7, zb_w (n := (s : Int) + (j : Int)) (by omega) (by omega), if_pos (by omega), if_pos (by omega), tn (n := s + j) (by omega), Int.toNat_natCast]
      by_cases c : T.getD (s + j) 0 = W.getD j 0
      · rw [if_pos (hc.mpr c), zb_s (by omega)]
        exact ih (j + 1) (by omega) fun k hk => by
          by_cases ek : k = j
          · rw [ek]; exact c
          · exact hm k (by omega)
      · rw [if_neg (fun z => c (hc.mp z)), if_neg (fun z => c ((wdB_iff.mp z).2 j (by omega)))]
  exact key W.length 0 (by omega) (fun k hk => by omega)
theorem isW_fin {D : DD} {T W : List Nat} {n q : Nat} {F : Option (Option ab_V × ab_H)} (hT : okT T n) (hq : q ≤ n) (h : RD D T n q) (g : tE T n q - tS T n q = W.length → F = some (some (vI (if wdB T (tS T n q) (tE T n q) W = true then 1 else 0)), hp D)) : (if (D 7 0 8) ≠ 1 then some (some (vI 0), hp D) else if (w32 ((D 7 0 6) - (D 7 0 7))) = (W.length : Int) then F else some (some (vI 0), hp D)) = some (some (vI (if tK T n q ≤ 6 ∧ wdB T (tS T n q) (tE T n q) W = true then 1 else 0)), hp D) := by
  have h5 := hT.1
  have hE := tE_b (T := T) hq
  have hk := tK_le (T := T) (n := n) (q := q)
  by_cases c : tK T n q ≤ 6
  · have e8 : D 7 0 8 = 1 := by rw [h.2.2.2.1]; unfold ckd; rw [if_neg (by omega), if_pos c]
    rw [if_neg (fun z => z e8), h.2.1, h.2.2.1, zb_w (by omega) (by omega)]
    by_cases c2 : tE T n q - tS T n q = W.length
    · rw [if_pos (by omega), g c2]
      by_cases c3 : wdB T (tS T n q) (tE T n q) W = true
      · rw [if_pos c3, if_pos ⟨c, c3⟩]
      · rw [if_neg c3, if_neg (fun z => c3 z.2)]
    · rw [if_neg (by omega), if_neg (fun z => c2 (wdB_iff.mp z.2).1)]
  · have e8 : D 7 0 8 ≠ 1 := by rw [h.2.2.2.1]; unfold ckd; repeat' split
                                all_goals omega
    rw [if_pos e8, if_neg (fun z => c z.1)]
theorem s_C_isWord1 {X : Nat × (Nat → Int)} {d : Nat} {D : DD} {T : List Nat} {n q : Nat} (hd : 1 ≤ d) (hT : okT T n) (hq : q ≤ n) (h : RD D T n q) : ev X d m_Reader_isWord [vR 7 0, vS 1] (hp D) = some (some (vI (if tK T n q ≤ 6 ∧ wdB T (tS T n q) (tE T n q) (ab_tx 1) = true then 1 else 0)), hp D) := by
  obtain ⟨d, rfl⟩ : ∃ e, d = e + 1 := ⟨d - 1, by omega⟩
  have g := isW_gen (D := D) (T := T) (W := ab_tx 1) (n := n) (s := tS T n q) (e := tE T n q) (fun l2 => at_ X d cd_Reader_isWord 28 [vR 7 0, vS 1, vI l2] [] (hp D)) (fun l2 => b_Reader_isWord1_28 X d D l2) hT h.1 h.2.2.1 (tE_b (T := T) hq).1 (tE_b (T := T) hq).2 (by decide)
  rw [e_Reader_isWord1, b_Reader_isWord1_0]
  exact isW_fin hT hq h g
theorem s_C_isWord2 {X : Nat × (Nat → Int)} {d : Nat} {D : DD} {T : List Nat} {n q : Nat} (hd : 1 ≤ d) (hT : okT T n) (hq : q ≤ n) (h : RD D T n q) : ev X d m_Reader_isWord [vR 7 0, vS 2] (hp D) = some (some (vI (if tK T n q ≤ 6 ∧ wdB T (tS T n q) (tE T n q) (ab_tx 2) = true then 1 else 0)), hp D) := by
  obtain ⟨d, rfl⟩ : ∃ e, d = e + 1 := ⟨d - 1, by omega⟩
  have g := isW_gen (D := D) (T := T) (W := ab_tx 2) (n := n) (s := tS T n q) (e := tE T n q) (fun l2 => at_ X d cd_Reader_isWord 28 [vR 7 0, vS 2, vI l2] [] (hp D)) (fun l2 => b_Reader_isWord2_28 X d D l2) hT h.1 h.2.2.1 (tE_b (T := T) hq).1 (tE_b (T := T) hq).2 (by decide)
  rw [e_Reader_isWord2, b_Reader_isWord2_0]
  exact isW_fin hT hq h g
theorem s_C_isWord3 {X : Nat × (Nat → Int)} {d : Nat} {D : DD} {T : List Nat} {n q : Nat} (hd : 1 ≤ d) (hT : okT T n) (hq : q ≤ n) (h : RD D T n q) : ev X d m_Reader_isWord [vR 7 0, vS 3] (hp D) = some (some (vI (if tK T n q ≤ 6 ∧ wdB T (tS T n q) (tE T n q) (ab_tx 3) = true then 1 else 0)), hp D) := by
  obtain ⟨d, rfl⟩ : ∃ e, d = e + 1 := ⟨d - 1, by omega⟩
  have g := isW_gen (D := D) (T := T) (W := ab_tx 3) (n := n) (s := tS T n q) (e := tE T n q) (fun l2 => at_ X d cd_Reader_isWord 28 [vR 7 0, vS 3, vI l2] [] (hp D)) (fun l2 => b_Reader_isWord3_28 X d D l2) hT h.1 h.2.2.1 (tE_b (T := T) hq).1 (tE_b (T := T) hq).2 (by decide)
  rw [e_Reader_isWord3, b_Reader_isWord3_0]
  exact isW_fin hT hq h g
theorem s_C_isWord4 {X : Nat × (Nat → Int)} {d : Nat} {D : DD} {T : List Nat} {n q : Nat} (hd : 1 ≤ d) (hT : okT T n) (hq : q ≤ n) (h : RD D T n q) : ev X d m_Reader_isWord [vR 7 0, vS 4] (hp D) = some (some (vI (if tK T n q ≤ 6 ∧ wdB T (tS T n q) (tE T n q) (ab_tx 4) = true then 1 else 0)), hp D) := by
  obtain ⟨d, rfl⟩ : ∃ e, d = e + 1 := ⟨d - 1, by omega⟩
  have g := isW_gen (D := D) (T := T) (W := ab_tx 4) (n := n) (s := tS T n q) (e := tE T n q) (fun l2 => at_ X d cd_Reader_isWord 28 [vR 7 0, vS 4, vI l2] [] (hp D)) (fun l2 => b_Reader_isWord4_28 X d D l2) hT h.1 h.2.2.1 (tE_b (T := T) hq).1 (tE_b (T := T) hq).2 (by decide)
  rw [e_Reader_isWord4, b_Reader_isWord4_0]
  exact isW_fin hT hq h g
theorem s_C_isWord5 {X : Nat × (Nat → Int)} {d : Nat} {D : DD} {T : List Nat} {n q : Nat} (hd : 1 ≤ d) (hT : okT T n) (hq : q ≤ n) (h : RD D T n q) : ev X d m_Reader_isWord [vR 7 0, vS 5] (hp D) = some (some (vI (if tK T n q ≤ 6 ∧ wdB T (tS T n q) (tE T n q) (ab_tx 5) = true then 1 else 0)), hp D) := by
  obtain ⟨d, rfl⟩ : ∃ e, d = e + 1 := ⟨d - 1, by omega⟩
  have g := isW_gen (D := D) (T := T) (W := ab_tx 5) (n := n) (s := tS T n q) (e := tE T n q) (fun l2 => at_ X d cd_Reader_isWord 28 [vR 7 0, vS 5, vI l2] [] (hp D)) (fun l2 => b_Reader_isWord5_28 X d D l2) hT h.1 h.2.2.1 (tE_b (T := T) hq).1 (tE_b (T := T) hq).2 (by decide)
  rw [e_Reader_isWord5, b_Reader_isWord5_0]
  exact isW_fin hT hq h g
theorem s_C_isWord6 {X : Nat × (Nat → Int)} {d : Nat} {D : DD} {T : List Nat} {n q : Nat} (hd : 1 ≤ d) (hT : okT T n) (hq : q ≤ n) (h : RD D T n q) : ev X d m_Reader_isWord [vR 7 0, vS 6] (hp D) = some (some (vI (if tK T n q ≤ 6 ∧ wdB T (tS T n q) (tE T n q) (ab_tx 6) = true then 1 else 0)), hp D) := by
  obtain ⟨d, rfl⟩ : ∃ e, d = e + 1 := ⟨d - 1, by omega⟩
  have g := isW_gen (D := D) (T := T) (W := ab_tx 6) (n := n) (s := tS T n q) (e := tE T n q) (fun l2 => at_ X d cd_Reader_isWord 28 [vR 7 0, vS 6, vI l2] [] (hp D)) (fun l2 => b_Reader_isWord6_28 X d D l2) hT h.1 h.2.2.1 (tE_b (T := T) hq).1 (tE_b (T := T) hq).2 (by decide)
  rw [e_Reader_isWord6, b_Reader_isWord6_0]
  exact isW_fin hT hq h g
theorem tK_w {T : List Nat} {n q : Nat} (h : tK T n q ≤ 6) : tK T n q = keyT T (tS T n q) (tE T n q) := by
  unfold tK at h ⊢
  by_cases c0 : n ≤ tS T n q
  · rw [if_pos c0] at h; omega
  rw [if_neg c0] at h ⊢
  by_cases c1 : sml (T.getD (tS T n q) 0) = true
  · rw [if_pos c1]
  · rw [if_neg c1] at h
    split at h
    · split at h <;> omega
    · split at h <;> omega
theorem s_C_lineHere {X : Nat × (Nat → Int)} {d : Nat} {D : DD} {T : List Nat} {n q : Nat} (hd : 2 ≤ d) (hT : okT T n) (hq : q ≤ n) (h : RD D T n q) : ev X d m_Reader_lineHere [vR 7 0] (hp D) = some (some (vI (if tK T n q ≤ 5 then (tK T n q : Int) else -1)), hp D) := by
  obtain ⟨d, rfl⟩ : ∃ e, d = e + 1 := ⟨d - 1, by omega⟩
  have hd1 : 1 ≤ d := by omega
  rw [e_Reader_lineHere, b_Reader_lineHere_0, s_C_isWord1 hd1 hT hq h]
  simp only [ab_ci]
  rw [b_Reader_lineHere_6, s_C_isWord2 hd1 hT hq h]
  simp only [ab_ci]
  rw [b_Reader_lineHere_17, s_C_isWord3 hd1 hT hq h]
  simp only [ab_ci]
  rw [b_Reader_lineHere_28, s_C_isWord4 hd1 hT hq h]
  simp only [ab_ci]
  rw [b_Reader_lineHere_39, s_C_isWord5 hd1 hT hq h]
  simp only [ab_ci]
  rw [b_Reader_lineHere_50, s_C_isWord6 hd1 hT hq h]
  simp only [ab_ci]
  rw [b_Reader_lineHere_61]
  by_cases c : tK T n q ≤ 6
  · have ek := tK_w c
    simp only [c, true_and]
    rw [ek]
    unfold keyT
    by_cases c1 : wdB T (tS T n q) (tE T n q) (ab_tx 1) = true
    · simp [c1]
    by_cases c2 : wdB T (tS T n q) (tE T n q) (ab_tx 2) = true
    · simp [c1, c2]
    by_cases c3 : wdB T (tS T n q) (tE T n q) (ab_tx 3) = true
    · simp [c1, c2, c3]
    by_cases c4 : wdB T (tS T n q) (tE T n q) (ab_tx 4) = true
    · simp [c1, c2, c3, c4]
    by_cases c5 : wdB T (tS T n q) (tE T n q) (ab_tx 5) = true
    · simp [c1, c2, c3, c4, c5]
    by_cases c6 : wdB T (tS T n q) (tE T n q) (ab_tx 6) = true
    · simp [c1, c2, c3, c4, c5, c6]
    · simp [c1, c2, c3, c4, c5, c6]
  · simp only [c, false_and, if_false, if_true]
    rw [if_neg (by omega)]
abbrev lnS (T : List Nat) (n : Nat) (b : BdR) : BdR := bnE b fun z => bnE (sgnP T n z.2) fun e => .inr (z.1, e)
theorem s_C_lThings {X : Nat × (Nat → Int)} {d : Nat} {D : DD} {T : List Nat} {n q : Nat} {L : Nat → Nat} (hd : 8 ≤ d) (hT : okT T n) (hq : q ≤ n) (hL : okP L) (hl : LQ D L) (h : RKq D T n q) : cO X d m_Reader_readThings [vR 7 0] D (lnS T n (bThings T n L q)) (PL T n) := by
  obtain ⟨d, rfl⟩ : ∃ e, d = e + 1 := ⟨d - 1, by omega⟩
  have e1 := tE_le (T := T) hq
  have e0 : D 5 0 0 = (L 0 : Int) := hl.1.1.1
  unfold bThings
  by_cases c : 0 < L 0
  · obtain ⟨D1, a1, a2, a3⟩ := s_C_fail (X := X) (d := d) (D := D) (w := 4) (by omega) h.1
    have a1 : ev X d m_Reader_fail [vR 7 0, vI 4] (hp D) = _ := a1
    rw [if_pos c]
    show ∃ D', _ ∧ _ ∧ _
    rw [e_Reader_readThings, b_Reader_readThings_0, e0, if_neg (by omega), a1]
    simp only [ab_ci]
    rw [b_Reader_readThings_15, if_pos (Or.inl rfl)]
    exact ⟨D1, rfl, a2, a3⟩
  rw [if_neg c]
  have r := s_C_readNumber (X := X) (d := d) (D := D) (lo := 1) (hi := 17) (un := -1) (p2 := 16) (by omega) hT hq (by decide) h
  unfold cO at r
  cases hn : numP T n 1 17 (-1) (tE T n q) with
  | inl e =>
    rw [hn] at r
    obtain ⟨D2, b1, b2, b3⟩ := r
    have b1 : ev X d m_Reader_readNumber [vR 7 0, vI 1, vI 16, vI (-1)] (hp D) = _ := b1
    show ∃ D', _ ∧ _ ∧ _
    rw [e_Reader_readThings, b_Reader_readThings_0, e0, if_pos (by omega), b1]
    simp only [ab_ci]
    rw [b_Reader_readThings_24, if_neg (by decide)]
    exact ⟨D2, rfl, b2, b3⟩
  | inr x =>
    rw [hn] at r
    obtain ⟨_, _, x1, x2, _⟩ := numP_r hn
    obtain ⟨D2, b1, ⟨b2, b4, b5⟩, b3⟩ := r
    have b1 : ev X d m_Reader_readNumber [vR 7 0, vI 1, vI 16, vI (-1)] (hp D) = _ := b1
    have hl2 : LQ (u3 D2 5 0 0 (x : Int)) (thL L x) := LQ_th (hl.fr b4) (by omega) x1 x2
    have hr2 : RKq (u3 D2 5 0 0 (x : Int)) T n (tE T n q) := b2.on (fun k => u3_t (by omega)) (fun k => u3_t (by omega))
    refine cO_sign (D1 := u3 D2 5 0 0 (x : Int)) (by omega) hT e1.2 hl2 hr2 (b3.u (Or.inr ⟨Or.inl rfl, rfl⟩)) fun b D' hb hs => ?_
    rw [e_Reader_readThings, b_Reader_readThings_0, e0, if_pos (by omega), b1]
    simp only [ab_ci]
    rw [b_Reader_readThings_24, if_pos (by decide), b5, hs]
    simp only [ab_ci]
    rw [b_Reader_readThings_44, if_pos hb]
theorem s_C_lMind {X : Nat × (Nat → Int)} {d : Nat} {D : DD} {T : List Nat} {n q : Nat} {L : Nat → Nat} (hd : 8 ≤ d) (hT : okT T n) (hq : q ≤ n) (hl : LQ D L) (h : RKq D T n q) : cO X d m_Reader_readMind [vR 7 0] D (lnS T n (bMind T n L q)) (PL T n) := by
  obtain ⟨d, rfl⟩ : ∃ e, d = e + 1 := ⟨d - 1, by omega⟩
  have e1 := tE_le (T := T) hq
  unfold bMind
  have r := s_C_readNumber (X := X) (d := d) (D := D) (lo := 1) (hi := 10) (un := -1) (p2 := 9) (by omega) hT hq (by decide) h
  unfold cO at r
  cases hn : numP T n 1 10 (-1) (tE T n q) with
  | inl e =>
    rw [hn] at r
    obtain ⟨D2, b1, b2, b3⟩ := r
    have b1 : ev X d m_Reader_readNumber [vR 7 0, vI 1, vI 9, vI (-1)] (hp D) = _ := b1
    show ∃ D', _ ∧ _ ∧ _
    rw [e_Reader_readMind, b_Reader_readMind_0, b1]
    simp only [ab_ci]
    rw [b_Reader_readMind_8, if_neg (by decide)]
    exact ⟨D2, rfl, b2, b3⟩
  | inr x =>
    rw [hn] at r
    obtain ⟨D2, b1, ⟨b2, b4, b5⟩, b3⟩ := r
    have b1 : ev X d m_Reader_readNumber [vR 7 0, vI 1, vI 9, vI (-1)] (hp D) = _ := b1
    have hl2 : LQ (u3 D2 5 0 1 (x : Int)) (upL L 1 x) := LQ_mi (hl.fr b4)
    have hr2 : RKq (u3 D2 5 0 1 (x : Int)) T n (tE T n q) := b2.on (fun k => u3_t (by omega)) (fun k => u3_t (by omega))
    refine cO_sign (D1 := u3 D2 5 0 1 (x : Int)) (by omega) hT e1.2 hl2 hr2 (b3.u (Or.inr ⟨Or.inl rfl, rfl⟩)) fun b D' hb hs => ?_
    rw [e_Reader_readMind, b_Reader_readMind_0, b1]
    simp only [ab_ci]
    rw [b_Reader_readMind_8, if_pos (by decide), b5, hs]
    simp only [ab_ci]
    rw [b_Reader_readMind_28, if_pos hb]
theorem s_C_lWorth {X : Nat × (Nat → Int)} {d : Nat} {D : DD} {T : List Nat} {n q : Nat} {L : Nat → Nat} (hd : 9 ≤ d) (hT : okT T n) (hq : q ≤ n) (hL : okP L) (hl : LQ D L) (h : RKq D T n q) : cO X d m_Reader_readWorth [vR 7 0] D (lnS T n (bWorth T n L q)) (PL T n) := by
  obtain ⟨d, rfl⟩ : ∃ e, d = e + 1 := ⟨d - 1, by omega⟩
  have e1 := tE_le (T := T) hq
  have e2 := tE_le (T := T) e1.2
  have h16 := hL.1.1.1
  unfold bWorth
  have r := s_C_readThing (X := X) (d := d) (D := D) (un := -1) (by omega) hT hq hL hl h
  unfold cO at r
  cases hn : numP T n 0 (L 0) (-1) (tE T n q) with
  | inl e =>
    rw [hn] at r
    obtain ⟨D2, b1, b2, b3⟩ := r
    show ∃ D', _ ∧ _ ∧ _
    rw [e_Reader_readWorth, b_Reader_readWorth_0, b1]
    simp only [ab_ci]
    rw [b_Reader_readWorth_15, if_neg (by decide)]
    exact ⟨D2, rfl, b2, b3⟩
  | inr t =>
    rw [hn] at r
    obtain ⟨_, _, _, t2, _⟩ := numP_r hn
    obtain ⟨D2, b1, ⟨b2, b4, b5⟩, b3⟩ := r
    have r2 := s_C_readNumber (X := X) (d := d) (D := D2) (lo := 0) (hi := 100) (un := -1) (p2 := 99) (by omega) hT e1.2 (by decide) b2
    unfold cO at r2
    show cO X (d + 1) m_Reader_readWorth [vR 7 0] D (lnS T n (bnE (numP T n 0 100 (-1) (tE T n (tE T n q))) fun x => .inr (upL L (34 + t) x, tE T n (tE T n (tE T n q))))) (PL T n)
    cases hn2 : numP T n 0 100 (-1) (tE T n (tE T n q)) with
    | inl e =>
      rw [hn2] at r2
      obtain ⟨D3, c1, c2, c3⟩ := r2
      have c1 : ev X d m_Reader_readNumber [vR 7 0, vI 0, vI 99, vI (-1)] (hp D2) = _ := c1
      show ∃ D', _ ∧ _ ∧ _
      rw [e_Reader_readWorth, b_Reader_readWorth_0, b1]
      simp only [ab_ci]
      rw [b_Reader_readWorth_15, if_pos (by decide), c1]
      simp only [ab_ci]
      rw [b_Reader_readWorth_33, if_neg (by decide)]
      exact ⟨D3, rfl, c2, b3.tr c3⟩
    | inr x =>
      rw [hn2] at r2
      obtain ⟨D3, c1, ⟨c2, c4, c5⟩, c3⟩ := r2
      have c1 : ev X d m_Reader_readNumber [vR 7 0, vI 0, vI 99, vI (-1)] (hp D2) = _ := c1
      have hl2 : LQ (u3 D3 53 0 t (x : Int)) (upL L (34 + t) x) := LQ_wo t2 h16 ((hl.fr b4).fr c4)
      have hr2 : RKq (u3 D3 53 0 t (x : Int)) T n (tE T n (tE T n q)) := c2.on (fun k => u3_t (by omega)) (fun k => u3_t (by omega))
      refine cO_sign (D1 := u3 D3 53 0 t (x : Int)) (by omega) hT e2.2 hl2 hr2 ((b3.tr c3).u (Or.inr ⟨Or.inr (by omega), rfl⟩)) fun b D' hb hs => ?_
      rw [e_Reader_readWorth, b_Reader_readWorth_0, b1]
      simp only [ab_ci]
      rw [b_Reader_readWorth_15, if_pos (by decide), c1]
      simp only [ab_ci]
      rw [b_Reader_readWorth_33, if_pos (by decide), b5, if_pos (by omega), Int.toNat_natCast, c5, hs]
      simp only [ab_ci]
      rw [b_Reader_readWorth_55, if_pos hb]
theorem s_C_lPair {X : Nat × (Nat → Int)} {d : Nat} {D : DD} {T : List Nat} {n q : Nat} {L : Nat → Nat} {sec : Bool} (hd : 9 ≤ d) (hT : okT T n) (hq : q ≤ n) (hL : okP L) (hl : LQ D L) (h : RKq D T n q) : cO X d m_Reader_readPair [vR 7 0, vI (if sec = true then 1 else 0)] D (lnS T n (bPair T n L sec q)) (PL T n) := by
  obtain ⟨d, rfl⟩ : ∃ e, d = e + 1 := ⟨d - 1, by omega⟩
  have e1 := tE_le (T := T) hq
  have e2 := tE_le (T := T) e1.2
  have h16 := hL.1.1.1
  unfold bPair
  have r := s_C_readThing (X := X) (d := d) (D := D) (un := -1) (by omega) hT hq hL hl h
  unfold cO at r
  cases hn : numP T n 0 (L 0) (-1) (tE T n q) with
  | inl e =>
    rw [hn] at r
    obtain ⟨D2, b1, b2, b3⟩ := r
    show ∃ D', _ ∧ _ ∧ _
    rw [e_Reader_readPair, b_Reader_readPair_0, b1]
    simp only [ab_ci]
    rw [b_Reader_readPair_15, if_neg (by decide)]
    exact ⟨D2, rfl, b2, b3⟩
  | inr a =>
    rw [hn] at r
    obtain ⟨_, _, _, t2, _⟩ := numP_r hn
    obtain ⟨D2, b1, ⟨b2, b4, b5⟩, b3⟩ := r
    have r2 := s_C_readThing (X := X) (d := d) (D := D2) (un := (a : Int)) (by omega) hT e1.2 hL (hl.fr b4) b2
    unfold cO at r2
    show cO X (d + 1) m_Reader_readPair [vR 7 0, vI (if sec = true then 1 else 0)] D (lnS T n (bnE (numP T n 0 (L 0) (a : Int) (tE T n (tE T n q))) fun b => .inr (prL_ L sec a b, tE T n (tE T n (tE T n q))))) (PL T n)
    cases hn2 : numP T n 0 (L 0) (a : Int) (tE T n (tE T n q)) with
    | inl e =>
      rw [hn2] at r2
      obtain ⟨D3, c1, c2, c3⟩ := r2
      show ∃ D', _ ∧ _ ∧ _
      rw [e_Reader_readPair, b_Reader_readPair_0, b1]
      simp only [ab_ci]
      rw [b_Reader_readPair_15, if_pos (by decide), b5, c1]
      simp only [ab_ci]
      rw [b_Reader_readPair_40, if_neg (by decide)]
      exact ⟨D3, rfl, c2, b3.tr c3⟩
    | inr x =>
      rw [hn2] at r2
      obtain ⟨_, _, _, x2, x3⟩ := numP_r hn2
      obtain ⟨D3, c1, ⟨c2, c4, c5⟩, c3⟩ := r2
      have hl3 := (hl.fr b4).fr c4
      have hx2 : (2 : Nat) ^ x < 2 ^ 16 := zb_p2 (by omega)
      have ha2 : (2 : Nat) ^ a < 2 ^ 16 := zb_p2 (by omega)
      cases sec with
      | false =>
        have e51 : D3 51 0 a = (L (2 + a) : Int) := hl3.1.2.1 a (by omega)
        have hb2 := hL.1.r (t := a) (by omega)
        have hl2 : LQ (u3 D3 51 0 a ((L (2 + a) ||| 2 ^ x : Nat) : Int)) (upL L (2 + a) (L (2 + a) ||| 2 ^ x)) := LQ_rh (by omega) hl3
        have hr2 : RKq (u3 D3 51 0 a ((L (2 + a) ||| 2 ^ x : Nat) : Int)) T n (tE T n (tE T n q)) := c2.on (fun k => u3_t (by omega)) (fun k => u3_t (by omega))
        refine cO_sign (D1 := u3 D3 51 0 a ((L (2 + a) ||| 2 ^ x : Nat) : Int)) (by omega) hT e2.2 hl2 hr2 ((b3.tr c3).u (Or.inr ⟨Or.inr (by omega), rfl⟩)) fun b D' hb hs => ?_
        rw [e_Reader_readPair, b_Reader_readPair_0, b1]
        simp only [ab_ci]
        rw [b_Reader_readPair_15, if_pos (by decide), b5, c1]
        simp only [ab_ci]
        rw [b_Reader_readPair_40, if_pos (by decide), if_pos (by decide), if_pos (by omega), if_pos (by omega), Int.toNat_natCast, e51, c5, zb_sl (by omega), zb_or (by omega) (by omega), b_Reader_readPair_106, hs]
        simp only [ab_ci]
        rw [b_Reader_readPair_110, if_pos hb]
      | true =>
        have e52 : D3 52 0 a = (L (18 + a) : Int) := hl3.1.2.2.1 a (by omega)
        have e52x : D3 52 0 x = (L (18 + x) : Int) := hl3.1.2.2.1 x (by omega)
        have hb2 := hL.1.s (t := a) (by omega)
        have hb3 := hL.1.s (t := x) (by omega)
        have hax : x ≠ a := by omega
        have hl2' : LQ (u3 D3 52 0 a ((L (18 + a) ||| 2 ^ x : Nat) : Int)) (upL L (18 + a) (L (18 + a) ||| 2 ^ x)) := LQ_se (by omega) hl3
        have hl2 : LQ (u3 (u3 D3 52 0 a ((L (18 + a) ||| 2 ^ x : Nat) : Int)) 52 0 x ((L (18 + x) ||| 2 ^ a : Nat) : Int)) (upL (upL L (18 + a) (L (18 + a) ||| 2 ^ x)) (18 + x) (L (18 + x) ||| 2 ^ a)) := LQ_se (by omega) hl2'
        have hr2 : RKq (u3 (u3 D3 52 0 a ((L (18 + a) ||| 2 ^ x : Nat) : Int)) 52 0 x ((L (18 + x) ||| 2 ^ a : Nat) : Int)) T n (tE T n (tE T n q)) := c2.on (fun k => by rw [u3_t (by omega), u3_t (by omega)]) (fun k => by rw [u3_t (by omega), u3_t (by omega)])
        refine cO_sign (D1 := u3 (u3 D3 52 0 a ((L (18 + a) ||| 2 ^ x : Nat) : Int)) 52 0 x ((L (18 + x) ||| 2 ^ a : Nat) : Int)) (by omega) hT e2.2 hl2 hr2 (((b3.tr c3).u (Or.inr ⟨Or.inr (by omega), rfl⟩)).u (Or.inr ⟨Or.inr (by omega), rfl⟩)) fun b D' hb hs => ?_
        rw [e_Reader_readPair, b_Reader_readPair_0, b1]
        simp only [ab_ci]
        rw [b_Reader_readPair_15, if_pos (by decide), b5, c1]
        simp only [ab_ci]
        rw [b_Reader_readPair_40, if_pos (by decide), if_neg (by decide), if_pos (by omega), if_pos (by omega), u3_t (by omega), c5, if_pos (by omega), if_pos (by omega), Int.toNat_natCast, Int.toNat_natCast, u3_k hax, e52, e52x, zb_sl (by omega), zb_sl (by omega), zb_or (by omega) (by omega), zb_or (by omega) (by omega), b_Reader_readPair_85, b_Reader_readPair_106, hs]
        simp only [ab_ci]
        rw [b_Reader_readPair_110, if_pos hb]
end
