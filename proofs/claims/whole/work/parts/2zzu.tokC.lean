/-! lore: tokens, the class -/
section
def g1 (c : Nat) : Nat → Nat → Nat → Prop := fun t i k => t = 7 ∧ i = 0 ∧ k = c
def nF : Nat → Nat → Nat → Prop := fun t i k => t = 7 ∧ i = 0 ∧ 6 ≤ k ∧ k ≤ 9
def CT (D : DD) (T : List Nat) (n : Nat) : Prop := D 7 0 5 = (n : Int) ∧ ∀ k, k < n → D 61 0 k = w8 (T.getD k 0 : Nat)
def okT (T : List Nat) (n : Nat) : Prop := n ≤ 500 ∧ ∀ k, T.getD k 0 < 256
theorem CT.fr {D D' : DD} {T : List Nat} {n : Nat} (h : CT D T n) (e : fr nF D D') : CT D' T n := ⟨(e 7 0 5 (by unfold nF; omega)).trans h.1, fun k hk => (e 61 0 k (by unfold nF; omega)).trans (h.2 k hk)⟩
theorem g1_nF {c : Nat} (h1 : 6 ≤ c) (h2 : c ≤ 9) {t i k : Nat} (h : g1 c t i k) : nF t i k := by unfold g1 at h; unfold nF; omega
theorem w8_e {b c : Nat} (hb : b < 256) (hc : c < 128) : w8 (b : Int) = (c : Int) ↔ b = c := by unfold w8; omega
theorem s_C_isLetter {X : Nat × (Nat → Int)} {d : Nat} {D : DD} {b : Nat} (hd : 1 ≤ d) (hb : b < 256) : ev X d m_Reader_isLetter [vI (w8 (b : Int))] (hp D) = some (some (vI (if sml b = true then 1 else 0)), hp D) := by
  obtain ⟨d, rfl⟩ : ∃ e, d = e + 1 := ⟨d - 1, by omega⟩
  rw [e_Reader_isLetter, b_Reader_isLetter_0]
  unfold w8 sml
  by_cases h : 97 ≤ b ∧ b ≤ 122
  · rw [if_neg (by omega), if_neg (by omega), if_pos (decide_eq_true h)]
  · rw [if_neg (show ¬ decide (97 ≤ b ∧ b ≤ 122) = true from fun z => h (of_decide_eq_true z))]
    by_cases h2 : (b + 128 : Int) % 256 - 128 < 97
    · rw [if_pos h2]
    · rw [if_neg h2, if_pos (by omega)]
theorem s_C_isDigit {X : Nat × (Nat → Int)} {d : Nat} {D : DD} {b : Nat} (hd : 1 ≤ d) (hb : b < 256) : ev X d m_Reader_isDigit [vI (w8 (b : Int))] (hp D) = some (some (vI (if dig b = true then 1 else 0)), hp D) := by
  obtain ⟨d, rfl⟩ : ∃ e, d = e + 1 := ⟨d - 1, by omega⟩
  rw [e_Reader_isDigit, b_Reader_isDigit_0]
  unfold w8 dig
  by_cases h : 48 ≤ b ∧ b ≤ 57
  · rw [if_neg (by omega), if_neg (by omega), if_pos (decide_eq_true h)]
  · rw [if_neg (show ¬ decide (48 ≤ b ∧ b ≤ 57) = true from fun z => h (of_decide_eq_true z))]
    by_cases h2 : (b + 128 : Int) % 256 - 128 < 48
    · rw [if_pos h2]
    · rw [if_neg h2, if_pos (by omega)]
/-- the kinds of the class -/
def ckd (k : Nat) : Int := if k = 9 then 0 else if k ≤ 6 then 1 else if k = 7 then 2 else if k = 8 then 3 else 4
def RD (D : DD) (T : List Nat) (n q : Nat) : Prop := CT D T n ∧ D 7 0 6 = (tE T n q : Int) ∧ D 7 0 7 = (tS T n q : Int) ∧ D 7 0 8 = ckd (tK T n q) ∧ (tK T n q = 7 → D 7 0 9 = (tN T n q : Int))
theorem s_C_blanks {X : Nat × (Nat → Int)} {d : Nat} {T : List Nat} {n : Nat} (hT : okT T n) : ∀ (m p : Nat) (D : DD), n - p = m → p ≤ n → CT D T n → D 7 0 6 = (p : Int) → ∃ D', at_ X d cd_Reader_nextToken 0 [vR 7 0] [] (hp D) = at_ X d cd_Reader_nextToken 52 [vR 7 0] [] (hp D') ∧ D' 7 0 6 = (rnT T blk n p : Int) ∧ fr (g1 6) D D' := by
  intro m
  induction m with
  | zero =>
    intro p D h1 h2 hC hp6
    rw [b_Reader_nextToken_0, hC.1, hp6, if_pos (by omega), rnT_n (by omega)]
    exact ⟨D, rfl, hp6, fr.rf D⟩
  | succ m ih =>
    intro p D h1 h2 hC hp6
    have h5 := hT.1
    have hb := hT.2 p
    have q10 : w8 (T.getD p 0 : Nat) = 10 ↔ T.getD p 0 = 10 := w8_e (c := 10) hb (by omega)
    have q32 : w8 (T.getD p 0 : Nat) = 32 ↔ T.getD p 0 = 32 := w8_e (c := 32) hb (by omega)
    have next : ∃ D', at_ X d cd_Reader_nextToken 39 [vR 7 0] [] (hp D) = at_ X d cd_Reader_nextToken 52 [vR 7 0] [] (hp D') ∧ D' 7 0 6 = (rnT T blk n (p + 1) : Int) ∧ fr (g1 6) D D' := by
      rw [b_Reader_nextToken_39, hp6, zb_s (by omega)]
      have f1 : fr (g1 6) D (u3 D 7 0 6 ((p + 1 : Nat) : Int)) := (fr.rf D).u ⟨rfl, rfl, rfl⟩
      obtain ⟨D', a1, a2, a3⟩ := ih (p + 1) (u3 D 7 0 6 ((p + 1 : Nat) : Int)) (by omega) (by omega) (hC.fr (f1.mo fun _ _ _ z => g1_nF (by omega) (by omega) z)) (by rw [u3_eq])
      exact ⟨D', a1, a2, f1.tr a3⟩
    rw [b_Reader_nextToken_0, hC.1, hp6, if_neg (by omega), if_pos (by omega), Int.toNat_natCast, hC.2 p (by omega)]
    by_cases c1 : T.getD p 0 = 10
    · rw [if_pos (q10.mpr c1), rnT_y (by omega) (by unfold blk; exact decide_eq_true (Or.inl c1))]
      exact next
    · rw [if_neg (fun z => c1 (q10.mp z)), if_pos (by omega)]
      by_cases c2 : T.getD p 0 = 32
      · rw [if_neg (show ¬ (w8 (T.getD p 0 : Nat) ≠ 32) from fun z => z (q32.mpr c2)), rnT_y (by omega) (by unfold blk; exact decide_eq_true (Or.inr c2))]
        exact next
      · rw [if_pos (show w8 (T.getD p 0 : Nat) ≠ 32 from fun z => c2 (q32.mp z)), rnT_n (fun z => (of_decide_eq_true z.2).elim c1 c2)]
        exact ⟨D, rfl, hp6, fr.rf D⟩
theorem s_C_letters {X : Nat × (Nat → Int)} {d : Nat} {T : List Nat} {n : Nat} (hd : 1 ≤ d) (hT : okT T n) : ∀ (m p : Nat) (D : DD), n - p = m → p ≤ n → CT D T n → D 7 0 6 = (p : Int) → ∃ D', at_ X d cd_Reader_nextToken 99 [vR 7 0] [] (hp D) = some (none, hp D') ∧ D' 7 0 6 = (rnT T sml n p : Int) ∧ fr (g1 6) D D' := by
  intro m
  induction m with
  | zero =>
    intro p D h1 h2 hC hp6
    rw [b_Reader_nextToken_99, hC.1, hp6, if_pos (by omega), rnT_n (by omega)]
    exact ⟨D, rfl, hp6, fr.rf D⟩
  | succ m ih =>
    intro p D h1 h2 hC hp6
    have h5 := hT.1
    have hb := hT.2 p
    rw [b_Reader_nextToken_99, hC.1, hp6, if_neg (by omega), if_pos (by omega), Int.toNat_natCast, hC.2 p (by omega), s_C_isLetter hd hb]
    simp only [ab_ci]
    rw [b_Reader_nextToken_122]
    by_cases c1 : sml (T.getD p 0) = true
    · rw [if_pos c1, if_neg (by decide), hp6, zb_s (by omega), rnT_y (by omega) c1]
      have f1 : fr (g1 6) D (u3 D 7 0 6 ((p + 1 : Nat) : Int)) := (fr.rf D).u ⟨rfl, rfl, rfl⟩
      obtain ⟨D', a1, a2, a3⟩ := ih (p + 1) (u3 D 7 0 6 ((p + 1 : Nat) : Int)) (by omega) (by omega) (hC.fr (f1.mo fun _ _ _ z => g1_nF (by omega) (by omega) z)) (by rw [u3_eq])
      exact ⟨D', a1, a2, f1.tr a3⟩
    · rw [if_neg c1, if_pos rfl, rnT_n (fun z => c1 z.2)]
      exact ⟨D, rfl, hp6, fr.rf D⟩
def g2 : Nat → Nat → Nat → Prop := fun t i k => t = 7 ∧ i = 0 ∧ (k = 6 ∨ k = 9)
/-- how many digits count -/
def cnt (k : Nat) : Nat := if k ≤ 3 then k else 3
theorem s_C_digits {X : Nat × (Nat → Int)} {d : Nat} {T : List Nat} {n s : Nat} (hd : 1 ≤ d) (hT : okT T n) : ∀ (m p : Nat) (D : DD), n - p = m → p ≤ n → s ≤ p → (∀ j, s ≤ j → j < p → dig (T.getD j 0) = true) → CT D T n → D 7 0 6 = (p : Int) → D 7 0 7 = (s : Int) → D 7 0 9 = (nvT T s (cnt (p - s)) : Int) → ∃ D', at_ X d cd_Reader_takeDigits 5 [vR 7 0] [] (hp D) = at_ X d cd_Reader_takeDigits 81 [vR 7 0] [] (hp D') ∧ D' 7 0 6 = (rnT T dig n p : Int) ∧ D' 7 0 9 = (nvT T s (cnt (rnT T dig n p - s)) : Int) ∧ fr g2 D D' := by
  intro m
  induction m with
  | zero =>
    intro p D h1 h2 hs hj hC hp6 hp7 hp8
    rw [b_Reader_takeDigits_5, hC.1, hp6, if_pos (by omega), rnT_n (by omega)]
    exact ⟨D, rfl, hp6, hp8, fr.rf D⟩
  | succ m ih =>
    intro p D h1 h2 hs hj hC hp6 hp7 hp8
    have h5 := hT.1
    have hb := hT.2 p
    rw [b_Reader_takeDigits_5, hC.1, hp6, if_neg (by omega), if_pos (by omega), Int.toNat_natCast, hC.2 p (by omega), s_C_isDigit hd hb]
    simp only [ab_ci]
    rw [b_Reader_takeDigits_28]
    by_cases c1 : dig (T.getD p 0) = true
    · have hdg := of_decide_eq_true c1
      have hw : w8 (T.getD p 0 : Nat) = (T.getD p 0 : Nat) := (w8_e hb (by omega)).mpr rfl
      have hj' : ∀ j, s ≤ j → j < p + 1 → dig (T.getD j 0) = true := fun j h1 h2 => by
        by_cases e : j = p
        · rw [e]; exact c1
        · exact hj j h1 (by omega)
      rw [if_pos c1, if_neg (by decide), hp6, hp7, zb_w (by omega) (by omega), rnT_y (by omega) c1]
      by_cases c3 : 3 ≤ p - s
      · rw [if_pos (by omega), b_Reader_takeDigits_68, hp6, zb_s (by omega)]
        have f1 : fr g2 D (u3 D 7 0 6 ((p + 1 : Nat) : Int)) := (fr.rf D).u ⟨rfl, rfl, Or.inl rfl⟩
        obtain ⟨D', a1, a2, a3, a4⟩ := ih (p + 1) (u3 D 7 0 6 ((p + 1 : Nat) : Int)) (by omega) (by omega) (by omega) hj' (hC.fr (f1.mo fun t i k z => by unfold g2 at z; unfold nF; omega)) (by rw [u3_eq]) (by rw [u3_k (by omega), hp7]) (by
          rw [u3_k (by omega), hp8]
          unfold cnt
          by_cases e3 : p - s = 3
          · rw [if_pos (by omega), if_neg (by omega), e3]
          · rw [if_neg (by omega), if_neg (by omega)])
        exact ⟨D', a1, a2, a3, f1.tr a4⟩
      · have hv := nvT_lt (T := T) (s := s) (p - s) (fun j hj9 => hj _ (by omega) (by omega))
        have hv2 : 10 ^ (p - s) ≤ 10 ^ 2 := Nat.pow_le_pow_right (by omega) (by omega)
        have ev9 : (10 * (nvT T s (p - s) : Int) + (T.getD p 0 : Nat) - 48 : Int) = (nvT T s (p + 1 - s) : Int) := by
          rw [show p + 1 - s = (p - s) + 1 by omega, nvT, show s + (p - s) = p by omega]
          omega
        have e1 : cnt (p - s) = p - s := by unfold cnt; rw [if_pos (by omega)]
        have e2 : cnt (p + 1 - s) = p + 1 - s := by unfold cnt; rw [if_pos (by omega)]
        rw [if_neg (by omega), if_pos (by omega), Int.toNat_natCast, hC.2 p (by omega), hw, hp8, e1, zb_w (n := 10 * (nvT T s (p - s) : Int)) (by omega) (by omega), zb_w (n := 10 * (nvT T s (p - s) : Int) + (T.getD p 0 : Nat)) (by omega) (by omega), zb_w (by omega) (by omega), ev9, b_Reader_takeDigits_68, u3_k (by omega), hp6, zb_s (by omega)]
        have f1 : fr g2 D (u3 (u3 D 7 0 9 (nvT T s (p + 1 - s) : Int)) 7 0 6 ((p + 1 : Nat) : Int)) := ((fr.rf D).u ⟨rfl, rfl, Or.inr rfl⟩).u ⟨rfl, rfl, Or.inl rfl⟩
        obtain ⟨D', a1, a2, a3, a4⟩ := ih (p + 1) (u3 (u3 D 7 0 9 (nvT T s (p + 1 - s) : Int)) 7 0 6 ((p + 1 : Nat) : Int)) (by omega) (by omega) (by omega) hj' (hC.fr (f1.mo fun t i k z => by unfold g2 at z; unfold nF; omega)) (by rw [u3_eq]) (by rw [u3_k (by omega), u3_k (by omega), hp7]) (by rw [u3_k (by omega), u3_eq, e2])
        exact ⟨D', a1, a2, a3, f1.tr a4⟩
    · rw [if_neg c1, if_pos rfl, rnT_n (fun z => c1 z.2)]
      exact ⟨D, rfl, hp6, hp8, fr.rf D⟩
theorem s_C_nextToken {X : Nat × (Nat → Int)} {d : Nat} {D : DD} {T : List Nat} {n p : Nat} (hd : 3 ≤ d) (hT : okT T n) (hp0 : p ≤ n) (hC : CT D T n) (hp6 : D 7 0 6 = (p : Int)) : ∃ D', ev X d m_Reader_nextToken [vR 7 0] (hp D) = some (none, hp D') ∧ RD D' T n p ∧ fr nF D D' := by
  obtain ⟨d, rfl⟩ : ∃ e, d = e + 1 := ⟨d - 1, by omega⟩
  have h5 := hT.1
  obtain ⟨D1, a1, a2, a3⟩ := s_C_blanks (X := X) (d := d) hT _ p D rfl hp0 hC hp6
  have a2 : D1 7 0 6 = (tS T n p : Int) := a2
  have hs := tS_b (T := T) hp0
  have f1 : fr nF D (u3 D1 7 0 7 (tS T n p : Int)) := (a3.mo fun _ _ _ z => g1_nF (by omega) (by omega) z).u ⟨rfl, rfl, by omega⟩
  have hC1 : CT (u3 D1 7 0 7 (tS T n p : Int)) T n := hC.fr f1
  have e6 : u3 D1 7 0 7 (tS T n p : Int) 7 0 6 = (tS T n p : Int) := by rw [u3_k (by omega), a2]
  have e7 : u3 D1 7 0 7 (tS T n p : Int) 7 0 7 = (tS T n p : Int) := by rw [u3_eq]
  rw [e_Reader_nextToken, a1, b_Reader_nextToken_52, a2]
  generalize u3 D1 7 0 7 (tS T n p : Int) = D2 at f1 hC1 e6 e7 ⊢
  rw [e6, hC1.1]
  by_cases c0 : n ≤ tS T n p
  · rw [if_neg (by omega)]
    have f2 : fr nF D2 (u3 D2 7 0 8 0) := (fr.rf D2).u ⟨rfl, rfl, by omega⟩
    have eE : tE T n p = tS T n p := by unfold tE; rw [if_pos c0]
    have eK : tK T n p = 9 := by unfold tK; rw [if_pos c0]
    exact ⟨_, rfl, ⟨hC1.fr f2, by rw [u3_k (by omega), e6, eE], by rw [u3_k (by omega), e7], by rw [u3_eq, eK]; rfl, fun z => by omega⟩, f1.tr f2⟩
  have hb := hT.2 (tS T n p)
  rw [if_pos (by omega), if_pos (by omega), Int.toNat_natCast, hC1.2 _ (by omega), s_C_isLetter (by omega) hb]
  simp only [ab_ci]
  rw [b_Reader_nextToken_91]
  by_cases c1 : sml (T.getD (tS T n p) 0) = true
  · rw [if_pos c1, if_neg (by decide)]
    have f2 : fr nF D2 (u3 D2 7 0 8 1) := (fr.rf D2).u ⟨rfl, rfl, by omega⟩
    obtain ⟨D3, b1, b2, b3⟩ := s_C_letters (X := X) (d := d) (by omega) hT _ (tS T n p) (u3 D2 7 0 8 1) rfl (by omega) (hC1.fr f2) (by rw [u3_k (by omega), e6])
    have f3 : fr nF D2 D3 := f2.tr (b3.mo fun _ _ _ z => g1_nF (by omega) (by omega) z)
    have eE : tE T n p = rnT T sml n (tS T n p) := by unfold tE; rw [if_neg c0, if_pos c1]
    have eK : tK T n p = keyT T (tS T n p) (tE T n p) := by unfold tK; rw [if_neg c0, if_pos c1]
    have hk := keyT_le (T := T) (s := tS T n p) (e := tE T n p)
    exact ⟨D3, b1, ⟨hC1.fr f3, by rw [b2, eE], by rw [b3 7 0 7 (by unfold g1; omega), u3_k (by omega), e7], by rw [b3 7 0 8 (by unfold g1; omega), u3_eq]; unfold ckd; rw [if_neg (by omega), if_pos (by omega)], fun z => by omega⟩, f1.tr f3⟩
  rw [if_neg c1, if_pos rfl, e6, if_pos (by omega), Int.toNat_natCast, hC1.2 _ (by omega), s_C_isDigit (by omega) hb]
  simp only [ab_ci]
  rw [b_Reader_nextToken_150]
  by_cases c2 : dig (T.getD (tS T n p) 0) = true
  · rw [if_pos c2, if_neg (by decide)]
    obtain ⟨e, rfl⟩ : ∃ e, d = e + 1 := ⟨d - 1, by omega⟩
    have f2 : fr g2 D2 (u3 D2 7 0 9 0) := (fr.rf D2).u ⟨rfl, rfl, Or.inr rfl⟩
    have g2n : ∀ t i k, g2 t i k → nF t i k := fun t i k z => by unfold g2 at z; unfold nF; omega
    obtain ⟨D3, b1, b2, b3, b4⟩ := s_C_digits (X := X) (d := e) (s := tS T n p) (by omega) hT _ (tS T n p) (u3 D2 7 0 9 0) rfl (by omega) (by omega) (fun j h1 h2 => by omega) (hC1.fr (f2.mo g2n)) (by rw [u3_k (by omega), e6]) (by rw [u3_k (by omega), e7]) (by rw [u3_eq, Nat.sub_self]; rfl)
    have eE : tE T n p = rnT T dig n (tS T n p) := by unfold tE; rw [if_neg c0, if_neg c1, if_pos c2]
    have eK : tK T n p = if tE T n p - tS T n p ≤ 3 then 7 else 10 := by unfold tK; rw [if_neg c0, if_neg c1, if_pos c2]
    have hE := tE_b (T := T) hp0
    have f3 : fr g2 D2 D3 := f2.tr b4
    have k7 : D3 7 0 7 = (tS T n p : Int) := (f3 7 0 7 (by unfold g2; omega)).trans e7
    rw [← eE] at b2 b3
    rw [e_Reader_takeDigits, b_Reader_takeDigits_0, b1, b_Reader_takeDigits_81, b2, k7, zb_w (by omega) (by omega)]
    by_cases c3 : tE T n p - tS T n p ≤ 3
    · rw [if_neg (by omega), b_Reader_takeDigits_100]
      simp only [ab_cv]
      rw [b_Reader_nextToken_157]
      have f4 : fr nF D2 (u3 D3 7 0 8 2) := (f3.mo g2n).u ⟨rfl, rfl, by omega⟩
      rw [if_pos c3] at eK
      refine ⟨_, rfl, ⟨hC1.fr f4, by rw [u3_k (by omega), b2], by rw [u3_k (by omega), k7], by rw [u3_eq, eK]; rfl, fun _ => ?_⟩, f1.tr f4⟩
      rw [u3_k (by omega), b3]
      rfl
    · rw [if_pos (by omega), b_Reader_takeDigits_100]
      simp only [ab_cv]
      rw [b_Reader_nextToken_157]
      have f4 : fr nF D2 (u3 D3 7 0 8 4) := (f3.mo g2n).u ⟨rfl, rfl, by omega⟩
      rw [if_neg c3] at eK
      exact ⟨_, rfl, ⟨hC1.fr f4, by rw [u3_k (by omega), b2], by rw [u3_k (by omega), k7], by rw [u3_eq, eK]; rfl, fun z => by omega⟩, f1.tr f4⟩
  rw [if_neg c2, if_pos rfl, e6, if_pos (by omega), Int.toNat_natCast, hC1.2 _ (by omega)]
  have q59 : w8 (T.getD (tS T n p) 0 : Nat) = 59 ↔ T.getD (tS T n p) 0 = 59 := w8_e (c := 59) hb (by omega)
  have eE : tE T n p = tS T n p + 1 := by unfold tE; rw [if_neg c0, if_neg c1, if_neg c2]
  have eK : tK T n p = if T.getD (tS T n p) 0 = 59 then 8 else 10 := by unfold tK; rw [if_neg c0, if_neg c1, if_neg c2]
  by_cases c3 : T.getD (tS T n p) 0 = 59
  · rw [if_neg (show ¬ (w8 (T.getD (tS T n p) 0 : Nat) ≠ 59) from fun z => z (q59.mpr c3)), b_Reader_nextToken_180, u3_k (by omega), e6, zb_s (by omega)]
    have f4 : fr nF D2 (u3 (u3 D2 7 0 8 3) 7 0 6 ((tS T n p + 1 : Nat) : Int)) := ((fr.rf D2).u ⟨rfl, rfl, by omega⟩).u ⟨rfl, rfl, by omega⟩
    rw [if_pos c3] at eK
    exact ⟨_, rfl, ⟨hC1.fr f4, by rw [u3_eq, eE], by rw [u3_k (by omega), u3_k (by omega), e7], by rw [u3_k (by omega), u3_eq, eK]; rfl, fun z => by omega⟩, f1.tr f4⟩
  · rw [if_pos (show w8 (T.getD (tS T n p) 0 : Nat) ≠ 59 from fun z => c3 (q59.mp z)), b_Reader_nextToken_180, u3_k (by omega), e6, zb_s (by omega)]
    have f4 : fr nF D2 (u3 (u3 D2 7 0 8 4) 7 0 6 ((tS T n p + 1 : Nat) : Int)) := ((fr.rf D2).u ⟨rfl, rfl, by omega⟩).u ⟨rfl, rfl, by omega⟩
    rw [if_neg c3] at eK
    exact ⟨_, rfl, ⟨hC1.fr f4, by rw [u3_eq, eE], by rw [u3_k (by omega), u3_k (by omega), e7], by rw [u3_k (by omega), u3_eq, eK]; rfl, fun z => by omega⟩, f1.tr f4⟩
end
