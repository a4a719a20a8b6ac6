/-! lore: tokens, the reference; words -/
section
def nM : Nat → Nat → Nat → Prop := fun t i k => t = 12 ∧ i = 0 ∧ (k = 6 ∨ k = 7 ∨ k = 9 ∨ k = 10)
def h1 (c : Nat) : Nat → Nat → Nat → Prop := fun t i k => t = 12 ∧ i = 0 ∧ k = c
def MT (D : DD) (T : List Nat) (n : Nat) : Prop := D 12 0 8 = (n : Int) ∧ ∀ k, k < n → D 24 0 k = (T.getD k 0 : Nat)
theorem MT.fr {D D' : DD} {T : List Nat} {n : Nat} (h : MT D T n) (e : fr nM D D') : MT D' T n := ⟨(e 12 0 8 (by unfold nM; omega)).trans h.1, fun k hk => (e 24 0 k (by unfold nM; omega)).trans (h.2 k hk)⟩
def MD (D : DD) (T : List Nat) (n q : Nat) : Prop := MT D T n ∧ D 12 0 6 = (tS T n q : Int) ∧ D 12 0 7 = (tE T n q : Int) ∧ D 12 0 9 = (tK T n q : Int) ∧ (tK T n q = 7 → D 12 0 10 = (tN T n q : Int))
theorem s_M_see {X : Nat × (Nat → Int)} {d : Nat} {D : DD} {T : List Nat} {n k : Nat} (hd : 1 ≤ d) (hT : okT T n) (hM : MT D T n) : ev X d m_M_see [vR 12 0, vI (k : Int)] (hp D) = some (some (vI (if n ≤ k then -1 else (T.getD k 0 : Nat))), hp D) := by
  obtain ⟨d, rfl⟩ : ∃ e, d = e + 1 := ⟨d - 1, by omega⟩
  have := hT.1
  rw [e_M_see, b_M_see_0, hM.1]
  by_cases c : n ≤ k
  · rw [if_pos (by omega), if_pos c]
  · rw [if_neg (by omega), if_pos (by omega), if_neg c, Int.toNat_natCast, hM.2 k (by omega)]
theorem s_M_isSmall {X : Nat × (Nat → Int)} {d : Nat} {D : DD} {T : List Nat} {n k : Nat} (hd : 1 ≤ d) : ev X d m_M_isSmall [vI (if n ≤ k then -1 else (T.getD k 0 : Nat))] (hp D) = some (some (vI (if k < n ∧ sml (T.getD k 0) = true then 1 else 0)), hp D) := by
  obtain ⟨d, rfl⟩ : ∃ e, d = e + 1 := ⟨d - 1, by omega⟩
  rw [e_M_isSmall, b_M_isSmall_0]
  by_cases c : n ≤ k
  · rw [if_pos c, if_pos (by omega), if_neg (by omega)]
  · rw [if_neg c]
    unfold sml
    by_cases h : 97 ≤ T.getD k 0 ∧ T.getD k 0 ≤ 122
    · rw [if_neg (by omega), if_neg (by omega), if_pos ⟨by omega, decide_eq_true h⟩]
    · rw [if_neg (show ¬ (k < n ∧ decide (97 ≤ T.getD k 0 ∧ T.getD k 0 ≤ 122) = true) from fun z => h (of_decide_eq_true z.2))]
      by_cases h2 : ((T.getD k 0 : Nat) : Int) < 97
      · rw [if_pos h2]
      · rw [if_neg h2, if_pos (by omega)]
theorem s_M_isDigit {X : Nat × (Nat → Int)} {d : Nat} {D : DD} {T : List Nat} {n k : Nat} (hd : 1 ≤ d) : ev X d m_M_isDigit [vI (if n ≤ k then -1 else (T.getD k 0 : Nat))] (hp D) = some (some (vI (if k < n ∧ dig (T.getD k 0) = true then 1 else 0)), hp D) := by
  obtain ⟨d, rfl⟩ : ∃ e, d = e + 1 := ⟨d - 1, by omega⟩
  rw [e_M_isDigit, b_M_isDigit_0]
  by_cases c : n ≤ k
  · rw [if_pos c, if_pos (by omega), if_neg (by omega)]
  · rw [if_neg c]
    unfold dig
    by_cases h : 48 ≤ T.getD k 0 ∧ T.getD k 0 ≤ 57
    · rw [if_neg (by omega), if_neg (by omega), if_pos ⟨by omega, decide_eq_true h⟩]
    · rw [if_neg (show ¬ (k < n ∧ decide (48 ≤ T.getD k 0 ∧ T.getD k 0 ≤ 57) = true) from fun z => h (of_decide_eq_true z.2))]
      by_cases h2 : ((T.getD k 0 : Nat) : Int) < 48
      · rw [if_pos h2]
      · rw [if_neg h2, if_pos (by omega)]
theorem s_M_blanks {X : Nat × (Nat → Int)} {d : Nat} {T : List Nat} {n : Nat} (hd : 1 ≤ d) (hT : okT T n) : ∀ (m p : Nat) (D : DD), n - p = m → p ≤ n → MT D T n → D 12 0 6 = (p : Int) → ∃ D', at_ X d cd_M_next 8 [vR 12 0] [] (hp D) = (if ((u3 D' 12 0 7 (D' 12 0 6)) 12 0 6) < ((u3 D' 12 0 7 (D' 12 0 6)) 12 0 8) then ab_ci (ev X d m_M_see [vR 12 0, vI ((u3 D' 12 0 7 (D' 12 0 6)) 12 0 6)] (hp (u3 D' 12 0 7 (D' 12 0 6)))) (fun y9 h9 => at_ X d cd_M_next 83 [vR 12 0] [vI y9] h9) else some (none, hp (u3 (u3 D' 12 0 7 (D' 12 0 6)) 12 0 9 9))) ∧ D' 12 0 6 = (rnT T blk n p : Int) ∧ fr (h1 6) D D' := by
  intro m
  induction m with
  | zero =>
    intro p D e1 e2 hM hp6
    rw [b_M_next_8, hp6, s_M_see hd hT hM]
    simp only [ab_ci]
    rw [b_M_next_16, if_pos (show n ≤ p by omega), if_neg (by omega), hp6, s_M_see hd hT hM]
    simp only [ab_ci]
    rw [b_M_next_29, if_pos (show n ≤ p by omega), if_pos (by omega), rnT_n (by omega)]
    exact ⟨D, rfl, hp6, fr.rf D⟩
  | succ m ih =>
    intro p D e1 e2 hM hp6
    have h5 := hT.1
    have next : ∃ D', at_ X d cd_M_next 34 [vR 12 0] [] (hp D) = (if ((u3 D' 12 0 7 (D' 12 0 6)) 12 0 6) < ((u3 D' 12 0 7 (D' 12 0 6)) 12 0 8) then ab_ci (ev X d m_M_see [vR 12 0, vI ((u3 D' 12 0 7 (D' 12 0 6)) 12 0 6)] (hp (u3 D' 12 0 7 (D' 12 0 6)))) (fun y9 h9 => at_ X d cd_M_next 83 [vR 12 0] [vI y9] h9) else some (none, hp (u3 (u3 D' 12 0 7 (D' 12 0 6)) 12 0 9 9))) ∧ D' 12 0 6 = (rnT T blk n (p + 1) : Int) ∧ fr (h1 6) D D' := by
      rw [b_M_next_34, hp6, zb_s (by omega)]
      have f1 : fr (h1 6) D (u3 D 12 0 6 ((p + 1 : Nat) : Int)) := (fr.rf D).u ⟨rfl, rfl, rfl⟩
      obtain ⟨D', a1, a2, a3⟩ := ih (p + 1) (u3 D 12 0 6 ((p + 1 : Nat) : Int)) (by omega) (by omega) (hM.fr (f1.mo fun t i k z => by unfold h1 at z; unfold nM; omega)) (by rw [u3_eq])
      exact ⟨D', a1, a2, f1.tr a3⟩
    rw [b_M_next_8, hp6, s_M_see hd hT hM]
    simp only [ab_ci]
    rw [b_M_next_16, if_neg (show ¬ n ≤ p by omega)]
    by_cases c1 : T.getD p 0 = 10
    · rw [if_pos (by omega), rnT_y (by omega) (by unfold blk; exact decide_eq_true (Or.inl c1))]
      exact next
    · rw [if_neg (by omega), hp6, s_M_see hd hT hM]
      simp only [ab_ci]
      rw [b_M_next_29, if_neg (show ¬ n ≤ p by omega)]
      by_cases c2 : T.getD p 0 = 32
      · rw [if_neg (by omega), rnT_y (by omega) (by unfold blk; exact decide_eq_true (Or.inr c2))]
        exact next
      · rw [if_pos (by omega), rnT_n (fun z => (of_decide_eq_true z.2).elim c1 c2)]
        exact ⟨D, rfl, hp6, fr.rf D⟩
theorem s_M_letters {X : Nat × (Nat → Int)} {d : Nat} {T : List Nat} {n : Nat} (hd : 1 ≤ d) (hT : okT T n) : ∀ (m p : Nat) (D : DD), n - p = m → p ≤ n → MT D T n → D 12 0 7 = (p : Int) → ∃ D', at_ X d cd_M_next 89 [vR 12 0] [] (hp D) = ab_ci (ev X d m_M_keyAt [vR 12 0] (hp D')) (fun y9 h9 => at_ X d cd_M_next 121 [vR 12 0] [vI y9, vR 12 0] h9) ∧ D' 12 0 7 = (rnT T sml n p : Int) ∧ fr (h1 7) D D' := by
  intro m
  induction m with
  | zero =>
    intro p D e1 e2 hM hp7
    rw [b_M_next_89, hp7, s_M_see hd hT hM]
    simp only [ab_ci]
    rw [b_M_next_97, s_M_isSmall hd]
    simp only [ab_ci]
    rw [b_M_next_100, if_neg (show ¬ (p < n ∧ sml (T.getD p 0) = true) by omega), if_pos rfl, rnT_n (by omega)]
    exact ⟨D, rfl, hp7, fr.rf D⟩
  | succ m ih =>
    intro p D e1 e2 hM hp7
    have h5 := hT.1
    rw [b_M_next_89, hp7, s_M_see hd hT hM]
    simp only [ab_ci]
    rw [b_M_next_97, s_M_isSmall hd]
    simp only [ab_ci]
    rw [b_M_next_100]
    by_cases c1 : sml (T.getD p 0) = true
    · rw [if_pos (show p < n ∧ sml (T.getD p 0) = true from ⟨by omega, c1⟩), if_neg (by decide), hp7, zb_s (by omega), rnT_y (by omega) c1]
      have f1 : fr (h1 7) D (u3 D 12 0 7 ((p + 1 : Nat) : Int)) := (fr.rf D).u ⟨rfl, rfl, rfl⟩
      obtain ⟨D', a1, a2, a3⟩ := ih (p + 1) (u3 D 12 0 7 ((p + 1 : Nat) : Int)) (by omega) (by omega) (hM.fr (f1.mo fun t i k z => by unfold h1 at z; unfold nM; omega)) (by rw [u3_eq])
      exact ⟨D', a1, a2, f1.tr a3⟩
    · rw [if_neg (show ¬ (p < n ∧ sml (T.getD p 0) = true) from fun z => c1 z.2), if_pos rfl, rnT_n (fun z => c1 z.2)]
      exact ⟨D, rfl, hp7, fr.rf D⟩
def h2 : Nat → Nat → Nat → Prop := fun t i k => t = 12 ∧ i = 0 ∧ (k = 7 ∨ k = 10)
theorem s_M_digits {X : Nat × (Nat → Int)} {d : Nat} {T : List Nat} {n s : Nat} (hd : 1 ≤ d) (hT : okT T n) : ∀ (m p : Nat) (D : DD), n - p = m → p ≤ n → s ≤ p → (∀ j, s ≤ j → j < p → dig (T.getD j 0) = true) → MT D T n → D 12 0 7 = (p : Int) → D 12 0 6 = (s : Int) → D 12 0 10 = (nvT T s (cnt (p - s)) : Int) → ∃ D', at_ X d cd_M_next 146 [vR 12 0] [] (hp D) = some (none, hp (u3 D' 12 0 9 (if rnT T dig n p - s ≤ 3 then 7 else 10))) ∧ D' 12 0 7 = (rnT T dig n p : Int) ∧ D' 12 0 10 = (nvT T s (cnt (rnT T dig n p - s)) : Int) ∧ fr h2 D D' := by
  intro m
  induction m with
  | zero =>
    intro p D e1 e2 hs hj hM hp7 hp6 hpn
    have h5 := hT.1
    rw [b_M_next_146, hp7, s_M_see hd hT hM]
    simp only [ab_ci]
    rw [b_M_next_154, s_M_isDigit hd]
    simp only [ab_ci]
    rw [b_M_next_157, if_neg (show ¬ (p < n ∧ dig (T.getD p 0) = true) by omega), if_pos rfl, rnT_n (by omega), hp7, hp6, zb_w (by omega) (by omega)]
    by_cases c3 : p - s ≤ 3
    · rw [if_pos (by omega), b_M_next_230, if_pos c3]
      exact ⟨D, rfl, hp7, hpn, fr.rf D⟩
    · rw [if_neg (by omega), b_M_next_230, if_neg c3]
      exact ⟨D, rfl, hp7, hpn, fr.rf D⟩
  | succ m ih =>
    intro p D e1 e2 hs hj hM hp7 hp6 hpn
    have h5 := hT.1
    rw [b_M_next_146, hp7, s_M_see hd hT hM]
    simp only [ab_ci]
    rw [b_M_next_154, s_M_isDigit hd]
    simp only [ab_ci]
    rw [b_M_next_157, hp7, hp6, zb_w (by omega) (by omega)]
    by_cases c1 : dig (T.getD p 0) = true
    · have hdg := of_decide_eq_true c1
      have hj' : ∀ j, s ≤ j → j < p + 1 → dig (T.getD j 0) = true := fun j h1 h2 => by
        by_cases e : j = p
        · rw [e]; exact c1
        · exact hj j h1 (by omega)
      rw [if_pos (show p < n ∧ dig (T.getD p 0) = true from ⟨by omega, c1⟩), if_neg (by decide), rnT_y (by omega) c1]
      by_cases c3 : 3 ≤ p - s
      · rw [if_pos (by omega), b_M_next_196, hp7, zb_s (by omega)]
        have f1 : fr h2 D (u3 D 12 0 7 ((p + 1 : Nat) : Int)) := (fr.rf D).u ⟨rfl, rfl, Or.inl rfl⟩
        obtain ⟨D', a1, a2, a3, a4⟩ := ih (p + 1) (u3 D 12 0 7 ((p + 1 : Nat) : Int)) (by omega) (by omega) (by omega) hj' (hM.fr (f1.mo fun t i k z => by unfold h2 at z; unfold nM; omega)) (by rw [u3_eq]) (by rw [u3_k (by omega), hp6]) (by
          rw [u3_k (by omega), hpn]
          unfold cnt
          by_cases e3 : p - s = 3
          · rw [if_pos (by omega), if_neg (by omega), e3]
          · rw [if_neg (by omega), if_neg (by omega)])
        exact ⟨D', a1, a2, a3, f1.tr a4⟩
      · have hv := nvT_lt (T := T) (s := s) (p - s) (fun j hj9 => hj _ (by omega) (by omega))
        have hv2 : 10 ^ (p - s) ≤ 10 ^ 2 := Nat.pow_le_pow_right (by omega) (by omega)
        have ev9 : (10 * (nvT T s (p - s) : Int) + (T.getD p 0 : Nat) - 48 : Int) = (nvT T s (p + 1 - s) : Int) := by
          rw [show p + 1 - s = (p - s) + 1 by omega, nvT, show s + (p - s) = p by omega]
          omega
        have e1' : cnt (p - s) = p - s := by unfold cnt; rw [if_pos (by omega)]
        have e2' : cnt (p + 1 - s) = p + 1 - s := by unfold cnt; rw [if_pos (by omega)]
        rw [if_neg (by omega), s_M_see hd hT hM]
        simp only [ab_ci]
        rw [b_M_next_189, if_neg (show ¬ n ≤ p by omega), hpn, e1', zb_w (n := 10 * (nvT T s (p - s) : Int)) (by omega) (by omega), zb_w (n := 10 * (nvT T s (p - s) : Int) + (T.getD p 0 : Nat)) (by omega) (by omega), zb_w (by omega) (by omega), ev9, b_M_next_196, u3_k (by omega), hp7, zb_s (by omega)]
        have f1 : fr h2 D (u3 (u3 D 12 0 10 (nvT T s (p + 1 - s) : Int)) 12 0 7 ((p + 1 : Nat) : Int)) := ((fr.rf D).u ⟨rfl, rfl, Or.inr rfl⟩).u ⟨rfl, rfl, Or.inl rfl⟩
        obtain ⟨D', a1, a2, a3, a4⟩ := ih (p + 1) (u3 (u3 D 12 0 10 (nvT T s (p + 1 - s) : Int)) 12 0 7 ((p + 1 : Nat) : Int)) (by omega) (by omega) (by omega) hj' (hM.fr (f1.mo fun t i k z => by unfold h2 at z; unfold nM; omega)) (by rw [u3_eq]) (by rw [u3_k (by omega), u3_k (by omega), hp6]) (by rw [u3_k (by omega), u3_eq, e2'])
        exact ⟨D', a1, a2, a3, f1.tr a4⟩
    · rw [if_neg (show ¬ (p < n ∧ dig (T.getD p 0) = true) from fun z => c1 z.2), if_pos rfl, rnT_n (fun z => c1 z.2)]
      by_cases c3 : p - s ≤ 3
      · rw [if_pos (by omega), b_M_next_230, if_pos c3]
        exact ⟨D, rfl, hp7, hpn, fr.rf D⟩
      · rw [if_neg (by omega), b_M_next_230, if_neg c3]
        exact ⟨D, rfl, hp7, hpn, fr.rf D⟩
/-- one word of the list -/
theorem s_M_key1 {X : Nat × (Nat → Int)} {d : Nat} {D : DD} {T W : List Nat} {n s e l o : Nat} (hT : okT T n) (hM : MT D T n) (e6 : D 12 0 6 = (s : Int)) (e7 : D 12 0 7 = (e : Int)) (hse : s ≤ e) (hen : e ≤ n) (ho : o + W.length < 36) (hl : l < 10) (w1 : ∀ k, k < W.length → (ab_tx 0).getD (o + k) 0 = W.getD k 0 ∧ (ab_tx 0).getD (o + k) 0 ≠ 32) (w2 : (ab_tx 0).getD (o + W.length) 0 = 32) : at_ X d cd_M_keyAt 4 [vR 12 0, vI (l : Int), vI (o : Int), vU] [] (hp D) = if wdB T s e W = true then some (some (vI (l : Int)), hp D) else at_ X d cd_M_keyAt 4 [vR 12 0, vI ((l + 1 : Nat) : Int), vI ((o + W.length + 1 : Nat) : Int), vU] [] (hp D) := by
  have h5 := hT.1
  have t36 : (ab_tx 0).length = 36 := by decide
  have skip : ∀ (m k : Nat) (v3 : ab_V), k + m = W.length → at_ X d cd_M_keyAt 97 [vR 12 0, vI (l : Int), vI ((o + k : Nat) : Int), v3] [] (hp D) = at_ X d cd_M_keyAt 4 [vR 12 0, vI ((l + 1 : Nat) : Int), vI ((o + W.length + 1 : Nat) : Int), vU] [] (hp D) := by
    intro m
    induction m with
    | zero =>
      intro k v3 hk
      have : k = W.length := by omega
      subst this
      rw [b_M_keyAt_97, t36, if_pos (by omega), Int.toNat_natCast, w2, if_pos (by omega), zb_s (by omega), zb_s (by omega)]
    | succ m ih =>
      intro k v3 hk
      have := (w1 k (by omega)).2
      rw [b_M_keyAt_97, t36, if_pos (by omega), Int.toNat_natCast, if_neg (by omega), zb_s (by omega)]
      exact ih (k + 1) vU (by omega)
  have skip0 : ∀ v3 : ab_V, at_ X d cd_M_keyAt 97 [vR 12 0, vI (l : Int), vI (o : Int), v3] [] (hp D) = at_ X d cd_M_keyAt 4 [vR 12 0, vI ((l + 1 : Nat) : Int), vI ((o + W.length + 1 : Nat) : Int), vU] [] (hp D) := fun v3 => skip W.length 0 v3 (by omega)
  have key : ∀ (m j : Nat), j + m = W.length → j ≤ e - s → (∀ k, k < j → T.getD (s + k) 0 = W.getD k 0) → at_ X d cd_M_keyAt 15 [vR 12 0, vI (l : Int), vI (o : Int), vI (j : Int)] [] (hp D) = if wdB T s e W = true then some (some (vI (l : Int)), hp D) else at_ X d cd_M_keyAt 4 [vR 12 0, vI ((l + 1 : Nat) : Int), vI ((o + W.length + 1 : Nat) : Int), vU] [] (hp D) := by
    intro m
    induction m with
    | zero =>
      intro j hj hje hm
      have : j = W.length := by omega
      subst this
      rw [b_M_keyAt_15, t36, zb_w (n := (o : Int) + (W.length : Int)) (by omega) (by omega), if_pos (by omega), tn (n := o + W.length) (by omega), w2, if_pos (by omega), b_M_keyAt_69, t36, zb_w (n := (o : Int) + (W.length : Int)) (by omega) (by omega), if_pos (by omega), tn (n := o + W.length) (by omega), w2, if_neg (by omega), e6, e7, zb_w (n := (s : Int) + (W.length : Int)) (by omega) (by omega)]
      by_cases c : e - s = W.length
      · rw [if_neg (by omega), if_pos (wdB_iff.mpr ⟨c, hm⟩)]
      · rw [if_pos (by omega), if_neg (fun z => c (wdB_iff.mp z).1)]
        exact skip0 _
    | succ m ih =>
      intro j hj hje hm
      obtain ⟨q1, q2⟩ := w1 j (by omega)
      have q3 : W.getD j 0 ≠ 32 := fun z => q2 (q1.trans z)
      have toS : ¬ wdB T s e W = true → at_ X d cd_M_keyAt 69 [vR 12 0, vI (l : Int), vI (o : Int), vI (j : Int)] [] (hp D) = if wdB T s e W = true then some (some (vI (l : Int)), hp D) else at_ X d cd_M_keyAt 4 [vR 12 0, vI ((l + 1 : Nat) : Int), vI ((o + W.length + 1 : Nat) : Int), vU] [] (hp D) := by
        intro hno
        rw [b_M_keyAt_69, t36, zb_w (n := (o : Int) + (j : Int)) (by omega) (by omega), if_pos (by omega), tn (n := o + j) (by omega), q1, if_pos (by omega), if_neg hno]
        exact skip0 _
      rw [b_M_keyAt_15, t36, zb_w (n := (o : Int) + (j : Int)) (by omega) (by omega), if_pos (by omega), tn (n := o + j) (by omega), q1, if_neg (by omega), e6, e7, zb_w (n := (s : Int) + (j : Int)) (by omega) (by omega)]
      by_cases c : e ≤ s + j
      · rw [if_pos (by omega)]
        exact toS fun z => by have := (wdB_iff.mp z).1; omega
      · rw [if_neg (by omega), if_pos (by omega), if_pos (by omega), tn (n := s + j) (by omega), hM.2 (s + j) (by omega)]
        by_cases c2 : T.getD (s + j) 0 = W.getD j 0
        · rw [if_neg (by omega), zb_s (by omega)]
          exact ih (j + 1) (by omega) (by omega) fun k hk => by
            by_cases ek : k = j
            · rw [ek]; exact c2
            · exact hm k (by omega)
        · rw [if_pos (by omega)]
          exact toS fun z => c2 ((wdB_iff.mp z).2 j (by omega))
  rw [b_M_keyAt_4, t36, if_neg (by omega)]
  exact key W.length 0 (by omega) (by omega) (fun k hk => by omega)
theorem s_M_keyAt {X : Nat × (Nat → Int)} {d : Nat} {D : DD} {T : List Nat} {n s e : Nat} (hd : 1 ≤ d) (hT : okT T n) (hM : MT D T n) (e6 : D 12 0 6 = (s : Int)) (e7 : D 12 0 7 = (e : Int)) (hse : s ≤ e) (hen : e ≤ n) : ev X d m_M_keyAt [vR 12 0] (hp D) = some (some (vI (keyT T s e : Int)), hp D) := by
  obtain ⟨d, rfl⟩ : ∃ e, d = e + 1 := ⟨d - 1, by omega⟩
  have k0 := s_M_key1 (X := X) (d := d) (W := ab_tx 1) (l := 0) (o := 1) hT hM e6 e7 hse hen (by decide) (by omega) (by decide) (by decide)
  have k1 := s_M_key1 (X := X) (d := d) (W := ab_tx 2) (l := 1) (o := 8) hT hM e6 e7 hse hen (by decide) (by omega) (by decide) (by decide)
  have k2 := s_M_key1 (X := X) (d := d) (W := ab_tx 3) (l := 2) (o := 13) hT hM e6 e7 hse hen (by decide) (by omega) (by decide) (by decide)
  have k3 := s_M_key1 (X := X) (d := d) (W := ab_tx 4) (l := 3) (o := 19) hT hM e6 e7 hse hen (by decide) (by omega) (by decide) (by decide)
  have k4 := s_M_key1 (X := X) (d := d) (W := ab_tx 5) (l := 4) (o := 26) hT hM e6 e7 hse hen (by decide) (by omega) (by decide) (by decide)
  have k5 := s_M_key1 (X := X) (d := d) (W := ab_tx 6) (l := 5) (o := 32) hT hM e6 e7 hse hen (by decide) (by omega) (by decide) (by decide)
  have k6 : at_ X d cd_M_keyAt 4 [vR 12 0, vI 6, vI 36, vU] [] (hp D) = some (some (vI 6), hp D) := by
    rw [b_M_keyAt_4, if_pos (by decide)]
  rw [e_M_keyAt, b_M_keyAt_0]
  unfold keyT
  refine Eq.trans k0 ?_
  split
  · rfl
  refine Eq.trans k1 ?_
  split
  · rfl
  refine Eq.trans k2 ?_
  split
  · rfl
  refine Eq.trans k3 ?_
  split
  · rfl
  refine Eq.trans k4 ?_
  split
  · rfl
  refine Eq.trans k5 ?_
  split
  · rfl
  exact k6
theorem s_M_next {X : Nat × (Nat → Int)} {d : Nat} {D : DD} {T : List Nat} {n p : Nat} (hd : 3 ≤ d) (hT : okT T n) (hp0 : p ≤ n) (hM : MT D T n) (hp7 : D 12 0 7 = (p : Int)) : ∃ D', ev X d m_M_next [vR 12 0] (hp D) = some (none, hp D') ∧ MD D' T n p ∧ fr nM D D' := by
  obtain ⟨d, rfl⟩ : ∃ e, d = e + 1 := ⟨d - 1, by omega⟩
  have h5 := hT.1
  have f0 : fr nM D (u3 D 12 0 6 (p : Int)) := (fr.rf D).u ⟨rfl, rfl, by omega⟩
  obtain ⟨D1, a1, a2, a3⟩ := s_M_blanks (X := X) (d := d) (by omega) hT _ p (u3 D 12 0 6 (p : Int)) rfl hp0 (hM.fr f0) (by rw [u3_eq])
  have a2 : D1 12 0 6 = (tS T n p : Int) := a2
  have hs := tS_b (T := T) hp0
  have f1 : fr nM D (u3 D1 12 0 7 (tS T n p : Int)) := (f0.tr (a3.mo fun t i k z => by unfold h1 at z; unfold nM; omega)).u ⟨rfl, rfl, by omega⟩
  have hM1 : MT (u3 D1 12 0 7 (tS T n p : Int)) T n := hM.fr f1
  have e6 : u3 D1 12 0 7 (tS T n p : Int) 12 0 6 = (tS T n p : Int) := by rw [u3_k (by omega), a2]
  have e7 : u3 D1 12 0 7 (tS T n p : Int) 12 0 7 = (tS T n p : Int) := by rw [u3_eq]
  rw [e_M_next, b_M_next_0, hp7, a1, a2]
  generalize u3 D1 12 0 7 (tS T n p : Int) = D2 at f1 hM1 e6 e7 ⊢
  rw [e6, hM1.1]
  by_cases c0 : n ≤ tS T n p
  · rw [if_neg (by omega)]
    have f2 : fr nM D2 (u3 D2 12 0 9 9) := (fr.rf D2).u ⟨rfl, rfl, by omega⟩
    have eE : tE T n p = tS T n p := by unfold tE; rw [if_pos c0]
    have eK : tK T n p = 9 := by unfold tK; rw [if_pos c0]
    exact ⟨_, rfl, ⟨hM1.fr f2, by rw [u3_k (by omega), e6], by rw [u3_k (by omega), e7, eE], by rw [u3_eq, eK]; rfl, fun z => by omega⟩, f1.tr f2⟩
  rw [if_pos (by omega), s_M_see (by omega) hT hM1]
  simp only [ab_ci]
  rw [b_M_next_83, s_M_isSmall (by omega)]
  simp only [ab_ci]
  rw [b_M_next_86]
  by_cases c1 : sml (T.getD (tS T n p) 0) = true
  · rw [if_pos (show tS T n p < n ∧ sml (T.getD (tS T n p) 0) = true from ⟨by omega, c1⟩), if_neg (by decide)]
    obtain ⟨D3, b1, b2, b3⟩ := s_M_letters (X := X) (d := d) (by omega) hT _ (tS T n p) D2 rfl (by omega) hM1 e7
    have f3 : fr nM D2 D3 := b3.mo fun t i k z => by unfold h1 at z; unfold nM; omega
    have eE : tE T n p = rnT T sml n (tS T n p) := by unfold tE; rw [if_neg c0, if_pos c1]
    have eK : tK T n p = keyT T (tS T n p) (tE T n p) := by unfold tK; rw [if_neg c0, if_pos c1]
    have hk := keyT_le (T := T) (s := tS T n p) (e := tE T n p)
    have hE := tE_b (T := T) hp0
    have k6 : D3 12 0 6 = (tS T n p : Int) := (b3 12 0 6 (by unfold h1; omega)).trans e6
    rw [← eE] at b2
    rw [b1, s_M_keyAt (by omega) hT (hM1.fr f3) k6 b2 (by omega) (by omega)]
    simp only [ab_ci]
    rw [b_M_next_121]
    have f4 : fr nM D2 (u3 D3 12 0 9 (keyT T (tS T n p) (tE T n p) : Int)) := f3.u ⟨rfl, rfl, by omega⟩
    exact ⟨_, rfl, ⟨hM1.fr f4, by rw [u3_k (by omega), k6], by rw [u3_k (by omega), b2], by rw [u3_eq, eK], fun z => by omega⟩, f1.tr f4⟩
  rw [if_neg (show ¬ (tS T n p < n ∧ sml (T.getD (tS T n p) 0) = true) from fun z => c1 z.2), if_pos rfl, e6, s_M_see (by omega) hT hM1]
  simp only [ab_ci]
  rw [b_M_next_135, s_M_isDigit (by omega)]
  simp only [ab_ci]
  rw [b_M_next_138]
  by_cases c2 : dig (T.getD (tS T n p) 0) = true
  · rw [if_pos (show tS T n p < n ∧ dig (T.getD (tS T n p) 0) = true from ⟨by omega, c2⟩), if_neg (by decide)]
    have f2 : fr h2 D2 (u3 D2 12 0 10 0) := (fr.rf D2).u ⟨rfl, rfl, Or.inr rfl⟩
    have h2n : ∀ t i k, h2 t i k → nM t i k := fun t i k z => by unfold h2 at z; unfold nM; omega
    obtain ⟨D3, b1, b2, b3, b4⟩ := s_M_digits (X := X) (d := d) (s := tS T n p) (by omega) hT _ (tS T n p) (u3 D2 12 0 10 0) rfl (by omega) (by omega) (fun j h1 h2 => by omega) (hM1.fr (f2.mo h2n)) (by rw [u3_k (by omega), e7]) (by rw [u3_k (by omega), e6]) (by rw [u3_eq, Nat.sub_self]; rfl)
    have eE : tE T n p = rnT T dig n (tS T n p) := by unfold tE; rw [if_neg c0, if_neg c1, if_pos c2]
    have eK : tK T n p = if tE T n p - tS T n p ≤ 3 then 7 else 10 := by unfold tK; rw [if_neg c0, if_neg c1, if_pos c2]
    have f3 : fr h2 D2 D3 := f2.tr b4
    have k6 : D3 12 0 6 = (tS T n p : Int) := (f3 12 0 6 (by unfold h2; omega)).trans e6
    rw [← eE] at b1 b2 b3
    have eK' : (if tE T n p - tS T n p ≤ 3 then (7 : Int) else 10) = (tK T n p : Int) := by rw [eK]; split <;> rfl
    rw [b1, eK']
    have f4 : fr nM D2 (u3 D3 12 0 9 (tK T n p : Int)) := (f3.mo h2n).u ⟨rfl, rfl, by omega⟩
    refine ⟨_, rfl, ⟨hM1.fr f4, by rw [u3_k (by omega), k6], by rw [u3_k (by omega), b2], by rw [u3_eq], fun _ => ?_⟩, f1.tr f4⟩
    rw [u3_k (by omega), b3]
    rfl
  rw [if_neg (show ¬ (tS T n p < n ∧ dig (T.getD (tS T n p) 0) = true) from fun z => c2 z.2), if_pos rfl, e7, zb_s (by omega)]
  have eE : tE T n p = tS T n p + 1 := by unfold tE; rw [if_neg c0, if_neg c1, if_neg c2]
  have eK : tK T n p = if T.getD (tS T n p) 0 = 59 then 8 else 10 := by unfold tK; rw [if_neg c0, if_neg c1, if_neg c2]
  have f3 : fr nM D2 (u3 D2 12 0 7 ((tS T n p + 1 : Nat) : Int)) := (fr.rf D2).u ⟨rfl, rfl, by omega⟩
  have g6 : u3 D2 12 0 7 ((tS T n p + 1 : Nat) : Int) 12 0 6 = (tS T n p : Int) := by rw [u3_k (by omega), e6]
  have g7 : u3 D2 12 0 7 ((tS T n p + 1 : Nat) : Int) 12 0 7 = ((tS T n p + 1 : Nat) : Int) := by rw [u3_eq]
  have hM2 := hM1.fr f3
  generalize u3 D2 12 0 7 ((tS T n p + 1 : Nat) : Int) = D3 at f3 g6 g7 hM2 ⊢
  rw [g6, s_M_see (by omega) hT hM2]
  simp only [ab_ci]
  rw [b_M_next_255, if_neg c0]
  by_cases c3 : T.getD (tS T n p) 0 = 59
  · rw [if_neg (by omega), b_M_next_267]
    rw [if_pos c3] at eK
    have f4 : fr nM D2 (u3 D3 12 0 9 8) := f3.u ⟨rfl, rfl, by omega⟩
    exact ⟨_, rfl, ⟨hM1.fr f4, by rw [u3_k (by omega), g6], by rw [u3_k (by omega), g7, eE], by rw [u3_eq, eK]; rfl, fun z => by omega⟩, f1.tr f4⟩
  · rw [if_pos (by omega), b_M_next_267]
    rw [if_neg c3] at eK
    have f4 : fr nM D2 (u3 D3 12 0 9 10) := f3.u ⟨rfl, rfl, by omega⟩
    exact ⟨_, rfl, ⟨hM1.fr f4, by rw [u3_k (by omega), g6], by rw [u3_k (by omega), g7, eE], by rw [u3_eq, eK]; rfl, fun z => by omega⟩, f1.tr f4⟩
end
