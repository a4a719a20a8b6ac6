/-! lore: inns, lines, the reference's call -/
section
theorem mO.tr {F G : Option (Option ab_V × ab_H)} {D D1 : DD} {T : List Nat} {n : Nat} {r : BdR} (h : mO F D1 T n r) (f : fr pM D D1) (e : ∀ D', F = some (none, hp D') → G = some (none, hp D')) : mO G D T n r := by
  unfold mO at h ⊢
  cases r with
  | inl er =>
    obtain ⟨D2, a1, a2, a3⟩ := h
    exact ⟨D2, e D2 a1, a2, f.tr a3⟩
  | inr z =>
    obtain ⟨D2, a1, a2, a4, a3⟩ := h
    exact ⟨D2, e D2 a1, a2, a4, f.tr a3⟩
theorem s_M_inns {X : Nat × (Nat → Int)} {d : Nat} {T : List Nat} {n i : Nat} (hd : 7 ≤ d) (hT : okT T n) (hi : i < 10) : ∀ (f k : Nat) (L : Nat → Nat) (q : Nat) (D : DD) (v3 : ab_V), k + f = 10 → f ≠ 0 → okP L → L 50 = i → q ≤ n → SMq D L → MKq D T n q → mO (at_ X d cd_M_readInn 33 [vR 12 0, vI (i : Int), vI (k : Int), v3] [] (hp D)) D T n (innB T n i f k L q) := by
  intro f
  induction f with
  | zero => intro k L q D v3 _ h; exact absurd rfl h
  | succ f ih =>
    intro k L q D v3 hk _ hL h5 hq hs h
    have h16 := hL.1.1.1
    have e1 := tE_le (T := T) hq
    rw [b_M_readInn_33, s_M_is (by omega), h.1.2.2.2.1]
    simp only [ab_ci]
    rw [b_M_readInn_39, innB]
    by_cases k7 : tK T n q = 7
    · rw [if_pos (show D 12 0 11 = 0 ∧ (tK T n q : Int) = 7 from ⟨h.2, by omega⟩), if_neg (by decide), if_neg (show ¬ (tK T n q ≠ 7) from fun z => z k7), hs 0 (by omega), h.1.2.2.2.2 k7]
      have r := s_M_takesThing (X := X) (d := d) (D := D) (by omega) hT hq hL hs h
      unfold mN at r
      have bad : ∀ e, numP T n 0 (L 0) (-1) q = .inl e → ∃ D', at_ X d cd_M_readInn 66 [vR 12 0, vI (i : Int), vI (k : Int), vU] [] (hp D) = some (none, hp D') ∧ MF D' e ∧ fr pM D D' := by
        intro e hn
        rw [hn] at r
        obtain ⟨y, D2, b1, b2, b3⟩ := r
        rw [b_M_readInn_66, b1]
        simp only [ab_ci]
        rw [b_M_readInn_70, if_neg b2.ne]
        exact ⟨D2, rfl, b2, b3.mo fun _ _ _ z => Or.inl z⟩
      by_cases c9 : k = 9
      · rw [if_neg (by omega)]
        by_cases c : L 0 ≤ tN T n q
        · have hn : numP T n 0 (L 0) (-1) q = .inl (3, tS T n q) := by rw [numP_7 k7, if_pos (Or.inr (Or.inl c))]
          rw [if_pos (by omega), hn]
          exact bad _ hn
        · have hn : numP T n 0 (L 0) (-1) q = .inr (tN T n q) := by rw [numP_7 k7, if_neg (by omega)]
          obtain ⟨D1, a1, a2, a3⟩ := s_M_fails (X := X) (d := d) (D := D) (w := 4) (by omega) (by omega) h
          have a1 : ev X d m_M_fails [vR 12 0, vI 4] (hp D) = _ := a1
          rw [if_neg (by omega)] at a2
          rw [if_neg (by omega), hn, a1]
          simp only [ab_cv]
          show mO _ D T n (if k = 9 then .inl (4, tS T n q) else innB T n i f (k + 1) (upL L (61 + 9 * i + k) (tN T n q)) (tE T n q))
          rw [if_pos c9, b_M_readInn_66, s_M_takesThingF (by omega) a2.ne]
          simp only [ab_ci]
          rw [b_M_readInn_70, if_neg a2.ne]
          exact ⟨D1, rfl, a2, a3.mo fun _ _ _ z => Or.inl z⟩
      · rw [if_pos (by omega)]
        cases hn : numP T n 0 (L 0) (-1) q with
        | inl e => exact bad e hn
        | inr x =>
          rw [hn] at r
          obtain ⟨D2, b1, b2, b3⟩ := r
          show mO _ D T n (if k = 9 then .inl (4, tS T n q) else innB T n i f (k + 1) (upL L (61 + 9 * i + k) x) (tE T n q))
          rw [if_neg c9, b_M_readInn_66, b1]
          simp only [ab_ci]
          rw [b_M_readInn_70, if_pos b2.2, zb_w (n := 9 * (i : Int)) (by omega) (by omega), zb_w (n := 61 + 9 * (i : Int)) (by omega) (by omega), zb_w (n := 61 + 9 * (i : Int) + (k : Int)) (by omega) (by omega), if_pos (by omega), tn (n := 61 + 9 * i + k) (by omega), zb_s (by omega)]
          have hs2 := (hs.fr (b3.mo fun _ _ _ z => nM_fM z)).up (k := 61 + 9 * i + k) (x := x)
          exact (ih (k + 1) (upL L (61 + 9 * i + k) x) (tE T n q) _ _ (by omega) (by omega) (okP_nw hL h5 hi (by omega)) (by rw [upL_n (by omega)]; exact h5) e1.2 hs2 (b2.on (fun j => u3_t (by omega)) (fun j => u3_t (by omega)))).tr ((b3.mo fun _ _ _ z => nM_pM z).u (Or.inr ⟨rfl, rfl⟩)) fun _ z => z
    · rw [if_neg (show ¬ (D 12 0 11 = 0 ∧ (tK T n q : Int) = 7) by omega), if_pos rfl, if_pos k7, zb_w (n := 51 + (i : Int)) (by omega) (by omega), if_pos (by omega), tn (n := 51 + i) (by omega), u3_k (by omega), hs 50 (by omega), h5, zb_s (by omega)]
      exact ⟨_, rfl, h.on (fun j => by rw [u3_t (by omega), u3_t (by omega)]) (fun j => by rw [u3_t (by omega), u3_t (by omega)]), hs.up.up, ((fr.rf D).u (Or.inr ⟨rfl, rfl⟩)).u (Or.inr ⟨rfl, rfl⟩)⟩
theorem s_M_bInn {X : Nat × (Nat → Int)} {d : Nat} {D : DD} {T : List Nat} {n q : Nat} {L : Nat → Nat} (hd : 8 ≤ d) (hT : okT T n) (hq : q ≤ n) (hk : tK T n q = 5) (hL : okP L) (hs : SMq D L) (h : MKq D T n q) : mO (ev X d m_M_readInn [vR 12 0] (hp D)) D T n (bInn T n L q) := by
  obtain ⟨d, rfl⟩ : ∃ e, d = e + 1 := ⟨d - 1, by omega⟩
  have e1 := tE_le (T := T) hq
  have h10 := hL.1.1.2.2.2.1
  rw [e_M_readInn, b_M_readInn_0, hs 50 (by omega)]
  unfold bInn
  by_cases c : 10 ≤ L 50
  · obtain ⟨D1, a1, a2, a3⟩ := s_M_fails (X := X) (d := d) (D := D) (w := 4) (by omega) (by omega) h
    have a1 : ev X d m_M_fails [vR 12 0, vI 4] (hp D) = _ := a1
    rw [if_neg (by omega)] at a2
    rw [if_neg (by omega), if_pos c, a1]
    simp only [ab_cv]
    rw [b_M_readInn_19, if_neg a2.ne]
    exact ⟨D1, rfl, a2, a3.mo fun _ _ _ z => Or.inl z⟩
  · obtain ⟨D1, a1, a2, a3⟩ := s_M_next (X := X) (d := d) (D := D) (p := tE T n q) (by omega) hT e1.2 h.1.1 h.1.2.2.1
    rw [if_pos (by omega), if_neg c, b_M_readInn_19, if_pos h.2, a1]
    simp only [ab_cv]
    rw [b_M_readInn_31]
    exact (s_M_inns (X := X) (d := d) (i := L 50) (by omega) hT (by omega) 10 0 L (tE T n q) D1 vU rfl (by omega) hL rfl e1.2 (hs.fr (a3.mo fun _ _ _ z => nM_fM z)) (h.nx a2 a3)).tr (a3.mo fun _ _ _ z => nM_pM z) fun _ z => z
theorem s_M_eatsN {X : Nat × (Nat → Int)} {d : Nat} {D : DD} {T : List Nat} {n q : Nat} {k : Int} (hd : 3 ≤ d) (hk : (tK T n q : Int) ≠ k) (h : MKq D T n q) : ev X d m_M_eats [vR 12 0, vI k] (hp D) = some (some (vI 0), hp D) := by
  obtain ⟨d, rfl⟩ : ∃ e, d = e + 1 := ⟨d - 1, by omega⟩
  rw [e_M_eats, b_M_eats_0, s_M_is (by omega), h.1.2.2.2.1]
  simp only [ab_ci]
  rw [b_M_eats_5, if_neg (show ¬ (D 12 0 11 = 0 ∧ (tK T n q : Int) = k) from fun z => hk z.2), if_neg (by decide)]
theorem s_M_eatsF {X : Nat × (Nat → Int)} {d : Nat} {D : DD} {k : Int} (hd : 3 ≤ d) (h : D 12 0 11 ≠ 0) : ev X d m_M_eats [vR 12 0, vI k] (hp D) = some (some (vI 0), hp D) := by
  obtain ⟨d, rfl⟩ : ∃ e, d = e + 1 := ⟨d - 1, by omega⟩
  rw [e_M_eats, b_M_eats_0, s_M_is (by omega)]
  simp only [ab_ci]
  rw [b_M_eats_5, if_neg (show ¬ (D 12 0 11 = 0 ∧ D 12 0 9 = k) from fun z => h z.1), if_neg (by decide)]
theorem s_M_eatsY {X : Nat × (Nat → Int)} {d : Nat} {D : DD} {T : List Nat} {n q : Nat} {k : Int} (hd : 5 ≤ d) (hT : okT T n) (hq : q ≤ n) (hk : (tK T n q : Int) = k) (h : MKq D T n q) : ∃ D', ev X d m_M_eats [vR 12 0, vI k] (hp D) = some (some (vI 1), hp D') ∧ MKq D' T n (tE T n q) ∧ fr nM D D' := by
  obtain ⟨d, rfl⟩ : ∃ e, d = e + 1 := ⟨d - 1, by omega⟩
  obtain ⟨D1, a1, a2, a3⟩ := s_M_next (X := X) (d := d) (D := D) (p := tE T n q) (by omega) hT (tE_le (T := T) hq).2 h.1.1 h.1.2.2.1
  rw [e_M_eats, b_M_eats_0, s_M_is (by omega), h.1.2.2.2.1]
  simp only [ab_ci]
  rw [b_M_eats_5, if_pos (show D 12 0 11 = 0 ∧ (tK T n q : Int) = k from ⟨h.2, hk⟩), if_pos (by decide), a1]
  simp only [ab_cv]
  rw [b_M_eats_14]
  exact ⟨D1, rfl, h.nx a2 a3, a3⟩
/-- the end of a line -/
theorem s_M_sign {X : Nat × (Nat → Int)} {d : Nat} {D D1 : DD} {T : List Nat} {n : Nat} {r : BdR} {L : Nat → Nat} (hd : 6 ≤ d) (hT : okT T n) (h151 : ∀ z, r = .inr z → z.2 ≤ n ∧ z.1 151 < 1000) (hr : match r with
    | .inl e => MF D1 e
    | .inr z => MKq D1 T n z.2 ∧ SMq D1 z.1) (f1 : fr pM D D1) : mO (at_ X d cd_M_readLine 123 [vR 12 0] [] (hp D1)) D T n (bnE (bnE r fun z => bnE (sgnP T n z.2) fun e => .inr (z.1, e)) fun z => .inr (upL z.1 151 (z.1 151 + 1), z.2)) := by
  cases r with
  | inl e =>
    have hr : MF D1 e := hr
    rw [b_M_readLine_123, s_M_eatsF (by omega) hr.ne]
    simp only [ab_ci]
    rw [b_M_readLine_129, if_neg (by decide), s_M_failsF (by omega) hr.ne]
    simp only [ab_cv]
    rw [b_M_readLine_137]
    exact ⟨_, rfl, hr.on fun k => u3_t (by omega), f1.u (Or.inr ⟨rfl, rfl⟩)⟩
  | inr z =>
    obtain ⟨h1, h2⟩ := hr
    obtain ⟨g1, g2⟩ := h151 z rfl
    have nosign : ∀ e, tK T n z.2 ≠ 8 → (if tK T n z.2 = 10 then 1 else 2, tS T n z.2) = e → ∃ D', at_ X d cd_M_readLine 123 [vR 12 0] [] (hp D1) = some (none, hp D') ∧ MF D' e ∧ fr pM D D' := by
      intro e h8 he
      obtain ⟨D2, a1, a2, a3⟩ := s_M_fails (X := X) (d := d) (D := D1) (w := 2) (by omega) (by omega) h1
      have a1 : ev X d m_M_fails [vR 12 0, vI 2] (hp D1) = _ := a1
      rw [he] at a2
      rw [b_M_readLine_123, s_M_eatsN (by omega) (by omega) h1]
      simp only [ab_ci]
      rw [b_M_readLine_129, if_neg (by decide), a1]
      simp only [ab_cv]
      rw [b_M_readLine_137]
      exact ⟨_, rfl, a2.on fun k => u3_t (by omega), (f1.tr (a3.mo fun _ _ _ z => Or.inl z)).u (Or.inr ⟨rfl, rfl⟩)⟩
    show mO _ D T n (bnE (bnE (sgnP T n z.2) fun e => .inr (z.1, e)) fun z => .inr (upL z.1 151 (z.1 151 + 1), z.2))
    unfold sgnP
    by_cases c : tK T n z.2 = 10
    · rw [if_pos c]
      exact nosign _ (by omega) (by rw [if_pos c])
    rw [if_neg c]
    by_cases c8 : tK T n z.2 = 8
    · rw [if_neg (show ¬ (tK T n z.2 ≠ 8) from fun w => w c8)]
      obtain ⟨D2, a1, a2, a3⟩ := s_M_eatsY (X := X) (d := d) (D := D1) (k := 8) (by omega) hT g1 (by omega) h1
      have hs2 := h2.fr (a3.mo fun _ _ _ z => nM_fM z)
      rw [b_M_readLine_123, a1]
      simp only [ab_ci]
      rw [b_M_readLine_129, if_pos (by decide), b_M_readLine_137, hs2 151 (by omega), zb_s (by omega)]
      exact ⟨_, rfl, a2.on (fun k => u3_t (by omega)) (fun k => u3_t (by omega)), hs2.up, (f1.tr (a3.mo fun _ _ _ z => nM_pM z)).u (Or.inr ⟨rfl, rfl⟩)⟩
    · rw [if_pos c8]
      exact nosign _ c8 (by rw [if_neg c])
theorem s_M_readLine {X : Nat × (Nat → Int)} {d : Nat} {D : DD} {T : List Nat} {n q : Nat} {L : Nat → Nat} (hd : 10 ≤ d) (hT : okT T n) (hq : q ≤ n) (hk9 : tK T n q ≠ 9) (hL : okP L) (hs : SMq D L) (h : MKq D T n q) : mO (ev X d m_M_readLine [vR 12 0] (hp D)) D T n (bnE (lnP T n L q) fun z => .inr (upL z.1 151 (L 151 + 1), z.2)) := by
  obtain ⟨d, rfl⟩ : ∃ e, d = e + 1 := ⟨d - 1, by omega⟩
  have h16 := hL.1.1.1
  have h50 := hL.1.1.2.2.2.2
  have e1 := tE_le (T := T) hq
  have e2 := tE_le (T := T) e1.2
  have kle := tK_le (T := T) (n := n) (q := q)
  have e151 : (bnE (lnP T n L q) fun z => .inr (upL z.1 151 (L 151 + 1), z.2) : BdR) = bnE (bnE (bdP T n L q) fun z => bnE (sgnP T n z.2) fun e => .inr (z.1, e)) fun z => .inr (upL z.1 151 (z.1 151 + 1), z.2) := by
    show bnE (bnE (bdP T n L q) fun z => bnE (sgnP T n z.2) fun e => .inr (z.1, e)) _ = _
    cases hb : bdP T n L q with
    | inl e => rfl
    | inr z =>
      obtain ⟨_, _, _, o4⟩ := bdP_ok hL hq (L' := z.1) (q' := z.2) hb
      show bnE (bnE (sgnP T n z.2) fun e => .inr (z.1, e)) _ = bnE (bnE (sgnP T n z.2) fun e => .inr (z.1, e)) _
      cases sgnP T n z.2 with
      | inl e => rfl
      | inr e =>
        show (Sum.inr (upL z.1 151 (L 151 + 1), e) : BdR) = .inr (upL z.1 151 (z.1 151 + 1), e)
        rw [o4]
  rw [e151]
  have hz : ∀ z, bdP T n L q = .inr z → z.2 ≤ n ∧ z.1 151 < 1000 := fun z hb => by
    obtain ⟨_, _, o3, o4⟩ := bdP_ok hL hq (L' := z.1) (q' := z.2) hb
    exact ⟨o3, by omega⟩
  have key : ∀ (F : Option (Option ab_V × ab_H)), mO F D T n (bdP T n L q) → (∀ D', F = some (none, hp D') → ev X (d + 1) m_M_readLine [vR 12 0] (hp D) = at_ X d cd_M_readLine 123 [vR 12 0] [] (hp D')) → mO (ev X (d + 1) m_M_readLine [vR 12 0] (hp D)) D T n (bnE (bnE (bdP T n L q) fun z => bnE (sgnP T n z.2) fun e => .inr (z.1, e)) fun z => .inr (upL z.1 151 (z.1 151 + 1), z.2)) := by
    intro F hF he
    unfold mO at hF
    cases hb : bdP T n L q with
    | inl e =>
      rw [hb] at hF hz
      obtain ⟨D1, a1, a2, a3⟩ := hF
      rw [he D1 a1]
      exact s_M_sign (L := L) (r := .inl e) (by omega) hT hz a2 a3
    | inr z =>
      rw [hb] at hF hz
      obtain ⟨D1, a1, a2, a4, a3⟩ := hF
      rw [he D1 a1]
      exact s_M_sign (L := L) (r := .inr z) (by omega) hT hz ⟨a2, a4⟩ a3
  have bad : ∀ w : Nat, w = 2 → bdP T n L q = .inl (if tK T n q = 10 then 1 else w, tS T n q) → mO (ev X d m_M_fails [vR 12 0, vI 2] (hp D)) D T n (bdP T n L q) := by
    intro w hw hb
    subst hw
    obtain ⟨D1, a1, a2, a3⟩ := s_M_fails (X := X) (d := d) (D := D) (w := 2) (by omega) (by omega) h
    have a1 : ev X d m_M_fails [vR 12 0, vI 2] (hp D) = _ := a1
    rw [hb]
    exact ⟨D1, a1, a2, a3.mo fun _ _ _ z => Or.inl z⟩
  have s0 : ev X (d + 1) m_M_readLine [vR 12 0] (hp D) = (if (if (tK T n q : Int) = 0 then (1 : Int) else 0) = 0 then if (L 0 : Int) ≠ 0 then ab_ci (ev X d m_M_is [vR 12 0, vI 5] (hp D)) (fun y9 h9 => at_ X d cd_M_readLine 37 [vR 12 0] [vI y9] h9) else ab_cv (ev X d m_M_fails [vR 12 0, vI 2] (hp D)) (fun h9 => at_ X d cd_M_readLine 29 [vR 12 0] [] h9) else ab_cv (ev X d m_M_readThings [vR 12 0] (hp D)) (fun h9 => at_ X d cd_M_readLine 12 [vR 12 0] [] h9)) := by
    rw [e_M_readLine, b_M_readLine_0, s_M_is (by omega), h.1.2.2.2.1]
    simp only [ab_ci]
    rw [b_M_readLine_5, hs 0 (by omega), h.2]
    simp only [true_and]
    rfl
  by_cases k0 : tK T n q = 0
  · have hb : bdP T n L q = bThings T n L q := by unfold bdP; rw [if_neg (by omega), if_neg (by omega), if_pos k0]
    have g := s_M_bThings (X := X) (d := d) (D := D) (by omega) hT hq k0 hs h
    rw [← hb] at g
    refine key _ g fun D' z => ?_
    rw [s0, if_pos (show (tK T n q : Int) = 0 by omega), if_neg (by decide), z]
    simp only [ab_cv]
    rw [b_M_readLine_12]
  rw [if_neg (show ¬ (tK T n q : Int) = 0 by omega), if_pos rfl] at s0
  by_cases c0 : L 0 = 0
  · have hb : bdP T n L q = .inl (if tK T n q = 10 then 1 else 2, tS T n q) := by
      unfold bdP
      by_cases c10 : tK T n q = 10
      · rw [if_pos c10, if_pos c10]
      · rw [if_neg c10, if_pos (Or.inr ⟨k0, c0⟩), if_neg c10]
    refine key _ (bad 2 rfl hb) fun D' z => ?_
    rw [s0, if_neg (by omega), z]
    simp only [ab_cv]
    rw [b_M_readLine_29]
  rw [if_pos (show (L 0 : Int) ≠ 0 by omega), s_M_is (by omega), h.1.2.2.2.1, h.2] at s0
  simp only [ab_ci, true_and] at s0
  rw [b_M_readLine_37] at s0
  by_cases k5 : tK T n q = 5
  · have hb : bdP T n L q = bInn T n L q := by unfold bdP; rw [if_neg (by omega), if_neg (by omega), if_neg (by omega), if_neg (by omega), if_neg (by omega), if_neg (by omega), if_neg (by omega)]
    have g := s_M_bInn (X := X) (d := d) (D := D) (by omega) hT hq k5 hL hs h
    rw [← hb] at g
    refine key _ g fun D' z => ?_
    rw [s0, if_pos (show (tK T n q : Int) = 5 by omega), if_neg (by decide), z]
    simp only [ab_cv]
    rw [b_M_readLine_44]
  rw [if_neg (show ¬ (tK T n q : Int) = 5 by omega), if_pos rfl] at s0
  by_cases k1 : tK T n q = 1
  · obtain ⟨D1, a1, a2, a3⟩ := s_M_eatsY (X := X) (d := d) (D := D) (k := 1) (by omega) hT hq (by omega) h
    have hb : bdP T n L q = bMind T n L q := by unfold bdP; rw [if_neg (by omega), if_neg (by omega), if_neg (by omega), if_pos k1]
    have r := s_M_takes (X := X) (d := d) (D := D1) (lo := 1) (hi := 10) (p2 := 9) (by omega) hT e1.2 (by decide) a2
    rw [a1] at s0
    simp only [ab_ci] at s0
    rw [b_M_readLine_52, if_neg (by decide)] at s0
    unfold mN at r
    have f1 : fr pM D D1 := a3.mo fun _ _ _ z => nM_pM z
    have hs1 := hs.fr (a3.mo fun _ _ _ z => nM_fM z)
    rw [hb] at hz ⊢
    unfold bMind at hz ⊢
    cases hn : numP T n 1 10 (-1) (tE T n q) with
    | inl e =>
      rw [hn] at r hz
      obtain ⟨y, D2, b1, b2, b3⟩ := r
      have b1 : ev X d m_M_takes [vR 12 0, vI 1, vI 9] (hp D1) = _ := b1
      rw [b1] at s0
      simp only [ab_ci] at s0
      rw [b_M_readLine_67, if_pos (by omega)] at s0
      rw [s0]
      exact s_M_sign (L := L) (r := .inl e) (by omega) hT hz (b2.on fun k => u3_t (by omega)) ((f1.tr (b3.mo fun _ _ _ z => Or.inl z)).u (Or.inr ⟨rfl, rfl⟩))
    | inr x =>
      rw [hn] at r hz
      obtain ⟨D2, b1, b2, b3⟩ := r
      have b1 : ev X d m_M_takes [vR 12 0, vI 1, vI 9] (hp D1) = _ := b1
      rw [b1] at s0
      simp only [ab_ci] at s0
      rw [b_M_readLine_67, if_pos (by omega)] at s0
      rw [s0]
      exact s_M_sign (L := L) (r := .inr (upL L 1 x, tE T n (tE T n q))) (by omega) hT hz ⟨b2.on (fun k => u3_t (by omega)) (fun k => u3_t (by omega)), (hs1.fr (b3.mo fun _ _ _ z => nM_fM z)).up⟩ ((f1.tr (b3.mo fun _ _ _ z => nM_pM z)).u (Or.inr ⟨rfl, rfl⟩))
  rw [s_M_eatsN (by omega) (by omega) h] at s0
  simp only [ab_ci] at s0
  rw [b_M_readLine_52, if_pos rfl] at s0
  by_cases k2 : tK T n q = 2
  · obtain ⟨D1, a1, a2, a3⟩ := s_M_eatsY (X := X) (d := d) (D := D) (k := 2) (by omega) hT hq (by omega) h
    have hb : bdP T n L q = bPair T n L false q := by unfold bdP; rw [if_neg (by omega), if_neg (by omega), if_neg (by omega), if_neg (by omega), if_pos k2]
    have g := s_M_bPair (X := X) (d := d) (D := D1) (sec := false) (by omega) hT hq hL (hs.fr (a3.mo fun _ _ _ z => nM_fM z)) a2
    rw [← hb] at g
    have g := mO.tr (G := ev X d m_M_readTwo [vR 12 0, vI 1] (hp D1)) g (a3.mo fun _ _ _ z => nM_pM z) (fun D' z => z)
    refine key _ g fun D' z => ?_
    rw [s0, a1]
    simp only [ab_ci]
    rw [b_M_readLine_76, if_neg (by decide), z]
    simp only [ab_cv]
    rw [b_M_readLine_84]
  rw [s_M_eatsN (by omega) (by omega) h] at s0
  simp only [ab_ci] at s0
  rw [b_M_readLine_76, if_pos rfl] at s0
  by_cases k3 : tK T n q = 3
  · obtain ⟨D1, a1, a2, a3⟩ := s_M_eatsY (X := X) (d := d) (D := D) (k := 3) (by omega) hT hq (by omega) h
    have hb : bdP T n L q = bPair T n L true q := by unfold bdP; rw [if_neg (by omega), if_neg (by omega), if_neg (by omega), if_neg (by omega), if_neg (by omega), if_pos k3]
    have g := s_M_bPair (X := X) (d := d) (D := D1) (sec := true) (by omega) hT hq hL (hs.fr (a3.mo fun _ _ _ z => nM_fM z)) a2
    rw [← hb] at g
    have g := mO.tr (G := ev X d m_M_readTwo [vR 12 0, vI 0] (hp D1)) g (a3.mo fun _ _ _ z => nM_pM z) (fun D' z => z)
    refine key _ g fun D' z => ?_
    rw [s0, a1]
    simp only [ab_ci]
    rw [b_M_readLine_92, if_neg (by decide), z]
    simp only [ab_cv]
    rw [b_M_readLine_100]
  rw [s_M_eatsN (by omega) (by omega) h] at s0
  simp only [ab_ci] at s0
  rw [b_M_readLine_92, if_pos rfl] at s0
  by_cases k4 : tK T n q = 4
  · obtain ⟨D1, a1, a2, a3⟩ := s_M_eatsY (X := X) (d := d) (D := D) (k := 4) (by omega) hT hq (by omega) h
    have hb : bdP T n L q = bWorth T n L q := by unfold bdP; rw [if_neg (by omega), if_neg (by omega), if_neg (by omega), if_neg (by omega), if_neg (by omega), if_neg (by omega), if_pos k4]
    have g := s_M_bWorth (X := X) (d := d) (D := D1) (by omega) hT hq hL (hs.fr (a3.mo fun _ _ _ z => nM_fM z)) a2
    rw [← hb] at g
    have g := mO.tr (G := ev X d m_M_readWorth [vR 12 0] (hp D1)) g (a3.mo fun _ _ _ z => nM_pM z) (fun D' z => z)
    refine key _ g fun D' z => ?_
    rw [s0, a1]
    simp only [ab_ci]
    rw [b_M_readLine_108, if_neg (by decide), z]
    simp only [ab_cv]
    rw [b_M_readLine_115]
  rw [s_M_eatsN (by omega) (by omega) h] at s0
  simp only [ab_ci] at s0
  rw [b_M_readLine_108, if_pos rfl] at s0
  have hb : bdP T n L q = .inl (if tK T n q = 10 then 1 else 2, tS T n q) := by
    unfold bdP
    by_cases c10 : tK T n q = 10
    · rw [if_pos c10, if_pos c10]
    · rw [if_neg c10, if_pos (Or.inl (by omega)), if_neg c10]
  refine key _ (bad 2 rfl hb) fun D' z => ?_
  rw [s0, z]
  simp only [ab_cv]
theorem s_M_text {X : Nat × (Nat → Int)} {d : Nat} {T : List Nat} {n : Nat} (hd : 11 ≤ d) (hT : okT T n) : ∀ (f : Nat) (L : Nat → Nat) (q : Nat) (D : DD), L 151 ≤ q → q ≤ n → n ≤ q + f → okP L → SMq D L → MKq D T n q → ∃ D', at_ X d cd_M_lore 78 [vR 12 0, vU, vU] [] (hp D) = at_ X d cd_M_lore 101 [vR 12 0, vU, vU] [] (hp D') ∧ (match prsP T n f L q with
    | .inl e => MF D' e
    | .inr L' => SMq D' L' ∧ D' 12 0 11 = 0) ∧ fr pM D D' := by
  have h5 := hT.1
  intro f
  induction f with
  | zero =>
    intro L q D h2 h3 h4 hL hs h
    have k9 : tK T n q = 9 := tK_9 (by omega) h3
    rw [prsP, b_M_lore_78, if_neg (fun z => z h.2), h.1.2.2.2.1, if_pos (by omega)]
    exact ⟨D, rfl, ⟨hs, h.2⟩, fr.rf D⟩
  | succ f ih =>
    intro L q D h2 h3 h4 hL hs h
    rw [prsP, b_M_lore_78, if_neg (fun z => z h.2), h.1.2.2.2.1]
    by_cases c : tK T n q = 9
    · rw [if_pos (by omega), if_pos c]
      exact ⟨D, rfl, ⟨hs, h.2⟩, fr.rf D⟩
    rw [if_neg (by omega), if_neg c]
    have r := s_M_readLine (X := X) (d := d) (D := D) (by omega) hT h3 c hL hs h
    unfold mO at r
    cases hn : lnP T n L q with
    | inl e =>
      rw [hn] at r
      obtain ⟨D1, a1, a2, a3⟩ := r
      rw [a1]
      simp only [ab_cv]
      rw [b_M_lore_98, b_M_lore_78, if_pos a2.ne]
      exact ⟨D1, rfl, a2, a3⟩
    | inr z =>
      rw [hn] at r
      obtain ⟨L', q'⟩ := z
      obtain ⟨D1, a1, a2, a4, a3⟩ := r
      obtain ⟨o1, o2, o3, o4⟩ := lnP_ok hL h3 hn
      have a2 : MKq D1 T n q' := a2
      have a4 : SMq D1 (upL L' 151 (L 151 + 1)) := a4
      rw [a1]
      simp only [ab_cv]
      rw [b_M_lore_98]
      obtain ⟨D2, g1, g2, g3⟩ := ih (upL L' 151 (L 151 + 1)) q' D1 (by rw [upL_e]; omega) o3 (by omega) (okP_li o1 (by omega)) a4 a2
      exact ⟨D2, g1, g2, a3.tr g3⟩
end
