/-! calls: risk, perform, judge -/
section
def stG (S : St) (men : List Cr) : St := ((S.1.1, men, S.1.2.2), S.2)
theorem CH.gc {D : DD} {S : St} (h : CH D S) : GC D 0 (sW S).2.1 := ⟨h.n, fun c v hv => h.1.2.2.1 c v hv⟩
theorem SOK.gm {S : St} (hS : SOK S) : okm (sW S).2.1 := ⟨hS.1.2.1, hS.1.2.2.1⟩
theorem MH.gm {D : DD} {S : St} (h : MH D S) : GM D (sW S).2.1 := ⟨h.n, fun c v hv => by
  have := h.1.2.2.1 c v hv
  rw [Nat.zero_add] at this
  exact this⟩
theorem mnL_mnD (S : St) (c : Nat) : mnL (sW S).2.1 c = mnD S c := rfl
theorem CH.grp {D D' : DD} {S : St} {men : List Cr} (hS : SOK S) (h : CH D S) (e : fr (fun t i k => gP 0 t i k ∨ cX t i k) D D') (hg : GC D' 0 men) : CH D' (stG S men) ∧ fr cY D D' := by
  have k0 : kB 0 = 0 := rfl
  have hn : ∀ t i k, ¬ ((t = 3 ∨ t = 47) ∧ i < 6) → ¬ cX t i k → D' t i k = D t i k := fun t i k n1 n2 => e t i k (fun z => by
    rcases z with z | z
    · exact n1 ⟨z.1, by have := z.2.2; omega⟩
    · exact n2 z)
  obtain ⟨⟨a1, a2, a3, a4, a5⟩, h2, h3, h4⟩ := h
  refine ⟨⟨⟨a1.on fun t k ht => hn t _ k (by omega) (by unfold cX; omega), hg.1, fun c v hv => hg.2 c v hv, (hn _ _ _ (by omega) (by unfold cX; omega)).trans a4, fun p l hp9 => ?_⟩, fun i hi => (h2 i hi).on hi (hS.2.1 i hi) fun t j k n1 n2 _ _ _ _ _ _ _ _ => hn t j k (by omega) n1, fun r hr => (h3 r hr).on fun t k ht => hn t _ k (by omega) (by unfold cX; omega), h4.on (fun k hk => hn _ _ _ (by omega) (by unfold cX; omega)) (fun k => hn _ _ _ (by omega) (by unfold cX; omega))⟩, fun t i k hz => ?_⟩
  · obtain ⟨g1, g2⟩ := a5 p l hp9
    exact ⟨(hn _ _ _ (by omega) (by unfold cX; omega)).trans g1, fun k hk => (hn _ _ _ (by omega) (by unfold cX; omega)).trans (g2 k hk)⟩
  · unfold cY at hz
    exact hn t i k (by omega) (by unfold cX; omega)
theorem MH.grp {D D' : DD} {S : St} {men : List Cr} (hS : SOK S) (h : MH D S) (e : fr (fun t i k => aP t i k ∨ mX t i k) D D') (hg : GM D' men) : MH D' (stG S men) ∧ fr mY D D' := by
  have hn : ∀ t i k, ¬ (t = 22 ∧ i = 0 ∧ 153 ≤ k ∧ k < 356) → ¬ mX t i k → D' t i k = D t i k := fun t i k n1 n2 => e t i k (fun z => by
    rcases z with z | z
    · rcases z with z | z
      · exact n1 ⟨z.1, z.2.1, z.2.2.1, by have := z.2.2.2; omega⟩
      · exact n2 (by unfold mX; omega)
    · exact n2 z)
  obtain ⟨⟨a1, a2, a3, a4, a5⟩, h2, h3, h4⟩ := h
  refine ⟨⟨⟨fun k hk => (hn _ _ _ (by omega) (by unfold mX; omega)).trans (a1 k hk), hg.1, fun c v hv => ?_, (hn _ _ _ (by omega) (by unfold mX; omega)).trans a4, fun p l hp9 => ?_⟩, fun i hi => (h2 i hi).on (hS.2.1 i hi) (hn _ _ _ (by omega) (by unfold mX; omega)) (fun k k1 k2 => hn _ _ _ (by omega) (by unfold mX; omega)), fun r hr => (h3 r hr).on fun t k ht => hn _ _ _ (by omega) (by unfold mX; omega), h4.on (hn _ _ _ (by omega) (by unfold mX; omega)) (hn _ _ _ (by omega) (by unfold mX; omega)) (hn _ _ _ (by omega) (by unfold mX; omega)) (fun k => hn _ _ _ (by omega) (by unfold mX; omega))⟩, fun t i k hz => ?_⟩
  · rw [Nat.zero_add]
    exact hg.2 c v hv
  · have := lt_of_some hp9
    have h8 : (sW S).2.2.length ≤ 6 := hS.1.2.2.2.2.1
    have := hS.1.2.2.2.2.2 l (List.mem_of_getElem? hp9)
    obtain ⟨g1, g2⟩ := a5 p l hp9
    exact ⟨(hn _ _ _ (by omega) (by unfold mX; omega)).trans g1, fun k hk => (hn _ _ _ (by omega) (by unfold mX; omega)).trans (g2 k hk)⟩
  · unfold mY at hz
    exact hn t i k (by omega) (by unfold mX; omega)
theorem SOK.grp {S : St} {men : List Cr} (hS : SOK S) (hm : okm men) (hl : men.length = (sW S).2.1.length) : SOK (stG S men) := by
  obtain ⟨⟨o1, o2, o3, o4, o5, o6⟩, h⟩ := hS
  refine ⟨⟨o1, hm.1, hm.2, fun hne => o4 fun z => hne ?_, o5, o6⟩, h⟩
  have : (sW S).2.1 = [] := z
  rw [this] at hl
  exact List.eq_nil_of_length_eq_zero hl
theorem okm.aa {L : Nat → Nat} (hL : LOK L) {c : Nat} : ∀ (l : List Int) (n b : Nat) (men : List Cr), okm men → c < men.length → okm (aaV L c l n men b).2.1 ∧ (aaV L c l n men b).2.1.length = men.length ∧ (aaV L c l n men b).1 ≤ n + l.length := by
  intro l
  induction l with
  | nil => intro n b men h hc; exact ⟨h, rfl, Nat.le_refl _⟩
  | cons x r ih =>
    intro n b men h hc
    rw [aaV]
    cases hq : actV L men c x with
    | none => exact ⟨h, rfl, Nat.le_add_right _ _⟩
    | some men' =>
      obtain ⟨k1, k2⟩ := h.act hL hc hq
      obtain ⟨r1, r2, r3⟩ := ih (n + 1) (if spO L (bs (cL (mnL men' c))) = none then b else b + 1) men' k1 (by omega)
      exact ⟨r1, r2.trans k2, by rw [List.length_cons]; show (aaV L c r (n + 1) men' _).1 ≤ _; omega⟩
-- perform
def aaS (S : St) (x y : Int) : Nat × List Cr × Nat := aaV (sW S).1 x.toNat (rwD S y.toNat).2 0 (sW S).2.1 0
def f_perform (S : St) (x y : Int) : Int × St := if 0 ≤ x ∧ x < ((sW S).2.1.length : Int) then (if rrI S y = 0 then (((aaS S x y).1 : Int), stG S (aaS S x y).2.1) else (rrI S y, S)) else (-2, S)
theorem C_perform {X : Nat × (Nat → Int)} {d : Nat} {D : DD} {S : St} {x y : Int} (hd : 12 ≤ d) (hS : SOK S) (hC : CH D S) : cRes X d m_N_perform [vI x, vI y] D (f_perform S x y) := by
  obtain ⟨d, rfl⟩ : ∃ e, d = e + 1 := ⟨d - 1, by omega⟩
  have h6 := hS.n6
  unfold cRes f_perform
  rw [e_N_perform, b_N_perform_0, s_C_isOne (by omega) hC.n]
  simp only [ab_ci]
  rw [b_N_perform_9]
  by_cases h1 : 0 ≤ x ∧ x < ((sW S).2.1.length : Int)
  · obtain ⟨c, rfl⟩ : ∃ t : Nat, x = (t : Int) := ⟨x.toNat, by omega⟩
    have hc : c < (sW S).2.1.length := by omega
    rw [isI_t h1, if_pos (by decide), if_pos h1, s_C_refusalOfRow (by omega) hC]
    simp only [ab_ci]
    rw [b_N_perform_20]
    by_cases h2 : rrI S y = 0
    · obtain ⟨r, rfl, hr, er⟩ := rrI_0 h2
      have hrc := hC.2.2.1 r hr
      have hro := hS.2.2.1 r hr
      rw [er] at hrc hro
      obtain ⟨D1, g1, ⟨g2, g3⟩, g4⟩ := s_C_act (X := X) (d := d) (D := D) (a := 0) (c := c) (q := 1) (r := r) (by omega) hS.L hC.l hS.gm hC.gc hc hrc hro
      rw [if_pos h2, if_pos (by omega), Int.toNat_natCast, R21 hr, if_pos h2]
      simp only [ab_rf]
      rw [b_N_perform_42, g1]
      simp only [ab_ci]
      rw [b_N_perform_45]
      exact ⟨D1, rfl, hC.grp hS (g4.mo fun t i k z => by
        rcases z with z | z
        · exact Or.inl z
        · exact Or.inr (by unfold cX; omega)) g2⟩
    · rw [if_neg h2, if_neg h2]
      exact ⟨D, rfl, hC, fr.rf D⟩
  · rw [isI_f h1, if_neg (by decide), if_neg h1]
    exact ⟨D, rfl, hC, fr.rf D⟩
theorem bP_mX {t i k : Nat} (h : bP t i k) : aP t i k ∨ mX t i k := by
  rcases h with z | z
  · exact Or.inl z
  · exact Or.inr (by unfold mX; omega)
theorem M_perform {X : Nat × (Nat → Int)} {d : Nat} {D : DD} {S : St} {x y : Int} (hd : 12 ≤ d) (hS : SOK S) (hM : MH D S) : mRes X d m_M_perform [vI x, vI y] D (f_perform S x y) := by
  obtain ⟨d, rfl⟩ : ∃ e, d = e + 1 := ⟨d - 1, by omega⟩
  have h6 := hS.n6
  have hM := hM.th hS
  unfold mRes f_perform
  rw [e_M_perform, b_M_perform_0, s_M_isMan (by omega) hM.n h6]
  simp only [ab_ci]
  rw [b_M_perform_11]
  by_cases h1 : 0 ≤ x ∧ x < ((sW S).2.1.length : Int)
  · obtain ⟨c, rfl⟩ : ∃ t : Nat, x = (t : Int) := ⟨x.toNat, by omega⟩
    have hc : c < (sW S).2.1.length := by omega
    rw [isI_t h1, if_neg (by decide), if_pos h1, s_M_within (by omega)]
    simp only [ab_ci]
    rw [b_M_perform_23]
    by_cases h0 : 0 ≤ y ∧ y ≤ 3
    · obtain ⟨r, rfl⟩ : ∃ t : Nat, y = (t : Int) := ⟨y.toNat, by omega⟩
      obtain ⟨w1, w2⟩ := M_row hM (r := r) (by omega)
      rw [if_pos h0, if_pos (by decide), if_pos (by omega), Int.toNat_natCast]
      by_cases h2 : rrI S (r : Int) = 0
      · obtain ⟨r', hr1, hr, er⟩ := rrI_0 h2
        have : r' = r := by omega
        subst this
        have hrc := hM.2.2.1 r' hr
        have hro := hS.2.2.1 r' hr
        rw [er] at hrc hro
        obtain ⟨D1, g1, ⟨g2, g3⟩, g4⟩ := s_M_actsAll (X := X) (d := d) (D := u3 D 12 0 0 0) (c := c) (r := r') (by omega) hr hS.L hM.l hS.gm hM.gm hc hrc hro
        rw [if_pos (w1.mpr h2), if_pos h2, g1]
        simp only [ab_ci]
        rw [b_M_perform_48]
        obtain ⟨k1, k2⟩ := hM.grp hS (g4.mo fun _ _ _ z => bP_mX z) g2
        exact ⟨D1, rfl, k1, (th_mY D).tr k2⟩
      · rw [if_neg (fun z => h2 (w1.mp z)), if_neg h2, w2 h2]
        exact ⟨_, rfl, hM, th_mY D⟩
    · have e := rrI_out (S := S) h0
      rw [if_neg h0, if_neg (by decide), if_neg (by rw [e]; decide), e]
      exact ⟨_, rfl, hM, th_mY D⟩
  · rw [isI_f h1, if_pos rfl, if_neg h1]
    exact ⟨_, rfl, hM, th_mY D⟩
theorem ok_perform {S : St} {x y : Int} (hS : SOK S) : SOK (f_perform S x y).2 := by
  unfold f_perform
  split
  · split
    · obtain ⟨r1, r2, r3⟩ := okm.aa hS.L (c := x.toNat) (rwD S y.toNat).2 0 0 (sW S).2.1 hS.gm (by omega)
      exact hS.grp r1 r2
    · exact hS
  · exact hS
-- risk
def f_risk (S : St) (x y : Int) : Int × St := (if (0 ≤ x ∧ x < ((sW S).2.1.length : Int)) ∧ 0 ≤ y ∧ y < ((sW S).1 0 : Int) then (if spI (spO (sW S).1 (bs (cL (hrV (mnD S x.toNat) y.toNat)))) = -1 then 0 else 1) else -2, S)
theorem gP1_cX {t i k : Nat} (h : gP 1 t i k) : cX t i k := by
  have k1 : kB 1 = 6 := rfl
  unfold gP at h
  rw [k1] at h
  unfold cX
  omega
theorem qP1_cX {t i k : Nat} (h : qP 1 t i k) : cX t i k := by
  have k1 : kB 1 = 6 := rfl
  unfold qP at h
  rw [k1] at h
  unfold cX
  omega
theorem s_C_judged {X : Nat × (Nat → Int)} {d : Nat} {D : DD} {S : St} (hd : 6 ≤ d) (hS : SOK S) (hC : CH D S) : ∃ D', ev X d m_Company_likeOf [vR 2 1, vR 2 0] (hp D) = some (none, hp D') ∧ GC D' 1 (sW S).2.1 ∧ CH D' S ∧ fr cX D D' := by
  have k0 : kB 0 = 0 := rfl
  have k1 : kB 1 = 6 := rfl
  obtain ⟨D1, g1, g2, g3⟩ := s_C_compLike (X := X) (d := d) (D := D) (a := 1) (b := 0) (men := (sW S).2.1) hd (by omega) (by omega) hS.gm.1 hS.gm.2 hC.n hC.gc.2
  have f1 : fr cX D D1 := g3.mo fun _ _ _ z => qP1_cX z
  exact ⟨D1, g1, g2, hC.scr hS f1, f1⟩
theorem C_risk {X : Nat × (Nat → Int)} {d : Nat} {D : DD} {S : St} {x y : Int} (hd : 12 ≤ d) (hS : SOK S) (hC : CH D S) : cRes X d m_N_risk [vI x, vI y] D (f_risk S x y) := by
  obtain ⟨d, rfl⟩ : ∃ e, d = e + 1 := ⟨d - 1, by omega⟩
  have h6 := hS.n6
  have h16 := hS.L.1.1
  unfold cRes f_risk
  rw [e_N_risk, b_N_risk_0, s_C_isOne (by omega) hC.n]
  simp only [ab_ci]
  rw [b_N_risk_9]
  by_cases h1 : 0 ≤ x ∧ x < ((sW S).2.1.length : Int)
  · rw [isI_t h1, if_neg (by decide), s_C_isThing (by omega) hC.l]
    simp only [ab_ci]
    rw [b_N_risk_21]
    by_cases h2 : 0 ≤ y ∧ y < ((sW S).1 0 : Int)
    · obtain ⟨c, rfl⟩ : ∃ t : Nat, x = (t : Int) := ⟨x.toNat, by omega⟩
      obtain ⟨t, rfl⟩ : ∃ t : Nat, y = (t : Int) := ⟨y.toNat, by omega⟩
      have hc : c < (sW S).2.1.length := by omega
      obtain ⟨D1, g1, g2, g3, g4⟩ := s_C_judged (X := X) (d := d) (D := D) (by omega) hS hC
      obtain ⟨D2, w1, w2, w3⟩ := s_C_hear (X := X) (d := d) (D := D1) (i := kB 1 + c) (t := t) (v := mnD S c) (by omega) (hS.oc hc) (g2.cc hc) (by omega)
      have f2 : fr cX D1 D2 := (cP_gP (a := 1) (by omega) w3).mo fun _ _ _ z => gP1_cX z
      rw [isI_t h2, if_pos (by decide), g1, if_pos (And.intro h1 h2), Int.toNat_natCast, Int.toNat_natCast]
      simp only [ab_cv]
      rw [b_N_risk_38, if_pos (by omega), Int.toNat_natCast, R46 (by omega)]
      simp only [ab_rf]
      rw [b_N_risk_47, w1]
      simp only [ab_ci]
      rw [b_N_risk_53, w2.2.2.2.1, s_C_secretPair (by omega) hS.L ((g3.scr hS f2).l) (bs_31 ((hS.oc hc).hr (t := t) (by omega)).2.2.1)]
      simp only [ab_ci]
      rw [b_N_risk_65]
      refine ⟨D2, ?_, g3.scr hS f2, (g4.tr f2).mo fun _ _ _ z => cX_cY z⟩
      by_cases hs : spI (spO (sW S).1 (bs (cL (hrV (mnD S c) t)))) = -1
      · rw [if_neg (fun z => z hs), if_pos hs]
      · rw [if_pos hs, if_neg hs]
    · rw [isI_f h2, if_neg (by decide), if_neg (fun z => h2 z.2)]
      exact ⟨D, rfl, hC, fr.rf D⟩
  · rw [isI_f h1, if_pos rfl, if_neg (fun z => h1 z.1)]
    exact ⟨D, rfl, hC, fr.rf D⟩
theorem mP6_mX {t i k : Nat} (h : mP (mB 6) t i k) : mX t i k := by
  have : mB 6 = 327 := rfl
  unfold mP at h
  unfold mX
  omega
theorem M_risk {X : Nat × (Nat → Int)} {d : Nat} {D : DD} {S : St} {x y : Int} (hd : 12 ≤ d) (hS : SOK S) (hM : MH D S) : mRes X d m_M_risk [vI x, vI y] D (f_risk S x y) := by
  obtain ⟨d, rfl⟩ : ∃ e, d = e + 1 := ⟨d - 1, by omega⟩
  have h6 := hS.n6
  have h16 := hS.L.1.1
  have hM := hM.th hS
  unfold mRes f_risk
  rw [e_M_risk, b_M_risk_0, s_M_isMan (by omega) hM.n h6]
  simp only [ab_ci]
  rw [b_M_risk_11]
  by_cases h1 : 0 ≤ x ∧ x < ((sW S).2.1.length : Int)
  · rw [isI_t h1, if_neg (by decide), s_M_isThing (by omega) hM.l hS.L]
    simp only [ab_ci]
    rw [b_M_risk_20]
    by_cases h2 : 0 ≤ y ∧ y < ((sW S).1 0 : Int)
    · obtain ⟨c, rfl⟩ : ∃ t : Nat, x = (t : Int) := ⟨x.toNat, by omega⟩
      obtain ⟨t, rfl⟩ : ∃ t : Nat, y = (t : Int) := ⟨y.toNat, by omega⟩
      have hc : c < (sW S).2.1.length := by omega
      have ok := hS.oc hc
      obtain ⟨D1, g1, g2, g3⟩ := s_M_triesAs (X := X) (d := d) (D := u3 D 12 0 0 0) (c := c) (v := mnD S c) (by omega) (by omega) ok (hM.mc hc)
      obtain ⟨D2, w1, w2, w3⟩ := s_M_hear (X := X) (d := d) (D := D1) (c := 6) (t := t) (v := mnD S c) (by omega) (by omega) ok g2 (by omega)
      have f12 : fr mX (u3 D 12 0 0 0) D2 := (g3.mo fun _ _ _ z => mP6_mX z).tr (w3.mo fun _ _ _ z => mP6_mX z)
      have hM2 : MH D2 S := hM.scr hS f12
      have ok2 := ok.hr (t := t) (by omega)
      have e6 : ∀ as, ev X d m_M_hear (vR 12 0 :: vI 6 :: as) = ev X d m_M_hear (vR 12 0 :: vI ((6 : Nat) : Int) :: as) := fun as => rfl
      have e7 : ev X d m_M_isBreach [vR 12 0, vI 6] = ev X d m_M_isBreach [vR 12 0, vI ((6 : Nat) : Int)] := rfl
      rw [isI_t h2, if_pos (by decide), g1, if_pos (And.intro h1 h2), Int.toNat_natCast, Int.toNat_natCast]
      simp only [ab_cv]
      rw [b_M_risk_31, e6, w1]
      simp only [ab_ci]
      rw [b_M_risk_38, e7, s_M_isBreach (by omega) (by omega) hS.L hM2.l w2 ⟨ok2.2.1, ok2.2.2.1, Nat.le_trans ok2.2.2.2 ok2.1.2.1⟩]
      simp only [ab_ci]
      rw [b_M_risk_45]
      refine ⟨D2, ?_, hM2, (th_mY D).tr (f12.mo fun _ _ _ z => mX_mY z)⟩
      by_cases hs : spI (spO (sW S).1 (bs (cL (hrV (mnD S c) t)))) = -1
      · rw [if_pos hs, if_pos rfl]
      · rw [if_neg hs, if_neg (by decide)]
    · rw [isI_f h2, if_neg (by decide), if_neg (fun z => h2 z.2)]
      exact ⟨_, rfl, hM, th_mY D⟩
  · rw [isI_f h1, if_pos rfl, if_neg (fun z => h1 z.1)]
    exact ⟨_, rfl, hM, th_mY D⟩
-- judge
def f_judge (S : St) (x y w : Int) : Int × St := (if (0 ≤ x ∧ x < ((sW S).2.1.length : Int)) ∧ 0 ≤ w ∧ w ≤ 3 then (if rrI S y = 0 then (if w = 0 then (if (aaS S x y).1 < (rwD S y.toNat).2.length then ((aaS S x y).1 : Int) else -1) else if w = 1 then w32 (cZ (mnL (aaS S x y).2.1 x.toNat) - cZ (mnD S x.toNat)) else if w = 2 then (bs (cL (mnL (aaS S x y).2.1 x.toNat)) : Int) else ((aaS S x y).2.2 : Int)) else rrI S y) else -2, S)
theorem C_judge {X : Nat × (Nat → Int)} {d : Nat} {D : DD} {S : St} {x y w : Int} (hd : 12 ≤ d) (hS : SOK S) (hC : CH D S) : cRes X d m_N_judge [vI x, vI y, vI w] D (f_judge S x y w) := by
  obtain ⟨d, rfl⟩ : ∃ e, d = e + 1 := ⟨d - 1, by omega⟩
  have h6 := hS.n6
  unfold cRes f_judge
  rw [e_N_judge, b_N_judge_0, s_C_isOne (by omega) hC.n]
  simp only [ab_ci]
  rw [b_N_judge_9]
  by_cases h1 : 0 ≤ x ∧ x < ((sW S).2.1.length : Int)
  · rw [isI_t h1, if_neg (by decide)]
    by_cases hw : 0 ≤ w ∧ w ≤ 3
    · rw [if_neg (by omega), if_pos (by omega), if_pos (And.intro h1 hw), s_C_refusalOfRow (by omega) hC]
      simp only [ab_ci]
      rw [b_N_judge_29]
      by_cases h2 : rrI S y = 0
      · obtain ⟨c, rfl⟩ : ∃ t : Nat, x = (t : Int) := ⟨x.toNat, by omega⟩
        obtain ⟨r, rfl, hr, er⟩ := rrI_0 h2
        have hc : c < (sW S).2.1.length := by omega
        have hro := hS.2.2.1 r hr
        rw [er] at hro
        obtain ⟨D1, g1, g2, g3, g4⟩ := s_C_judged (X := X) (d := d) (D := D) (by omega) hS hC
        have hrc := g3.2.2.1 r hr
        rw [er] at hrc
        obtain ⟨D2, w1, ⟨w2, w3⟩, w4⟩ := s_C_act (X := X) (d := d) (D := D1) (a := 1) (c := c) (q := 1) (r := r) (by omega) hS.L g3.l hS.gm g2 hc hrc hro
        have f2 : fr cX D1 D2 := w4.mo fun t i k z => by
          rcases z with z | z
          · exact gP1_cX z
          · unfold cX; omega
        have hC2 : CH D2 S := g3.scr hS f2
        have hrc2 := hC2.2.2.1 r hr
        rw [er] at hrc2
        obtain ⟨r1, r2, r3⟩ := okm.aa hS.L (c := c) (rwD S r).2 0 0 (sW S).2.1 hS.gm hc
        have hcc := w2.cc (c := c) (by omega)
        rw [if_pos h2, g1, if_pos h2]
        simp only [ab_cv]
        rw [b_N_judge_50, if_pos (by omega), Int.toNat_natCast, R21 hr]
        simp only [ab_rf]
        rw [b_N_judge_65, w1]
        simp only [ab_ci]
        rw [b_N_judge_68, if_pos (by omega), Int.toNat_natCast, R46 (by omega)]
        simp only [ab_rf]
        rw [b_N_judge_79]
        refine ⟨D2, ?_, hC2, (g4.tr f2).mo fun _ _ _ z => cX_cY z⟩
        have eaa : aaS S (c : Int) (r : Int) = aaV (sW S).1 c (rwD S r).2 0 (sW S).2.1 0 := rfl
        rw [eaa]
        by_cases v0 : w = 0
        · rw [if_pos v0, if_pos (by omega), Int.toNat_natCast, R21 hr, if_pos v0]
          simp only [ab_rf]
          rw [b_N_judge_116, hrc2.1]
          by_cases hlt : (aaV (sW S).1 c (rwD S r).2 0 (sW S).2.1 0).1 < (rwD S r).2.length
          · rw [if_neg (by omega), if_pos hlt]
          · rw [if_pos (by omega), if_neg hlt]
        rw [if_neg v0, if_neg v0]
        by_cases v1 : w = 1
        · rw [if_pos v1, if_pos (by omega), Int.toNat_natCast, R46_0 (by omega), if_pos v1]
          simp only [ab_rf]
          rw [b_N_judge_143, hcc.2.2.2.2.2.1, (hC2.cc hc).2.2.2.2.2.1]
        rw [if_neg v1, if_neg v1]
        by_cases v2 : w = 2
        · rw [if_pos v2, if_pos v2, hcc.2.2.2.1]
        · rw [if_neg v2, if_neg v2, w3]
      · rw [if_neg h2, if_neg h2]
        exact ⟨D, rfl, hC, fr.rf D⟩
    · rw [if_neg (show ¬ ((0 ≤ x ∧ x < ((sW S).2.1.length : Int)) ∧ 0 ≤ w ∧ w ≤ 3) from fun z => hw z.2)]
      refine ⟨D, ?_, hC, fr.rf D⟩
      by_cases v : w < 0
      · rw [if_pos v]
      · rw [if_neg v, if_neg (by omega)]
  · rw [isI_f h1, if_pos rfl, if_neg (fun z => h1 z.1)]
    exact ⟨D, rfl, hC, fr.rf D⟩
end
