/-! lore: lines, the reference -/
section
def fM : Nat → Nat → Nat → Prop := fun t i k => t = 12 ∧ i = 0 ∧ (k = 6 ∨ k = 7 ∨ (9 ≤ k ∧ k ≤ 12))
def pM : Nat → Nat → Nat → Prop := fun t i k => fM t i k ∨ (t = 25 ∧ i = 0)
theorem nM_fM {t i k : Nat} (h : nM t i k) : fM t i k := by unfold nM at h; unfold fM; omega
theorem nM_pM {t i k : Nat} (h : nM t i k) : pM t i k := Or.inl (nM_fM h)
def MKq (D : DD) (T : List Nat) (n q : Nat) : Prop := MD D T n q ∧ D 12 0 11 = 0
def SMq (D : DD) (L : Nat → Nat) : Prop := ∀ k, k < 152 → D 25 0 k = (L k : Int)
def MF (D : DD) (e : Er) : Prop := D 12 0 11 = (e.1 : Int) ∧ e.1 ≠ 0 ∧ D 12 0 12 = (e.2 : Int)
theorem MF.ne {D : DD} {e : Er} (h : MF D e) : D 12 0 11 ≠ 0 := by have := h.1; have := h.2.1; omega
theorem MKq.on {D D' : DD} {T : List Nat} {n q : Nat} (h : MKq D T n q) (e1 : ∀ k, D' 12 0 k = D 12 0 k) (e2 : ∀ k, D' 24 0 k = D 24 0 k) : MKq D' T n q := by
  obtain ⟨⟨⟨a1, a2⟩, a3, a4, a5, a6⟩, b⟩ := h
  exact ⟨⟨⟨(e1 8).trans a1, fun k hk => (e2 k).trans (a2 k hk)⟩, (e1 6).trans a3, (e1 7).trans a4, (e1 9).trans a5, fun z => (e1 10).trans (a6 z)⟩, (e1 11).trans b⟩
theorem MF.on {D D' : DD} {e : Er} (h : MF D e) (e1 : ∀ k, D' 12 0 k = D 12 0 k) : MF D' e := ⟨(e1 11).trans h.1, h.2.1, (e1 12).trans h.2.2⟩
theorem SMq.fr {D D' : DD} {L : Nat → Nat} (h : SMq D L) (e : fr fM D D') : SMq D' L := fun k hk => (e 25 0 k (by unfold fM; omega)).trans (h k hk)
theorem MKq.nx {D D' : DD} {T : List Nat} {n q p : Nat} (h : MKq D T n q) (g : MD D' T n p) (e : fr nM D D') : MKq D' T n p := ⟨g, (e 12 0 11 (by unfold nM; omega)).trans h.2⟩
theorem s_M_is {X : Nat × (Nat → Int)} {d : Nat} {D : DD} {k : Int} (hd : 1 ≤ d) : ev X d m_M_is [vR 12 0, vI k] (hp D) = some (some (vI (if D 12 0 11 = 0 ∧ D 12 0 9 = k then 1 else 0)), hp D) := by
  obtain ⟨d, rfl⟩ : ∃ e, d = e + 1 := ⟨d - 1, by omega⟩
  rw [e_M_is, b_M_is_0]
  by_cases c : D 12 0 11 = 0
  · rw [if_neg (fun z => z c)]
    by_cases c2 : D 12 0 9 = k
    · rw [if_neg (fun z => z c2), if_pos ⟨c, c2⟩]
    · rw [if_pos c2, if_neg (fun z => c2 z.2)]
  · rw [if_pos c, if_neg (fun z => c z.1)]
theorem s_M_failsF {X : Nat × (Nat → Int)} {d : Nat} {D : DD} {w : Int} (hd : 1 ≤ d) (h : D 12 0 11 ≠ 0) : ev X d m_M_fails [vR 12 0, vI w] (hp D) = some (none, hp D) := by
  obtain ⟨d, rfl⟩ : ∃ e, d = e + 1 := ⟨d - 1, by omega⟩
  rw [e_M_fails, b_M_fails_0, if_neg h]
theorem s_M_fails {X : Nat × (Nat → Int)} {d : Nat} {D : DD} {T : List Nat} {n q w : Nat} (hd : 1 ≤ d) (hw : w ≠ 0) (h : MKq D T n q) : ∃ D', ev X d m_M_fails [vR 12 0, vI (w : Int)] (hp D) = some (none, hp D') ∧ MF D' (if tK T n q = 10 then 1 else w, tS T n q) ∧ fr fM D D' := by
  obtain ⟨d, rfl⟩ : ∃ e, d = e + 1 := ⟨d - 1, by omega⟩
  rw [e_M_fails, b_M_fails_0, if_pos h.2, h.1.2.2.2.1]
  by_cases c : tK T n q = 10
  · rw [if_neg (by omega), b_M_fails_23, u3_k (by omega), h.1.2.1, if_pos c]
    exact ⟨_, rfl, ⟨by rw [u3_k (by omega), u3_eq]; rfl, Nat.succ_ne_zero 0, by rw [u3_eq]⟩, ((fr.rf D).u ⟨rfl, rfl, by omega⟩).u ⟨rfl, rfl, by omega⟩⟩
  · rw [if_pos (by omega), b_M_fails_23, u3_k (by omega), h.1.2.1, if_neg c]
    exact ⟨_, rfl, ⟨by rw [u3_k (by omega), u3_eq], hw, by rw [u3_eq]⟩, ((fr.rf D).u ⟨rfl, rfl, by omega⟩).u ⟨rfl, rfl, by omega⟩⟩
theorem s_M_takesF {X : Nat × (Nat → Int)} {d : Nat} {D : DD} {lo hi : Int} (hd : 3 ≤ d) (h : D 12 0 11 ≠ 0) : ev X d m_M_takes [vR 12 0, vI lo, vI hi] (hp D) = some (some (vI (D 12 0 10)), hp D) := by
  obtain ⟨d, rfl⟩ : ∃ e, d = e + 1 := ⟨d - 1, by omega⟩
  rw [e_M_takes, b_M_takes_0, s_M_is (by omega)]
  simp only [ab_ci]
  rw [b_M_takes_6, if_neg (show ¬ (D 12 0 11 = 0 ∧ D 12 0 9 = 7) from fun z => h z.1), if_neg (by decide), s_M_failsF (by omega) h]
  simp only [ab_cv]
  rw [b_M_takes_14, b_M_takes_37, if_pos h, b_M_takes_53]
theorem s_M_takesThingF {X : Nat × (Nat → Int)} {d : Nat} {D : DD} (hd : 4 ≤ d) (h : D 12 0 11 ≠ 0) : ev X d m_M_takesThing [vR 12 0] (hp D) = some (some (vI (D 12 0 10)), hp D) := by
  obtain ⟨d, rfl⟩ : ∃ e, d = e + 1 := ⟨d - 1, by omega⟩
  rw [e_M_takesThing, b_M_takesThing_0, s_M_takesF (by omega) h]
  simp only [ab_ci]
  rw [b_M_takesThing_13]
def mN (F : Option (Option ab_V × ab_H)) (D : DD) (T : List Nat) (n q : Nat) (r : Er ⊕ Nat) : Prop := match r with
  | .inl e => ∃ y D', F = some (some (vI y), hp D') ∧ MF D' e ∧ fr fM D D'
  | .inr x => ∃ D', F = some (some (vI (x : Int)), hp D') ∧ MKq D' T n (tE T n q) ∧ fr nM D D'
theorem numP_7 {T : List Nat} {n lo hi q : Nat} {un : Int} (k7 : tK T n q = 7) : numP T n lo hi un q = if tN T n q < lo ∨ hi ≤ tN T n q ∨ (tN T n q : Int) = un then .inl (3, tS T n q) else .inr (tN T n q) := by
  unfold numP
  rw [if_neg (by omega), if_neg (show ¬ (tK T n q ≠ 7) from fun z => z k7)]
theorem numP_0 {T : List Nat} {n lo hi q : Nat} {un : Int} (k7 : tK T n q ≠ 7) : numP T n lo hi un q = .inl (if tK T n q = 10 then 1 else 2, tS T n q) := by
  unfold numP
  by_cases c : tK T n q = 10
  · rw [if_pos c, if_pos c]
  · rw [if_neg c, if_pos k7, if_neg c]
theorem s_M_takes {X : Nat × (Nat → Int)} {d : Nat} {D : DD} {T : List Nat} {n q lo hi : Nat} {p2 : Int} (hd : 5 ≤ d) (hT : okT T n) (hq : q ≤ n) (hp2 : p2 = (hi : Int) - 1) (h : MKq D T n q) : mN (ev X d m_M_takes [vR 12 0, vI (lo : Int), vI p2] (hp D)) D T n q (numP T n lo hi (-1) q) := by
  obtain ⟨d, rfl⟩ : ∃ e, d = e + 1 := ⟨d - 1, by omega⟩
  have e9 := h.1.2.2.2.1
  rw [e_M_takes, b_M_takes_0, s_M_is (by omega)]
  simp only [ab_ci]
  rw [b_M_takes_6, e9]
  have bad : ∀ (w : Nat) (D1 : DD) (e : Er), MF D1 e → fr fM D D1 → ∃ y D', at_ X d cd_M_takes 37 [vR 12 0, vI (lo : Int), vI p2, vU] [] (hp D1) = some (some (vI y), hp D') ∧ MF D' e ∧ fr fM D D' := by
    intro w D1 e a2 a3
    rw [b_M_takes_37, if_pos a2.ne, b_M_takes_53]
    exact ⟨_, D1, rfl, a2, a3⟩
  by_cases k7 : tK T n q = 7
  · have e10 := h.1.2.2.2.2 k7
    have hlt := tN_lt (T := T) hq k7
    rw [if_pos (show D 12 0 11 = 0 ∧ (tK T n q : Int) = 7 from ⟨h.2, by omega⟩), if_pos (by decide), s_M_within (by omega), e10]
    simp only [ab_ci]
    rw [b_M_takes_29]
    rw [numP_7 k7]
    by_cases c : (lo : Int) ≤ (tN T n q : Int) ∧ (tN T n q : Int) ≤ p2
    · rw [if_pos c, if_pos (by decide), if_neg (by omega), b_M_takes_37, if_neg (fun z => z h.2), e10]
      obtain ⟨D1, a1, a2, a3⟩ := s_M_next (X := X) (d := d) (D := D) (p := tE T n q) (by omega) hT (tE_le (T := T) hq).2 h.1.1 h.1.2.2.1
      rw [a1]
      simp only [ab_cv]
      rw [b_M_takes_53]
      exact ⟨D1, rfl, h.nx a2 a3, a3⟩
    · obtain ⟨D1, a1, a2, a3⟩ := s_M_fails (X := X) (d := d) (D := D) (w := 3) (by omega) (by omega) h
      have a1 : ev X d m_M_fails [vR 12 0, vI 3] (hp D) = _ := a1
      rw [if_neg c, if_neg (by decide), if_pos (by omega), a1]
      simp only [ab_cv]
      rw [if_neg (by omega)] at a2
      exact bad 3 D1 _ a2 a3
  · obtain ⟨D1, a1, a2, a3⟩ := s_M_fails (X := X) (d := d) (D := D) (w := 2) (by omega) (by omega) h
    have a1 : ev X d m_M_fails [vR 12 0, vI 2] (hp D) = _ := a1
    rw [if_neg (show ¬ (D 12 0 11 = 0 ∧ (tK T n q : Int) = 7) by omega), if_neg (by decide), a1]
    simp only [ab_cv]
    rw [b_M_takes_14]
    unfold numP
    by_cases c : tK T n q = 10
    · rw [if_pos c] at a2 ⊢
      exact bad 1 D1 _ a2 a3
    · rw [if_neg c] at a2 ⊢
      rw [if_pos k7]
      exact bad 2 D1 _ a2 a3
theorem mN.ci {F : Option (Option ab_V × ab_H)} {D : DD} {T : List Nat} {n q : Nat} {r : Er ⊕ Nat} (h : mN F D T n q r) {G : Option (Option ab_V × ab_H)} (e : ∀ y D', F = some (some (vI y), hp D') → G = some (some (vI y), hp D')) : mN G D T n q r := by
  unfold mN at h ⊢
  cases r with
  | inl er =>
    obtain ⟨y, D', a1, a2⟩ := h
    exact ⟨y, D', e y D' a1, a2⟩
  | inr x =>
    obtain ⟨D', a1, a2⟩ := h
    exact ⟨D', e _ D' a1, a2⟩
theorem s_M_takesThing {X : Nat × (Nat → Int)} {d : Nat} {D : DD} {T : List Nat} {n q : Nat} {L : Nat → Nat} (hd : 6 ≤ d) (hT : okT T n) (hq : q ≤ n) (hL : okP L) (hs : SMq D L) (h : MKq D T n q) : mN (ev X d m_M_takesThing [vR 12 0] (hp D)) D T n q (numP T n 0 (L 0) (-1) q) := by
  obtain ⟨d, rfl⟩ : ∃ e, d = e + 1 := ⟨d - 1, by omega⟩
  have h16 := hL.1.1.1
  have r := s_M_takes (X := X) (d := d) (D := D) (lo := 0) (hi := L 0) (p2 := (L 0 : Int) - 1) (by omega) hT hq rfl h
  refine r.ci fun y D' z => ?_
  have z : ev X d m_M_takes [vR 12 0, vI 0, vI ((L 0 : Int) - 1)] (hp D) = _ := z
  rw [e_M_takesThing, b_M_takesThing_0, hs 0 (by omega), zb_w (by omega) (by omega), z]
  simp only [ab_ci]
  rw [b_M_takesThing_13]
def mO (F : Option (Option ab_V × ab_H)) (D : DD) (T : List Nat) (n : Nat) (r : BdR) : Prop := match r with
  | .inl e => ∃ D', F = some (none, hp D') ∧ MF D' e ∧ fr pM D D'
  | .inr z => ∃ D', F = some (none, hp D') ∧ MKq D' T n z.2 ∧ SMq D' z.1 ∧ fr pM D D'
theorem s_M_bThings {X : Nat × (Nat → Int)} {d : Nat} {D : DD} {T : List Nat} {n q : Nat} {L : Nat → Nat} (hd : 7 ≤ d) (hT : okT T n) (hq : q ≤ n) (hk : tK T n q = 0) (hs : SMq D L) (h : MKq D T n q) : mO (ev X d m_M_readThings [vR 12 0] (hp D)) D T n (bThings T n L q) := by
  obtain ⟨d, rfl⟩ : ∃ e, d = e + 1 := ⟨d - 1, by omega⟩
  have e1 := tE_le (T := T) hq
  have e0 : D 25 0 0 = (L 0 : Int) := hs 0 (by omega)
  rw [e_M_readThings, b_M_readThings_0, e0]
  unfold bThings
  by_cases c : 0 < L 0
  · obtain ⟨D1, a1, a2, a3⟩ := s_M_fails (X := X) (d := d) (D := D) (w := 4) (by omega) (by omega) h
    have a1 : ev X d m_M_fails [vR 12 0, vI 4] (hp D) = _ := a1
    rw [if_neg (by omega)] at a2
    rw [if_neg (by omega), if_pos c, a1]
    simp only [ab_cv]
    rw [b_M_readThings_14, if_neg a2.ne]
    exact ⟨D1, rfl, a2, a3.mo fun _ _ _ z => Or.inl z⟩
  · obtain ⟨D1, a1, a2, a3⟩ := s_M_next (X := X) (d := d) (D := D) (p := tE T n q) (by omega) hT e1.2 h.1.1 h.1.2.2.1
    rw [if_pos (by omega), if_neg c, b_M_readThings_14, if_pos h.2, a1]
    simp only [ab_cv]
    rw [b_M_readThings_26]
    have loop : ∀ (m k : Nat) (D2 : DD), k + m = 16 → (∀ j, j < k → D2 25 0 (34 + j) = 1) → ∃ D', at_ X d cd_M_readThings 41 [vR 12 0, vI (k : Int)] [] (hp D2) = some (none, hp D') ∧ (∀ j, j < 16 → D' 25 0 (34 + j) = 1) ∧ fr (fun t i k => t = 25 ∧ i = 0 ∧ 34 ≤ k ∧ k < 50) D2 D' := by
      intro m
      induction m with
      | zero =>
        intro k D2 hk h1
        rw [b_M_readThings_41, if_pos (by omega)]
        exact ⟨D2, rfl, fun j hj => h1 j (by omega), fr.rf D2⟩
      | succ m ih =>
        intro k D2 hk h1
        rw [b_M_readThings_41, if_neg (by omega), zb_w (n := 34 + (k : Int)) (by omega) (by omega), if_pos (by omega), tn (n := 34 + k) (by omega), zb_s (by omega)]
        obtain ⟨D', g1, g2, g3⟩ := ih (k + 1) (u3 D2 25 0 (34 + k) 1) (by omega) (fun j hj => by
          rw [u3_a]
          by_cases e : j = k
          · rw [if_pos ⟨rfl, rfl, by omega⟩]
          · rw [if_neg (by omega)]; exact h1 j (by omega))
        exact ⟨D', g1, g2, ((fr.rf D2).u ⟨rfl, rfl, by omega, by omega⟩).tr g3⟩
    have r := s_M_takes (X := X) (d := d) (D := D1) (lo := 1) (hi := 17) (p2 := 16) (by omega) hT e1.2 (by decide) (h.nx a2 a3)
    unfold mN at r
    have f1 : fr pM D D1 := a3.mo fun _ _ _ z => nM_pM z
    cases hn : numP T n 1 17 (-1) (tE T n q) with
    | inl e =>
      rw [hn] at r
      obtain ⟨y, D2, b1, b2, b3⟩ := r
      have b1 : ev X d m_M_takes [vR 12 0, vI 1, vI 16] (hp D1) = _ := b1
      obtain ⟨D3, g1, g2, g3⟩ := loop 16 0 (u3 D2 25 0 0 y) (by omega) (fun j hj => by omega)
      have g1 : at_ X d cd_M_readThings 41 [vR 12 0, vI 0] [] (hp (u3 D2 25 0 0 y)) = _ := g1
      rw [b1]
      simp only [ab_ci]
      rw [b_M_readThings_38, if_pos (by omega), Int.toNat_zero, g1]
      refine ⟨D3, rfl, b2.on fun k => ?_, ((f1.tr (b3.mo fun _ _ _ z => Or.inl z)).u (Or.inr ⟨rfl, rfl⟩)).tr (g3.mo fun t i k z => Or.inr ⟨z.1, z.2.1⟩)⟩
      rw [g3 12 0 k (by omega), u3_t (by omega)]
    | inr x =>
      rw [hn] at r
      obtain ⟨D2, b1, b2, b3⟩ := r
      have b1 : ev X d m_M_takes [vR 12 0, vI 1, vI 16] (hp D1) = _ := b1
      obtain ⟨D3, g1, g2, g3⟩ := loop 16 0 (u3 D2 25 0 0 (x : Int)) (by omega) (fun j hj => by omega)
      have g1 : at_ X d cd_M_readThings 41 [vR 12 0, vI 0] [] (hp (u3 D2 25 0 0 (x : Int))) = _ := g1
      rw [b1]
      simp only [ab_ci]
      rw [b_M_readThings_38, if_pos (by omega), Int.toNat_zero, g1]
      refine ⟨D3, rfl, b2.on (fun k => ?_) (fun k => ?_), fun k hk => ?_, ((f1.tr (b3.mo fun _ _ _ z => nM_pM z)).u (Or.inr ⟨rfl, rfl⟩)).tr (g3.mo fun t i k z => Or.inr ⟨z.1, z.2.1⟩)⟩
      · rw [g3 12 0 k (by omega), u3_t (by omega)]
      · rw [g3 24 0 k (by omega), u3_t (by omega)]
      · show D3 25 0 k = (thL L x k : Int)
        unfold thL
        by_cases c1 : 34 ≤ k ∧ k < 50
        · have := g2 (k - 34) (by omega)
          rw [show 34 + (k - 34) = k by omega] at this
          rw [if_neg (by omega), if_pos c1, this]; rfl
        · rw [g3 25 0 k (by omega)]
          by_cases c2 : k = 0
          · rw [c2, u3_eq, if_pos rfl]
          · rw [u3_k c2, if_neg c2, if_neg c1]
            exact ((hs.fr (a3.mo fun _ _ _ z => nM_fM z)).fr (b3.mo fun _ _ _ z => nM_fM z)) k hk
theorem SMq.up {D : DD} {L : Nat → Nat} {k x : Nat} (h : SMq D L) : SMq (u3 D 25 0 k (x : Int)) (upL L k x) := fun j hj => by
  by_cases e : j = k
  · rw [e, u3_eq, upL_e]
  · rw [u3_k e, upL_n e]; exact h j hj
theorem s_M_bWorth {X : Nat × (Nat → Int)} {d : Nat} {D : DD} {T : List Nat} {n q : Nat} {L : Nat → Nat} (hd : 8 ≤ d) (hT : okT T n) (hq : q ≤ n) (hL : okP L) (hs : SMq D L) (h : MKq D T n (tE T n q)) : mO (ev X d m_M_readWorth [vR 12 0] (hp D)) D T n (bWorth T n L q) := by
  obtain ⟨d, rfl⟩ : ∃ e, d = e + 1 := ⟨d - 1, by omega⟩
  have e1 := tE_le (T := T) hq
  have e2 := tE_le (T := T) e1.2
  have h16 := hL.1.1.1
  have r := s_M_takesThing (X := X) (d := d) (D := D) (by omega) hT e1.2 hL hs h
  rw [e_M_readWorth, b_M_readWorth_0]
  unfold mN at r
  unfold bWorth
  cases hn : numP T n 0 (L 0) (-1) (tE T n q) with
  | inl e =>
    rw [hn] at r
    obtain ⟨y, D2, b1, b2, b3⟩ := r
    rw [b1]
    simp only [ab_ci]
    rw [b_M_readWorth_4, s_M_takesF (by omega) b2.ne]
    simp only [ab_ci]
    rw [b_M_readWorth_12, if_pos b2.ne]
    exact ⟨D2, rfl, b2, b3.mo fun _ _ _ z => Or.inl z⟩
  | inr t =>
    rw [hn] at r
    obtain ⟨_, _, _, t2, _⟩ := numP_r hn
    obtain ⟨D2, b1, b2, b3⟩ := r
    have r2 := s_M_takes (X := X) (d := d) (D := D2) (lo := 0) (hi := 100) (p2 := 99) (by omega) hT e2.2 (by decide) b2
    rw [b1]
    simp only [ab_ci]
    rw [b_M_readWorth_4]
    show mO _ D T n (bnE (numP T n 0 100 (-1) (tE T n (tE T n q))) fun x => .inr (upL L (34 + t) x, tE T n (tE T n (tE T n q))))
    unfold mN at r2
    have f1 : fr pM D D2 := b3.mo fun _ _ _ z => nM_pM z
    cases hn2 : numP T n 0 100 (-1) (tE T n (tE T n q)) with
    | inl e =>
      rw [hn2] at r2
      obtain ⟨y, D3, c1, c2, c3⟩ := r2
      have c1 : ev X d m_M_takes [vR 12 0, vI 0, vI 99] (hp D2) = _ := c1
      rw [c1]
      simp only [ab_ci]
      rw [b_M_readWorth_12, if_pos c2.ne]
      exact ⟨D3, rfl, c2, f1.tr (c3.mo fun _ _ _ z => Or.inl z)⟩
    | inr x =>
      rw [hn2] at r2
      obtain ⟨D3, c1, c2, c3⟩ := r2
      have c1 : ev X d m_M_takes [vR 12 0, vI 0, vI 99] (hp D2) = _ := c1
      rw [c1]
      simp only [ab_ci]
      rw [b_M_readWorth_12, if_neg (fun z => z c2.2), zb_w (n := 34 + (t : Int)) (by omega) (by omega), if_pos (by omega), tn (n := 34 + t) (by omega)]
      exact ⟨_, rfl, c2.on (fun k => u3_t (by omega)) (fun k => u3_t (by omega)), ((hs.fr (b3.mo fun _ _ _ z => nM_fM z)).fr (c3.mo fun _ _ _ z => nM_fM z)).up, (f1.tr (c3.mo fun _ _ _ z => nM_pM z)).u (Or.inr ⟨rfl, rfl⟩)⟩
theorem s_M_bPair {X : Nat × (Nat → Int)} {d : Nat} {D : DD} {T : List Nat} {n q : Nat} {L : Nat → Nat} {sec : Bool} (hd : 8 ≤ d) (hT : okT T n) (hq : q ≤ n) (hL : okP L) (hs : SMq D L) (h : MKq D T n (tE T n q)) : mO (ev X d m_M_readTwo [vR 12 0, vI (if sec = true then 0 else 1)] (hp D)) D T n (bPair T n L sec q) := by
  obtain ⟨d, rfl⟩ : ∃ e, d = e + 1 := ⟨d - 1, by omega⟩
  have e1 := tE_le (T := T) hq
  have e2 := tE_le (T := T) e1.2
  have h16 := hL.1.1.1
  have r := s_M_takesThing (X := X) (d := d) (D := D) (by omega) hT e1.2 hL hs h
  rw [e_M_readTwo, b_M_readTwo_0]
  unfold mN at r
  unfold bPair
  have fail2 : ∀ (D2 : DD) (e : Er) (y : Int), MF D2 e → fr pM D D2 → ∃ D', at_ X d cd_M_readTwo 27 [vR 12 0, vI (if sec = true then 0 else 1), vI y, vU] [] (hp D2) = some (none, hp D') ∧ MF D' e ∧ fr pM D D' := by
    intro D2 e y b2 b3
    rw [b_M_readTwo_27, s_M_takesThingF (by omega) b2.ne]
    simp only [ab_ci]
    rw [b_M_readTwo_31, if_neg b2.ne]
    exact ⟨D2, rfl, b2, b3⟩
  cases hn : numP T n 0 (L 0) (-1) (tE T n q) with
  | inl e =>
    rw [hn] at r
    obtain ⟨y, D2, b1, b2, b3⟩ := r
    rw [b1]
    simp only [ab_ci]
    rw [b_M_readTwo_4, s_M_is (by omega)]
    simp only [ab_ci]
    rw [b_M_readTwo_11, if_neg (show ¬ (D2 12 0 11 = 0 ∧ D2 12 0 9 = 7) from fun z => b2.ne z.1), if_pos rfl]
    exact fail2 D2 e y b2 (b3.mo fun _ _ _ z => Or.inl z)
  | inr a =>
    rw [hn] at r
    obtain ⟨_, _, _, t2, _⟩ := numP_r hn
    obtain ⟨D2, b1, b2, b3⟩ := r
    have f1 : fr pM D D2 := b3.mo fun _ _ _ z => nM_pM z
    have hs2 := hs.fr (b3.mo fun _ _ _ z => nM_fM z)
    rw [b1]
    simp only [ab_ci]
    rw [b_M_readTwo_4, s_M_is (by omega), b2.1.2.2.2.1]
    simp only [ab_ci]
    rw [b_M_readTwo_11]
    show mO _ D T n (bnE (numP T n 0 (L 0) (a : Int) (tE T n (tE T n q))) fun b => .inr (prL_ L sec a b, tE T n (tE T n (tE T n q))))
    by_cases same : tK T n (tE T n (tE T n q)) = 7 ∧ tN T n (tE T n (tE T n q)) = a
    · obtain ⟨D3, c1, c2, c3⟩ := s_M_fails (X := X) (d := d) (D := D2) (w := 3) (by omega) (by omega) b2
      have c1 : ev X d m_M_fails [vR 12 0, vI 3] (hp D2) = _ := c1
      have hn3 : numP T n 0 (L 0) (a : Int) (tE T n (tE T n q)) = .inl (3, tS T n (tE T n (tE T n q))) := by
        unfold numP
        rw [if_neg (by omega), if_neg (fun z => z same.1), if_pos (Or.inr (Or.inr (by rw [same.2])))]
      rw [if_neg (by omega)] at c2
      rw [hn3, if_pos (show D2 12 0 11 = 0 ∧ (tK T n (tE T n (tE T n q)) : Int) = 7 from ⟨b2.2, by omega⟩), if_neg (by decide), b2.1.2.2.2.2 same.1, if_neg (by omega), c1]
      simp only [ab_cv]
      exact fail2 D3 _ _ c2 (f1.tr (c3.mo fun _ _ _ z => Or.inl z))
    · have hn3 : numP T n 0 (L 0) (a : Int) (tE T n (tE T n q)) = numP T n 0 (L 0) (-1) (tE T n (tE T n q)) := by
        by_cases k7 : tK T n (tE T n (tE T n q)) = 7
        · rw [numP_7 k7, numP_7 k7]
          by_cases c3 : L 0 ≤ tN T n (tE T n (tE T n q))
          · rw [if_pos (Or.inr (Or.inl c3)), if_pos (Or.inr (Or.inl c3))]
          · rw [if_neg (by omega), if_neg (by omega)]
        · rw [numP_0 k7, numP_0 k7]
      have to27 : (if (if D2 12 0 11 = 0 ∧ (tK T n (tE T n (tE T n q)) : Int) = 7 then (1 : Int) else 0) = 0 then at_ X d cd_M_readTwo 27 [vR 12 0, vI (if sec = true then 0 else 1), vI (a : Int), vU] [] (hp D2) else if (D2 12 0 10) ≠ (a : Int) then at_ X d cd_M_readTwo 27 [vR 12 0, vI (if sec = true then 0 else 1), vI (a : Int), vU] [] (hp D2) else ab_cv (ev X d m_M_fails [vR 12 0, vI 3] (hp D2)) fun h9 => at_ X d cd_M_readTwo 27 [vR 12 0, vI (if sec = true then 0 else 1), vI (a : Int), vU] [] h9) = at_ X d cd_M_readTwo 27 [vR 12 0, vI (if sec = true then 0 else 1), vI (a : Int), vU] [] (hp D2) := by
        by_cases k7 : tK T n (tE T n (tE T n q)) = 7
        · rw [if_pos (show D2 12 0 11 = 0 ∧ (tK T n (tE T n (tE T n q)) : Int) = 7 from ⟨b2.2, by omega⟩), if_neg (by decide), b2.1.2.2.2.2 k7, if_pos (by omega)]
        · rw [if_neg (show ¬ (D2 12 0 11 = 0 ∧ (tK T n (tE T n (tE T n q)) : Int) = 7) by omega), if_pos rfl]
      rw [to27, b_M_readTwo_27, hn3]
      have r2 := s_M_takesThing (X := X) (d := d) (D := D2) (by omega) hT e2.2 hL hs2 b2
      unfold mN at r2
      cases hn2 : numP T n 0 (L 0) (-1) (tE T n (tE T n q)) with
      | inl e =>
        rw [hn2] at r2
        obtain ⟨y, D3, c1, c2, c3⟩ := r2
        rw [c1]
        simp only [ab_ci]
        rw [b_M_readTwo_31, if_neg c2.ne]
        exact ⟨D3, rfl, c2, f1.tr (c3.mo fun _ _ _ z => Or.inl z)⟩
      | inr x =>
        rw [hn2] at r2 hn3
        obtain ⟨_, _, _, x2, x3⟩ := numP_r hn3
        obtain ⟨D3, c1, c2, c3⟩ := r2
        have hs3 := hs2.fr (c3.mo fun _ _ _ z => nM_fM z)
        have f3 := f1.tr (c3.mo fun _ _ _ z => nM_pM z)
        have hx2 : (2 : Nat) ^ x < 2 ^ 16 := zb_p2 (by omega)
        have ha2 : (2 : Nat) ^ a < 2 ^ 16 := zb_p2 (by omega)
        rw [c1]
        simp only [ab_ci]
        rw [b_M_readTwo_31, if_pos c2.2]
        cases sec with
        | false =>
          have hb2 := hL.1.r (t := a) (by omega)
          have e51 : D3 25 0 (2 + a) = (L (2 + a) : Int) := hs3 _ (by omega)
          rw [if_neg (by decide), if_neg (by decide), b_M_readTwo_54, zb_w (n := 2 + (a : Int)) (by omega) (by omega), if_pos (by omega), if_pos (by omega), if_pos (by decide), tn (n := 2 + a) (by omega), e51, zb_sl (by omega), zb_or (by omega) (by omega), b_M_readTwo_82]
          exact ⟨_, rfl, c2.on (fun k => u3_t (by omega)) (fun k => u3_t (by omega)), hs3.up, f3.u (Or.inr ⟨rfl, rfl⟩)⟩
        | true =>
          have hax : x ≠ a := by omega
          have hb2 := hL.1.s (t := a) (by omega)
          have hb3 := hL.1.s (t := x) (by omega)
          have e52 : D3 25 0 (18 + a) = (L (18 + a) : Int) := hs3 _ (by omega)
          have e52x : D3 25 0 (18 + x) = (L (18 + x) : Int) := hs3 _ (by omega)
          rw [if_pos rfl, if_pos rfl, b_M_readTwo_54, zb_w (n := 18 + (a : Int)) (by omega) (by omega), if_pos (by omega), if_pos (by omega), if_neg (by decide), zb_w (n := 18 + (x : Int)) (by omega) (by omega), if_pos (by omega), if_pos (by omega), tn (n := 18 + a) (by omega), tn (n := 18 + x) (by omega), u3_k (by omega), e52, e52x, zb_sl (by omega), zb_sl (by omega), zb_or (by omega) (by omega), zb_or (by omega) (by omega), b_M_readTwo_82]
          exact ⟨_, rfl, c2.on (fun k => by rw [u3_t (by omega), u3_t (by omega)]) (fun k => by rw [u3_t (by omega), u3_t (by omega)]), hs3.up.up, (f3.u (Or.inr ⟨rfl, rfl⟩)).u (Or.inr ⟨rfl, rfl⟩)⟩
end
