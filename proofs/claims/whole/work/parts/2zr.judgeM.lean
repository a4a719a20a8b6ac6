/-! judge of the reference -/
section
theorem M_judge {X : Nat × (Nat → Int)} {d : Nat} {D : DD} {S : St} {x y w : Int} (hd : 12 ≤ d) (hS : SOK S) (hM : MH D S) : mRes X d m_M_judge [vI x, vI y, vI w] D (f_judge S x y w) := by
  obtain ⟨d, rfl⟩ : ∃ e, d = e + 1 := ⟨d - 1, by omega⟩
  have h6 := hS.n6
  have hM := hM.th hS
  unfold mRes f_judge
  rw [e_M_judge, b_M_judge_0, s_M_isMan (by omega) hM.n h6]
  simp only [ab_ci]
  rw [b_M_judge_11]
  by_cases h1 : 0 ≤ x ∧ x < ((sW S).2.1.length : Int)
  · rw [isI_t h1, if_neg (by decide), s_M_within (by omega)]
    simp only [ab_ci]
    rw [b_M_judge_23]
    by_cases h0 : 0 ≤ y ∧ y ≤ 3
    · rw [if_pos h0, if_neg (by decide), s_M_within (by omega)]
      simp only [ab_ci]
      rw [b_M_judge_35]
      by_cases hw : 0 ≤ w ∧ w ≤ 3
      · obtain ⟨c, rfl⟩ : ∃ t : Nat, x = (t : Int) := ⟨x.toNat, by omega⟩
        obtain ⟨r, rfl⟩ : ∃ t : Nat, y = (t : Int) := ⟨y.toNat, by omega⟩
        have hc : c < (sW S).2.1.length := by omega
        obtain ⟨w1, w2⟩ := M_row hM (r := r) (by omega)
        rw [if_pos hw, if_pos (by decide), if_pos (by omega), Int.toNat_natCast, if_pos (And.intro h1 hw)]
        by_cases h2 : rrI S (r : Int) = 0
        · obtain ⟨r', hr1, hr, er⟩ := rrI_0 h2
          have : r' = r := by omega
          subst this
          have hro := hS.2.2.1 r' hr
          rw [er] at hro
          have hmb : mB c = 153 + 29 * c := rfl
          rw [if_pos (w1.mpr h2), if_pos h2]
          have hT := th_mY D
          generalize u3 D 12 0 0 0 = D0 at hM hT ⊢
          have keep : ∀ (m k : Nat) (D1 : DD), k + m = 204 → fr (fun t _ _ => t = 27) D0 D1 → (∀ j, j < k → D1 27 0 j = D0 22 0 (152 + j)) → ∃ D', at_ X d cd_M_judge 57 [vR 12 0, vI (c : Int), vI (r' : Int), vI w, vI (k : Int), vU, vU, vU] [] (hp D1) = at_ X d cd_M_judge 57 [vR 12 0, vI (c : Int), vI (r' : Int), vI w, vI 204, vU, vU, vU] [] (hp D') ∧ fr (fun t _ _ => t = 27) D0 D' ∧ (∀ j, j < 204 → D' 27 0 j = D0 22 0 (152 + j)) := by
            intro m
            induction m with
            | zero =>
              intro k D1 hk hf hj
              rw [show (k : Int) = 204 by omega]
              exact ⟨D1, rfl, hf, fun j h => hj j (by omega)⟩
            | succ m ih =>
              intro k D1 hk hf hj
              obtain ⟨D', g1, g2, g3⟩ := ih (k + 1) (u3 D1 27 0 k (D0 22 0 (152 + k))) (by omega) (hf.u rfl) (fun j hj' => by
                by_cases e : j = k
                · subst e; rw [u3_eq]
                · rw [u3_k e, hj j (by omega)])
              refine ⟨D', Eq.trans ?_ g1, g2, g3⟩
              rw [b_M_judge_57, if_neg (by omega), zb_w (n := 152 + (k : Int)) (by omega) (by omega), if_pos (by omega), if_pos (by omega), zb_s (by omega), Int.toNat_natCast, tn (n := 152 + k) (by omega), hf 22 0 (152 + k) (by omega)]
          obtain ⟨D1, a1, a2, a3⟩ := keep 204 0 D0 (by omega) (fr.rf D0) (fun j h => by omega)
          rw [show ((0 : Nat) : Int) = 0 from rfl] at a1
          have hM1 : MH D1 S := hM.scr hS (a2.mo fun t i k z => by unfold mX; omega)
          have hrc := hM1.2.2.1 r' hr
          rw [er] at hrc
          obtain ⟨D2, b1, ⟨b2, b3⟩, b4⟩ := s_M_actsAll (X := X) (d := d) (D := D1) (c := c) (r := r') (by omega) hr hS.L hM1.l hS.gm hM1.gm hc hrc hro
          obtain ⟨r1, r2, r3⟩ := okm.aa hS.L (c := c) (rwD S r').2 0 0 (sW S).2.1 hS.gm hc
          have hmc := b2.mc (c := c) (by omega)
          have ok := r1.oc (c := c) (by omega)
          have e27 : ∀ j, j < 204 → D2 27 0 j = D0 22 0 (152 + j) := fun j hj => (b4 27 0 j (by unfold bP aP; omega)).trans (a3 j hj)
          have e41 : D2 41 0 r' = ((rwD S r').2.length : Int) := (b4 41 0 r' (by unfold bP aP; omega)).trans hrc.2.1
          have back : ∀ (m k : Nat) (D3 : DD) (l4 l5 l6 : Int) (v1 : ab_V), k + m = 204 → fr (fun t i k => t = 22 ∧ i = 0 ∧ 152 ≤ k ∧ k < 356) D2 D3 → (∀ j, j < k → D3 22 0 (152 + j) = D0 22 0 (152 + j)) → ∃ D', at_ X d cd_M_judge 136 [vR 12 0, v1, vI (r' : Int), vI w, vI l4, vI l5, vI l6, vI (k : Int)] [] (hp D3) = at_ X d cd_M_judge 168 [vR 12 0, vU, vI (r' : Int), vI w, vI l4, vI l5, vI l6, vI 204] [] (hp D') ∧ fr (fun t i k => t = 22 ∧ i = 0 ∧ 152 ≤ k ∧ k < 356) D2 D' ∧ (∀ j, j < 204 → D' 22 0 (152 + j) = D0 22 0 (152 + j)) := by
            intro m
            induction m with
            | zero =>
              intro k D3 l4 l5 l6 v1 hk hf hj
              rw [b_M_judge_136, if_pos (by omega), show (k : Int) = 204 by omega]
              exact ⟨D3, rfl, hf, fun j h => hj j (by omega)⟩
            | succ m ih =>
              intro k D3 l4 l5 l6 v1 hk hf hj
              rw [b_M_judge_136, if_neg (by omega), if_pos (by omega), zb_w (n := 152 + (k : Int)) (by omega) (by omega), if_pos (by omega), zb_s (by omega), tn (n := 152 + k) (by omega), Int.toNat_natCast, hf 27 0 k (by omega), e27 k (by omega)]
              refine ih (k + 1) _ l4 l5 l6 vU (by omega) (hf.u ⟨rfl, rfl, by omega, by omega⟩) fun j hj' => ?_
              by_cases e : j = k
              · subst e; rw [u3_eq]
              · rw [u3_k (by omega), hj j (by omega)]
          have e3 : D2 22 0 (mB c + 3) = cZ (mnL (aaV (sW S).1 c (rwD S r').2 0 (sW S).2.1 0).2.1 c) := hmc.2.2.2.1
          have e4 : D2 27 0 (29 * c + 4) = cZ (mnD S c) := by
            rw [e27 _ (by omega), show 152 + (29 * c + 4) = mB c + 3 by omega]
            exact (hM.mc hc).2.2.2.1
          have e204 : at_ X d cd_M_judge 57 [vR 12 0, vI (c : Int), vI (r' : Int), vI w, vI 204, vU, vU, vU] [] (hp D1) = ab_ci (ev X d m_M_actsAll [vR 12 0, vI (c : Int), vI (r' : Int)] (hp D1)) fun y9 h9 => at_ X d cd_M_judge 95 [vR 12 0, vI (c : Int), vI (r' : Int), vI w, vU, vU, vU, vU] [vI y9] h9 := by
            rw [b_M_judge_57, if_pos (by decide)]
          rw [a1, e204, b1]
          simp only [ab_ci]
          rw [b_M_judge_95, s_M_manAt (by omega) (by omega)]
          simp only [ab_ci]
          rw [b_M_judge_105, zb_w (n := ((mB c : Nat) : Int) + 3) (by omega) (by omega), if_pos (by omega), tn (n := mB c + 3) (by omega), e3, s_M_manAt (by omega) (by omega)]
          simp only [ab_ci]
          rw [b_M_judge_116, zb_w (n := ((mB c : Nat) : Int) + 3) (by omega) (by omega), zb_w (n := ((mB c : Nat) : Int) + 3 - 152) (by omega) (by omega), if_pos (by omega), tn (n := 29 * c + 4) (by omega), e4, s_M_bitsIn (by omega) (by omega) hmc ⟨ok.2.1, ok.2.2.1, Nat.le_trans ok.2.2.2 ok.1.2.1⟩]
          simp only [ab_ci]
          rw [b_M_judge_131]
          obtain ⟨D3, c1, c2, c3⟩ := back 204 0 D2 ((aaV (sW S).1 c (rwD S r').2 0 (sW S).2.1 0).1 : Int) (w32 (cZ (mnL (aaV (sW S).1 c (rwD S r').2 0 (sW S).2.1 0).2.1 c) - cZ (mnD S c))) (bs (cL (mnL (aaV (sW S).1 c (rwD S r').2 0 (sW S).2.1 0).2.1 c)) : Int) (vI (c : Int)) (by omega) (fr.rf D2) (fun j h => by omega)
          rw [show ((0 : Nat) : Int) = 0 from rfl] at c1
          rw [c1, b_M_judge_168]
          have fX : fr mX D0 D3 := by
            intro t i k hn
            by_cases hk : t = 22 ∧ i = 0 ∧ 152 ≤ k ∧ k < 356
            · obtain ⟨rfl, rfl, k1, k2⟩ := hk
              have := c3 (k - 152) (by omega)
              rw [show 152 + (k - 152) = k by omega] at this
              exact this
            · have h27 : t ≠ 27 := fun e => hn (by unfold mX; omega)
              have h26 : t ≠ 26 := fun e => hn (by unfold mX; omega)
              have h17 : ¬ (t = 12 ∧ k = 17) := fun e => hn (by unfold mX; omega)
              exact (c2 t i k hk).trans ((b4 t i k (by unfold bP aP; omega)).trans (a2 t i k h27))
          have e41' : D3 41 0 r' = ((rwD S r').2.length : Int) := (c2 41 0 r' (by omega)).trans e41
          have e17 : D3 12 0 17 = ((aaV (sW S).1 c (rwD S r').2 0 (sW S).2.1 0).2.2 : Int) := (c2 12 0 17 (by omega)).trans b3
          have eaa : aaS S (c : Int) (r' : Int) = aaV (sW S).1 c (rwD S r').2 0 (sW S).2.1 0 := rfl
          refine ⟨D3, ?_, hM.scr hS fX, hT.tr (fX.mo fun _ _ _ z => mX_mY z)⟩
          rw [eaa, Int.toNat_natCast, e17, e41', Int.toNat_natCast]
          by_cases v0 : w = 0
          · rw [if_neg (fun z => z v0), if_pos (by omega), if_pos v0]
            by_cases hlt : (aaV (sW S).1 c (rwD S r').2 0 (sW S).2.1 0).1 < (rwD S r').2.length
            · rw [if_pos (by omega), if_pos hlt]
            · rw [if_neg (by omega), if_neg hlt]
          rw [if_pos v0, if_neg v0]
          by_cases v1 : w = 1
          · rw [if_neg (fun z => z v1), if_pos v1]
          rw [if_pos v1, if_neg v1]
          by_cases v2 : w = 2
          · rw [if_neg (fun z => z v2), if_pos v2]
          · rw [if_pos v2, if_neg v2]
        · rw [if_neg (fun z => h2 (w1.mp z)), if_neg h2, w2 h2]
          exact ⟨_, rfl, hM, th_mY D⟩
      · rw [if_neg hw, if_neg (by decide), if_neg (fun z => hw z.2)]
        exact ⟨_, rfl, hM, th_mY D⟩
    · have e := rrI_out (S := S) h0
      rw [if_neg h0, if_pos rfl]
      refine ⟨_, ?_, hM, th_mY D⟩
      by_cases hw : (0 ≤ x ∧ x < ((sW S).2.1.length : Int)) ∧ 0 ≤ w ∧ w ≤ 3
      · rw [if_pos hw, if_neg (by rw [e]; decide), e]
      · rw [if_neg hw]
  · rw [isI_f h1, if_pos rfl, if_neg (fun z => h1 z.1)]
    exact ⟨_, rfl, hM, th_mY D⟩
end
