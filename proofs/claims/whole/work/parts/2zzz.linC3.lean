/-! lore: inns, lines, the text; the class's call -/
section
def cG {α : Type} (F : Option (Option ab_V × ab_H)) (D : DD) (r : Er ⊕ α) (P : α → DD → Prop) : Prop := match r with
  | .inl e => ∃ D', F = some (some (vI 0), hp D') ∧ CF D' e ∧ fr rF D D'
  | .inr x => ∃ D', F = some (some (vI 1), hp D') ∧ P x D' ∧ fr rF D D'
theorem cG.tr {α : Type} {F G : Option (Option ab_V × ab_H)} {D D1 : DD} {r : Er ⊕ α} {P : α → DD → Prop} (h : cG F D1 r P) (f : fr rF D D1) (e : ∀ b D', (b = 0 ∨ b = 1) → F = some (some (vI b), hp D') → G = some (some (vI b), hp D')) : cG G D r P := by
  unfold cG at h ⊢
  cases r with
  | inl er =>
    obtain ⟨D2, a1, a2, a3⟩ := h
    exact ⟨D2, e 0 D2 (Or.inl rfl) a1, a2, f.tr a3⟩
  | inr x =>
    obtain ⟨D2, a1, a2, a3⟩ := h
    exact ⟨D2, e 1 D2 (Or.inr rfl) a1, a2, f.tr a3⟩
theorem LQ_in {D : DD} {L : Nat → Nat} {i : Nat} (hL : okP L) (hi : i < 10) (h5 : L 50 = i) (h : LQ D L) : LQ (u3 D 5 0 3 ((i + 1 : Nat) : Int)) (innL L i 0) := by
  obtain ⟨⟨⟨a0, a1, a2, a3⟩, b, c, w, g, n⟩, z⟩ := h
  have hz := hL.2 i (by omega) hi
  have en : ∀ k, k ≠ 50 → innL L i 0 k = L k := fun k k2 => by
    unfold innL
    rw [upL_n k2]
    by_cases e : k = 51 + i
    · rw [e, upL_e, hz]
    · rw [upL_n e]
  have e5 : innL L i 0 50 = i + 1 := upL_e
  have h16 := hL.1.1.1
  refine ⟨⟨⟨?_, ?_, ?_, by rw [u3_eq, e5]⟩, fun t ht => ?_, fun t ht => ?_, fun t ht => ?_, fun t ht => ?_, fun i' k hi' hk => ?_⟩, fun z0 t ht => ?_⟩
  · rw [u3_k (by omega), en 0 (by omega)]; exact a0
  · rw [u3_k (by omega), en 1 (by omega)]; exact a1
  · rw [u3_k (by omega), en 151 (by omega)]; exact a2
  · rw [u3_t (by omega), en _ (by omega)]; exact b t ht
  · rw [u3_t (by omega), en _ (by omega)]; exact c t ht
  · rw [en 0 (by omega)] at ht
    rw [u3_t (by omega), en _ (by omega)]; exact w t ht
  · rw [u3_t (by omega), en _ (by omega)]; exact g t ht
  · rw [en _ (by omega)] at hk
    rw [u3_t (by omega), en _ (by omega)]; exact n i' k hi' hk
  · rw [en 0 (by omega)] at z0
    rw [u3_t (by omega)]; exact z z0 t ht
theorem LQ_nw {D : DD} {L : Nat → Nat} {i k x : Nat} (hL : okP L) (hi : i < 10) (hk : k < 9) (h : LQ D (innL L i k)) : LQ (u3 (u3 D 55 0 (9 * i + k) (x : Int)) 54 0 i ((k + 1 : Nat) : Int)) (innL (upL L (61 + 9 * i + k) x) i (k + 1)) := by
  obtain ⟨⟨⟨a0, a1, a2, a3⟩, b, c, w, g, n⟩, z⟩ := h
  have en : ∀ j, j ≠ 51 + i → j ≠ 50 → innL L i k j = L j := fun j j1 j2 => by unfold innL; rw [upL_n j2, upL_n j1]
  have en' : ∀ j, j ≠ 51 + i → j ≠ 50 → j ≠ 61 + 9 * i + k → innL (upL L (61 + 9 * i + k) x) i (k + 1) j = L j := fun j j1 j2 j3 => by unfold innL; rw [upL_n j2, upL_n j1, upL_n j3]
  have e5 : innL L i k 50 = i + 1 := upL_e
  have e5' : innL (upL L (61 + 9 * i + k) x) i (k + 1) 50 = i + 1 := upL_e
  have ei : innL L i k (51 + i) = k := by unfold innL; rw [upL_n (by omega), upL_e]
  have ei' : innL (upL L (61 + 9 * i + k) x) i (k + 1) (51 + i) = k + 1 := by unfold innL; rw [upL_n (by omega), upL_e]
  have ek' : innL (upL L (61 + 9 * i + k) x) i (k + 1) (61 + 9 * i + k) = x := by unfold innL; rw [upL_n (by omega), upL_n (by omega), upL_e]
  have h16 := hL.1.1.1
  refine ⟨⟨⟨?_, ?_, ?_, ?_⟩, fun t ht => ?_, fun t ht => ?_, fun t ht => ?_, fun t ht => ?_, fun i' k2 hi' hk' => ?_⟩, fun z0 t ht => ?_⟩
  · rw [en 0 (by omega) (by omega)] at a0
    rw [u3_t (by omega), u3_t (by omega), en' 0 (by omega) (by omega) (by omega)]; exact a0
  · rw [en 1 (by omega) (by omega)] at a1
    rw [u3_t (by omega), u3_t (by omega), en' 1 (by omega) (by omega) (by omega)]; exact a1
  · rw [en 151 (by omega) (by omega)] at a2
    rw [u3_t (by omega), u3_t (by omega), en' 151 (by omega) (by omega) (by omega)]; exact a2
  · rw [e5] at a3
    rw [u3_t (by omega), u3_t (by omega), e5']; exact a3
  · have := b t ht
    rw [en _ (by omega) (by omega)] at this
    rw [u3_t (by omega), u3_t (by omega), en' _ (by omega) (by omega) (by omega)]; exact this
  · have := c t ht
    rw [en _ (by omega) (by omega)] at this
    rw [u3_t (by omega), u3_t (by omega), en' _ (by omega) (by omega) (by omega)]; exact this
  · rw [en' 0 (by omega) (by omega) (by omega)] at ht
    have := w t (by rw [en 0 (by omega) (by omega)]; exact ht)
    rw [en _ (by omega) (by omega)] at this
    rw [u3_t (by omega), u3_t (by omega), en' _ (by omega) (by omega) (by omega)]; exact this
  · by_cases et : t = i
    · rw [et, u3_eq, ei']
    · have := g t ht
      rw [en _ (by omega) (by omega)] at this
      rw [u3_k et, u3_t (by omega), en' _ (by omega) (by omega) (by omega)]; exact this
  · by_cases e : i' = i
    · subst e
      rw [ei'] at hk'
      by_cases ek : k2 = k
      · subst ek
        rw [u3_t (by omega), u3_eq, ek']
      · have := n i' k2 hi' (by rw [ei]; omega)
        rw [en _ (by omega) (by omega)] at this
        rw [u3_t (by omega), u3_k (by omega), en' _ (by omega) (by omega) (by omega)]; exact this
    · have h9 := hL.1.2.2.2.2.2.2.1 i' hi'
      rw [en' _ (by omega) (by omega) (by omega)] at hk'
      have := n i' k2 hi' (by rw [en _ (by omega) (by omega)]; exact hk')
      rw [en _ (by omega) (by omega)] at this
      rw [u3_t (by omega), u3_k (by omega), en' _ (by omega) (by omega) (by omega)]; exact this
  · rw [en' 0 (by omega) (by omega) (by omega)] at z0
    rw [u3_t (by omega), u3_t (by omega)]; exact z (by rw [en 0 (by omega) (by omega)]; exact z0) t ht
theorem s_C_inns {X : Nat × (Nat → Int)} {d : Nat} {T : List Nat} {n i : Nat} (hd : 6 ≤ d) (hT : okT T n) (hi : i < 10) : ∀ (f k : Nat) (L : Nat → Nat) (q : Nat) (D : DD), k + f = 10 → f ≠ 0 → okP L → L 50 = i → q ≤ n → LQ D (innL L i k) → RKq D T n q → cG (at_ X d cd_Reader_readInn 41 [vR 7 0, vI (i : Int), vI (k : Int)] [] (hp D)) D (lnS T n (innB T n i f k L (tE T n q))) (PL T n) := by
  intro f
  induction f with
  | zero => intro k L q D _ h; exact absurd rfl h
  | succ f ih =>
    intro k L q D hk _ hL h5 hq hl h
    have h16 := hL.1.1.1
    have e1 := tE_le (T := T) hq
    have e2 := tE_le (T := T) e1.2
    obtain ⟨D1, a1, a2, a3⟩ := s_C_nextToken (X := X) (d := d) (D := D) (p := tE T n q) (by omega) hT e1.2 h.1.1 h.1.2.1
    have hr := h.nx a2 a3
    have hl1 := hl.fr a3
    have f1 : fr rF D D1 := a3.mo fun _ _ _ z => nF_rF z
    have e8 := a2.2.2.2.1
    have e0 : D1 5 0 0 = (L 0 : Int) := by
      have := hl1.1.1.1
      unfold innL at this
      rw [upL_n (by omega), upL_n (by omega)] at this
      exact this
    have hkd := tK_le (T := T) (n := n) (q := tE T n q)
    rw [b_Reader_readInn_41, if_neg (by omega), a1]
    simp only [ab_cv]
    rw [b_Reader_readInn_51, innB]
    by_cases k8 : tK T n (tE T n q) = 8
    · have e83 : D1 7 0 8 = 3 := by rw [e8, k8]; rfl
      rw [if_neg (fun z => z e83), if_pos (show tK T n (tE T n q) ≠ 7 by omega)]
      show cG _ D (bnE (sgnP T n (tE T n q)) fun e => .inr (innL L i k, e)) (PL T n)
      unfold sgnP
      rw [if_neg (by omega), if_neg (fun z => z k8)]
      exact ⟨D1, rfl, ⟨a2.1, a2.2.1, hr.2.1, hr.2.2, hl1⟩, f1⟩
    · have e83 : D1 7 0 8 ≠ 3 := by rw [e8]; unfold ckd; repeat' split
                                    all_goals omega
      have r := s_C_stands (X := X) (d := d) (D := D1) (lo := 0) (hi := L 0) (un := -1) (p2 := (L 0 : Int) - 1) (by omega) rfl a2
      unfold cO at r
      rw [if_pos e83, e0, zb_w (by omega) (by omega)]
      by_cases k7 : tK T n (tE T n q) = 7
      · rw [if_neg (fun z => z k7)]
        cases hn : numP T n 0 (L 0) (-1) (tE T n q) with
        | inl e =>
          rw [hn] at r
          obtain ⟨D2, b1, b2, b3⟩ := r
          have b1 : ev X d m_Reader_numberStands [vR 7 0, vI 0, vI ((L 0 : Int) - 1), vI (-1)] (hp D1) = _ := b1
          show ∃ D', _ ∧ _ ∧ _
          rw [b1]
          simp only [ab_ci]
          rw [b_Reader_readInn_76, if_neg (by decide)]
          exact ⟨D2, rfl, b2, f1.tr b3⟩
        | inr x =>
          rw [hn] at r
          obtain ⟨_, _, _, x2, _⟩ := numP_r hn
          obtain ⟨D2, b1, ⟨b2, b4⟩, b3⟩ := r
          subst b2
          have b1 : ev X d m_Reader_numberStands [vR 7 0, vI 0, vI ((L 0 : Int) - 1), vI (-1)] (hp D2) = _ := b1
          have e54 : D2 54 0 i = (k : Int) := by
            have := hl1.1.2.2.2.2.1 i hi
            unfold innL at this
            rw [upL_n (by omega), upL_e] at this
            exact this
          obtain ⟨d, rfl⟩ : ∃ e, d = e + 1 := ⟨d - 1, by omega⟩
          rw [b1]
          simp only [ab_ci]
          rw [b_Reader_readInn_76, if_pos (by decide), b4, e_Lore_addNews, b_Lore_addNews_0, if_pos (by omega), Int.toNat_natCast, e54]
          show cG _ D (lnS T n (if k = 9 then .inl (4, tS T n (tE T n q)) else innB T n i f (k + 1) (upL L (61 + 9 * i + k) x) (tE T n (tE T n q)))) (PL T n)
          by_cases c9 : k = 9
          · obtain ⟨D3, c1, c2, c3⟩ := s_C_fail (X := X) (d := d + 1) (D := D2) (w := 4) (by omega) a2
            have c1 : ev X (d + 1) m_Reader_fail [vR 7 0, vI 4] (hp D2) = _ := c1
            rw [if_neg (by omega), if_pos c9]
            simp only [ab_ci]
            rw [b_Reader_readInn_93, if_neg (by decide), c1]
            simp only [ab_ci]
            rw [b_Reader_readInn_101, if_pos (Or.inl rfl)]
            exact ⟨D3, rfl, c2, f1.tr c3⟩
          · have hl2 := LQ_nw (x := x) hL hi (by omega) hl1
            have hr2 : RKq (u3 (u3 D2 55 0 (9 * i + k) (x : Int)) 54 0 i ((k + 1 : Nat) : Int)) T n (tE T n q) := hr.on (fun j => by rw [u3_t (by omega), u3_t (by omega)]) (fun j => by rw [u3_t (by omega), u3_t (by omega)])
            rw [if_pos (by omega), if_pos (by omega), zb_w (n := (i : Int) * 9) (by omega) (by omega), zb_w (n := (i : Int) * 9 + (k : Int)) (by omega) (by omega), if_pos (by omega), if_pos (by omega), if_pos (by omega), tn (n := 9 * i + k) (by omega), u3_t (by omega), e54, zb_s (by omega), b_Lore_addNews_40, if_neg c9]
            simp only [ab_ci]
            rw [b_Reader_readInn_93, if_pos (by decide), zb_s (by omega)]
            refine (ih (k + 1) (upL L (61 + 9 * i + k) x) (tE T n q) _ (by omega) (by omega) (okP_nw hL h5 hi (by omega)) (by rw [upL_n (by omega)]; exact h5) e1.2 hl2 hr2).tr ((f1.u (Or.inr ⟨Or.inr (by omega), rfl⟩)).u (Or.inr ⟨Or.inr (by omega), rfl⟩)) fun b D' _ z => z
      · rw [if_pos k7]
        show cG _ D (bnE (sgnP T n (tE T n q)) fun e => .inr (innL L i k, e)) (PL T n)
        have hs : sgnP T n (tE T n q) = .inl (if tK T n (tE T n q) = 10 then 1 else 2, tS T n (tE T n q)) := by
          unfold sgnP
          by_cases c : tK T n (tE T n q) = 10
          · rw [if_pos c, if_pos c]
          · rw [if_neg c, if_pos k8, if_neg c]
        have hn : numP T n 0 (L 0) (-1) (tE T n q) = .inl (if tK T n (tE T n q) = 10 then 1 else 2, tS T n (tE T n q)) := by
          unfold numP
          by_cases c : tK T n (tE T n q) = 10
          · rw [if_pos c, if_pos c]
          · rw [if_neg c, if_pos k7, if_neg c]
        rw [hs]
        rw [hn] at r
        obtain ⟨D2, b1, b2, b3⟩ := r
        have b1 : ev X d m_Reader_numberStands [vR 7 0, vI 0, vI ((L 0 : Int) - 1), vI (-1)] (hp D1) = _ := b1
        show ∃ D', _ ∧ _ ∧ _
        rw [b1]
        simp only [ab_ci]
        rw [b_Reader_readInn_76, if_neg (by decide)]
        exact ⟨D2, rfl, b2, f1.tr b3⟩
theorem s_C_lInn {X : Nat × (Nat → Int)} {d : Nat} {D : DD} {T : List Nat} {n q : Nat} {L : Nat → Nat} (hd : 9 ≤ d) (hT : okT T n) (hq : q ≤ n) (hL : okP L) (hl : LQ D L) (h : RKq D T n q) : cO X d m_Reader_readInn [vR 7 0] D (lnS T n (bInn T n L q)) (PL T n) := by
  obtain ⟨d, rfl⟩ : ∃ e, d = e + 1 := ⟨d - 1, by omega⟩
  have e3 : D 5 0 3 = (L 50 : Int) := hl.1.1.2.2.2
  have h10 := hL.1.1.2.2.2.1
  unfold bInn
  by_cases c : 10 ≤ L 50
  · obtain ⟨D1, a1, a2, a3⟩ := s_C_fail (X := X) (d := d) (D := D) (w := 4) (by omega) h.1
    have a1 : ev X d m_Reader_fail [vR 7 0, vI 4] (hp D) = _ := a1
    rw [if_pos c]
    show ∃ D', _ ∧ _ ∧ _
    rw [e_Reader_readInn, b_Reader_readInn_0, e3, if_neg (by omega), a1]
    simp only [ab_ci]
    rw [b_Reader_readInn_17, if_pos (Or.inl rfl)]
    exact ⟨D1, rfl, a2, a3⟩
  rw [if_neg c]
  have g := s_C_inns (X := X) (d := d) (i := L 50) (by omega) hT (by omega) 10 0 L q (u3 D 5 0 3 ((L 50 + 1 : Nat) : Int)) rfl (by omega) hL rfl hq (LQ_in hL (by omega) rfl hl) (h.on (fun k => u3_t (by omega)) (fun k => u3_t (by omega)))
  have g2 : cG (ev X (d + 1) m_Reader_readInn [vR 7 0] (hp D)) D (lnS T n (innB T n (L 50) 10 0 L (tE T n q))) (PL T n) := g.tr ((fr.rf D).u (Or.inr ⟨Or.inl rfl, rfl⟩)) fun b D' _ z => by
    rw [e_Reader_readInn, b_Reader_readInn_0, e3, if_pos (by omega), zb_s (by omega)]
    exact z
  exact g2
theorem s_C_readLine {X : Nat × (Nat → Int)} {d : Nat} {D : DD} {T : List Nat} {n q : Nat} {L : Nat → Nat} (hd : 10 ≤ d) (hT : okT T n) (hq : q ≤ n) (hL : okP L) (hl : LQ D L) (h : RKq D T n q) : cO X d m_Reader_readLine [vR 7 0] D (lnP T n L q) (PL T n) := by
  obtain ⟨d, rfl⟩ : ∃ e, d = e + 1 := ⟨d - 1, by omega⟩
  have h16 := hL.1.1.1
  have e0 : D 5 0 0 = (L 0 : Int) := hl.1.1.1
  have e8 := h.1.2.2.2.1
  have hk := tK_le (T := T) (n := n) (q := q)
  show cG (ev X (d + 1) m_Reader_readLine [vR 7 0] (hp D)) D (lnS T n (bdP T n L q)) (PL T n)
  rw [e_Reader_readLine, b_Reader_readLine_0]
  unfold bdP
  by_cases c1 : tK T n q = 10
  · obtain ⟨D1, a1, a2, a3⟩ := s_C_fail (X := X) (d := d) (D := D) (w := 1) (by omega) h.1
    have a1 : ev X d m_Reader_fail [vR 7 0, vI 1] (hp D) = _ := a1
    have e84 : D 7 0 8 = 4 := by rw [e8, c1]; rfl
    rw [if_pos c1, if_neg (fun z => z e84), a1]
    simp only [ab_ci]
    rw [b_Reader_readLine_13, if_pos (Or.inl rfl)]
    exact ⟨D1, rfl, a2, a3⟩
  have e84 : D 7 0 8 ≠ 4 := by rw [e8]; unfold ckd; repeat' split
                               all_goals omega
  rw [if_neg c1, if_pos e84, s_C_lineHere (by omega) hT hq h.1]
  simp only [ab_ci]
  rw [b_Reader_readLine_18]
  by_cases c2 : 5 < tK T n q ∨ (tK T n q ≠ 0 ∧ L 0 = 0)
  · obtain ⟨D1, a1, a2, a3⟩ := s_C_fail (X := X) (d := d) (D := D) (w := 2) (by omega) h.1
    have a1 : ev X d m_Reader_fail [vR 7 0, vI 2] (hp D) = _ := a1
    have bad : ∀ v1 : ab_V, cG (at_ X d cd_Reader_readLine 38 [vR 7 0, v1] [] (hp D)) D (lnS T n (.inl (2, tS T n q))) (PL T n) := by
      intro v1
      rw [b_Reader_readLine_38, a1]
      simp only [ab_ci]
      rw [b_Reader_readLine_43, if_pos (Or.inl rfl)]
      exact ⟨D1, rfl, a2, a3⟩
    rw [if_pos c2]
    by_cases c3 : tK T n q ≤ 5
    · rw [if_pos c3, if_neg (by omega), if_neg (by omega), e0, if_neg (by omega)]
      exact bad _
    · rw [if_neg c3, if_pos rfl]
      exact bad _
  have c3 : tK T n q ≤ 5 := by omega
  rw [if_neg c2, if_pos c3, if_neg (by omega)]
  have g44 : (if (tK T n q : Int) = 0 then at_ X d cd_Reader_readLine 44 [vR 7 0, vI (tK T n q : Int)] [] (hp D) else if D 5 0 0 ≠ 0 then at_ X d cd_Reader_readLine 44 [vR 7 0, vI (tK T n q : Int)] [] (hp D) else at_ X d cd_Reader_readLine 38 [vR 7 0, vI (tK T n q : Int)] [] (hp D)) = at_ X d cd_Reader_readLine 44 [vR 7 0, vI (tK T n q : Int)] [] (hp D) := by
    by_cases z : tK T n q = 0
    · rw [if_pos (by omega)]
    · rw [if_neg (by omega), e0, if_pos (by omega)]
  rw [g44, b_Reader_readLine_44]
  by_cases k0 : tK T n q = 0
  · rw [if_pos (by omega), if_pos k0]
    have g : cG (ev X d m_Reader_readThings [vR 7 0] (hp D)) D _ _ := s_C_lThings (X := X) (d := d) (D := D) (by omega) hT hq hL hl h
    refine g.tr (fr.rf D) fun b D' hb z => ?_
    rw [z]
    simp only [ab_ci]
    rw [b_Reader_readLine_84, if_pos hb]
  rw [if_neg (by omega), if_neg k0]
  by_cases k1 : tK T n q = 1
  · rw [if_pos (by omega), if_pos k1]
    have g : cG (ev X d m_Reader_readMind [vR 7 0] (hp D)) D _ _ := s_C_lMind (X := X) (d := d) (D := D) (by omega) hT hq hl h
    refine g.tr (fr.rf D) fun b D' hb z => ?_
    rw [z]
    simp only [ab_ci]
    rw [b_Reader_readLine_89, if_pos hb]
  rw [if_neg (by omega), if_neg k1]
  by_cases k2 : tK T n q = 2
  · rw [if_pos (by omega), if_pos k2]
    have g : cG (ev X d m_Reader_readPair [vR 7 0, vI 0] (hp D)) D _ _ := s_C_lPair (X := X) (d := d) (D := D) (sec := false) (by omega) hT hq hL hl h
    refine g.tr (fr.rf D) fun b D' hb z => ?_
    rw [b_Reader_readLine_90, if_pos (by omega), b_Reader_readLine_101, z]
    simp only [ab_ci]
    rw [b_Reader_readLine_104, if_pos hb]
  rw [if_neg (by omega), if_neg k2]
  by_cases k3 : tK T n q = 3
  · rw [if_pos (by omega), if_pos k3]
    have g : cG (ev X d m_Reader_readPair [vR 7 0, vI 1] (hp D)) D _ _ := s_C_lPair (X := X) (d := d) (D := D) (sec := true) (by omega) hT hq hL hl h
    refine g.tr (fr.rf D) fun b D' hb z => ?_
    rw [b_Reader_readLine_90, if_neg (by omega), b_Reader_readLine_101, z]
    simp only [ab_ci]
    rw [b_Reader_readLine_104, if_pos hb]
  rw [if_neg (by omega), if_neg k3]
  by_cases k4 : tK T n q = 4
  · rw [if_pos (by omega), if_pos k4]
    have g : cG (ev X d m_Reader_readWorth [vR 7 0] (hp D)) D _ _ := s_C_lWorth (X := X) (d := d) (D := D) (by omega) hT hq hL hl h
    refine g.tr (fr.rf D) fun b D' hb z => ?_
    rw [z]
    simp only [ab_ci]
    rw [b_Reader_readLine_109, if_pos hb]
  rw [if_neg (by omega), if_neg k4]
  have g : cG (ev X d m_Reader_readInn [vR 7 0] (hp D)) D _ _ := s_C_lInn (X := X) (d := d) (D := D) (by omega) hT hq hL hl h
  refine g.tr (fr.rf D) fun b D' hb z => ?_
  rw [z]
  simp only [ab_ci]
  rw [b_Reader_readLine_114, if_pos hb]
def PT (L : Nat → Nat) (D : DD) : Prop := D 7 0 1 = 0 ∧ D 7 0 2 = -1 ∧ LQ D L ∧ okP L
theorem s_C_text {X : Nat × (Nat → Int)} {d : Nat} {T : List Nat} {n : Nat} (hd : 11 ≤ d) (hT : okT T n) : ∀ (f turn : Nat) (L : Nat → Nat) (q : Nat) (D : DD) (v1 : ab_V), turn ≤ q → L 151 ≤ q → q ≤ n → n ≤ q + f → okP L → LQ D L → RKq D T n q → cG (at_ X d cd_Reader_readText 46 [vR 7 0, v1, vI (turn : Int)] [] (hp D)) D (prsP T n f L q) PT := by
  have h5 := hT.1
  have fin : ∀ (turn : Nat) (L : Nat → Nat) (q : Nat) (D : DD) (v1 : ab_V), tK T n q = 9 → okP L → LQ D L → RKq D T n q → cG (at_ X d cd_Reader_readText 46 [vR 7 0, v1, vI (turn : Int)] [] (hp D)) D (.inr L) PT := by
    intro turn L q D v1 hk hL hl h
    have e8 : D 7 0 8 = 0 := by rw [h.1.2.2.2.1, hk]; rfl
    rw [b_Reader_readText_46, h.1.1.1, e8]
    by_cases c : n ≤ turn
    · rw [if_pos (by omega)]
      exact ⟨D, rfl, ⟨h.2.1, h.2.2, hl, hL⟩, fr.rf D⟩
    · rw [if_neg (by omega), if_pos rfl]
      exact ⟨D, rfl, ⟨h.2.1, h.2.2, hl, hL⟩, fr.rf D⟩
  intro f
  induction f with
  | zero =>
    intro turn L q D v1 h1 h2 h3 h4 hL hl h
    rw [prsP]
    exact fin turn L q D v1 (tK_9 (by omega) h3) hL hl h
  | succ f ih =>
    intro turn L q D v1 h1 h2 h3 h4 hL hl h
    rw [prsP]
    by_cases c : tK T n q = 9
    · rw [if_pos c]
      exact fin turn L q D v1 c hL hl h
    rw [if_neg c]
    have hk := tK_le (T := T) (n := n) (q := q)
    have hqn := (tE_lt (T := T) h3 c).2
    have hqs := (tS_b (T := T) h3).1
    have e8 : D 7 0 8 ≠ 0 := by rw [h.1.2.2.2.1]; unfold ckd; repeat' split
                                all_goals omega
    have r := s_C_readLine (X := X) (d := d) (D := D) (by omega) hT h3 hL hl h
    unfold cO at r
    rw [b_Reader_readText_46, h.1.1.1, if_neg (by omega), if_neg e8]
    cases hn : lnP T n L q with
    | inl e =>
      rw [hn] at r
      obtain ⟨D1, a1, a2, a3⟩ := r
      rw [a1]
      simp only [ab_ci]
      rw [b_Reader_readText_65, if_neg (by decide)]
      exact ⟨D1, rfl, a2, a3⟩
    | inr z =>
      rw [hn] at r
      obtain ⟨L', q'⟩ := z
      obtain ⟨D1, a1, ⟨b1, b2, b3, b4, b5⟩, a3⟩ := r
      obtain ⟨o1, o2, o3, o4⟩ := lnP_ok hL h3 hn
      have b2 : D1 7 0 6 = (q' : Int) := b2
      have b5 : LQ D1 L' := b5
      have e52 : D1 5 0 2 = (L 151 : Int) := by rw [b5.1.1.2.2.1, o4]
      rw [a1]
      simp only [ab_ci]
      rw [b_Reader_readText_65, if_pos (by decide), e52, zb_s (by omega)]
      have hl2 : LQ (u3 D1 5 0 2 ((L 151 + 1 : Nat) : Int)) (upL L' 151 (L 151 + 1)) := LQ_li o1 b5
      have hC2 : CT (u3 D1 5 0 2 ((L 151 + 1 : Nat) : Int)) T n := ⟨by rw [u3_t (by omega)]; exact b1.1, fun k hk => by rw [u3_t (by omega)]; exact b1.2 k hk⟩
      obtain ⟨D2, c1, c2, c3⟩ := s_C_nextToken (X := X) (d := d) (D := u3 D1 5 0 2 ((L 151 + 1 : Nat) : Int)) (p := q') (by omega) hT o3 hC2 (by rw [u3_t (by omega)]; exact b2)
      rw [c1]
      simp only [ab_cv]
      rw [b_Reader_readText_87, zb_s (by omega)]
      have hr2 : RKq D2 T n q' := ⟨c2, by rw [c3 7 0 1 (by unfold nF; omega), u3_t (by omega)]; exact b3, by rw [c3 7 0 2 (by unfold nF; omega), u3_t (by omega)]; exact b4⟩
      exact (ih (turn + 1) (upL L' 151 (L 151 + 1)) q' D2 vU (by omega) (by rw [upL_e]; omega) o3 (by omega) (okP_li o1 (by omega)) (hl2.fr c3) hr2).tr ((a3.u (Or.inr ⟨Or.inl rfl, rfl⟩)).tr (c3.mo fun _ _ _ z => nF_rF z)) fun b D' _ z => z
theorem okP_00 : okP L00 := by
  have e : ∀ k, k ≠ 1 → L00 k = 0 := fun k hk => by unfold L00; rw [if_neg hk]
  refine ⟨⟨⟨by decide, by decide, by decide, by decide, by decide⟩, fun t _ => ?_, fun t _ => ?_, fun t u _ _ => ?_, fun t _ => ?_, fun t _ => ?_, fun i _ => ?_, fun i k _ hk => ?_⟩, fun i _ _ => e _ (by omega)⟩
  · rw [e _ (by omega), e 0 (by omega)]; decide
  · rw [e _ (by omega), e 0 (by omega)]; decide
  · rw [e _ (by omega), e _ (by omega), Nat.zero_testBit, Nat.zero_testBit]
  · rw [e _ (by omega), Nat.zero_testBit]
  · rw [e _ (by omega)]; omega
  · rw [e _ (by omega)]; omega
  · rw [e _ (by omega)] at hk; omega
theorem fil_n {D : DD} {T q n : Nat} {x : Int} {t i k : Nat} (h : t ≠ T) : fil D T q n x t i k = D t i k := by unfold fil; rw [if_neg (fun z => h z.1)]
theorem fil_y {D : DD} {T q n : Nat} {x : Int} {k : Nat} (h : k < n) : fil D T q n x T q k = x := by unfold fil; rw [if_pos ⟨rfl, rfl, h⟩]
theorem fil_i {D : DD} {T q n : Nat} {x : Int} {t i k : Nat} (h : i ≠ q) : fil D T q n x t i k = D t i k := by unfold fil; rw [if_neg (fun z => h z.2.1)]
theorem s_C_clear {X : Nat × (Nat → Int)} {d : Nat} {D : DD} (hd : 2 ≤ d) : ∃ D', ev X d m_Lore_clear [vR 5 0] (hp D) = some (none, hp D') ∧ LQ D' L00 ∧ fr (lP 0) D D' := by
  obtain ⟨d, rfl⟩ : ∃ e, d = e + 1 := ⟨d - 1, by omega⟩
  rw [e_Lore_clear, b_Lore_clear_0, s_fill_51 (by omega)]
  simp only [ab_cv]
  rw [b_Lore_clear_29, s_fill_52 (by omega)]
  simp only [ab_cv]
  rw [b_Lore_clear_37, s_fill_53 (by omega)]
  simp only [ab_cv]
  rw [b_Lore_clear_45, s_fill_54 (by omega)]
  simp only [ab_cv]
  rw [b_Lore_clear_53]
  refine ⟨_, rfl, ⟨⟨⟨?_, ?_, ?_, ?_⟩, fun t ht => ?_, fun t ht => ?_, fun t ht => ?_, fun t ht => ?_, fun i k hi hk => ?_⟩, fun _ t ht => ?_⟩, fun t i k n => ?_⟩
  · rw [fil_n (by omega), fil_n (by omega), fil_n (by omega), fil_n (by omega), u3_k (by omega), u3_k (by omega), u3_k (by omega), u3_eq]; rfl
  · rw [fil_n (by omega), fil_n (by omega), fil_n (by omega), fil_n (by omega), u3_k (by omega), u3_k (by omega), u3_eq]; rfl
  · rw [fil_n (by omega), fil_n (by omega), fil_n (by omega), fil_n (by omega), u3_k (by omega), u3_eq]; rfl
  · rw [fil_n (by omega), fil_n (by omega), fil_n (by omega), fil_n (by omega), u3_eq]; rfl
  · rw [fil_n (by omega), fil_n (by omega), fil_n (by omega), fil_y (by omega)]
    unfold L00; rw [if_neg (by omega)]; rfl
  · rw [fil_n (by omega), fil_n (by omega), fil_y (by omega)]
    unfold L00; rw [if_neg (by omega)]; rfl
  · have ht : t < 0 := ht
    omega
  · rw [fil_y (by omega)]
    unfold L00; rw [if_neg (by omega)]; rfl
  · unfold L00 at hk
    rw [if_neg (by omega)] at hk
    omega
  · rw [fil_n (by omega), fil_y (by omega)]
  · unfold lP at n
    by_cases hi : i = 0
    · rw [fil_n (by omega), fil_n (by omega), fil_n (by omega), fil_n (by omega), u3_t (by omega), u3_t (by omega), u3_t (by omega), u3_t (by omega)]
    · rw [fil_i hi, fil_i hi, fil_i hi, fil_i hi, u3_i hi, u3_i hi, u3_i hi, u3_i hi]
end
