/-! lore: lines, the class -/
section
def rF : Nat → Nat → Nat → Prop := fun t i k => (t = 7 ∧ i = 0 ∧ (k = 1 ∨ k = 2 ∨ (6 ≤ k ∧ k ≤ 9))) ∨ ((t = 5 ∨ (51 ≤ t ∧ t ≤ 55)) ∧ i = 0)
theorem nF_rF {t i k : Nat} (h : nF t i k) : rF t i k := by unfold nF at h; unfold rF; omega
def CF (D : DD) (e : Er) : Prop := D 7 0 1 = (e.1 : Int) ∧ D 7 0 2 = (e.2 : Int)
def cO {α : Type} (X : Nat × (Nat → Int)) (d m : Nat) (as : List ab_V) (D : DD) (r : Er ⊕ α) (P : α → DD → Prop) : Prop := match r with
  | .inl e => ∃ D', ev X d m as (hp D) = some (some (vI 0), hp D') ∧ CF D' e ∧ fr rF D D'
  | .inr x => ∃ D', ev X d m as (hp D) = some (some (vI 1), hp D') ∧ P x D' ∧ fr rF D D'
def RKq (D : DD) (T : List Nat) (n q : Nat) : Prop := RD D T n q ∧ D 7 0 1 = 0 ∧ D 7 0 2 = -1
theorem RKq.on {D D' : DD} {T : List Nat} {n q : Nat} (h : RKq D T n q) (e1 : ∀ k, D' 7 0 k = D 7 0 k) (e2 : ∀ k, D' 61 0 k = D 61 0 k) : RKq D' T n q := by
  obtain ⟨⟨⟨a1, a2⟩, a3, a4, a5, a6⟩, b, c⟩ := h
  exact ⟨⟨⟨(e1 5).trans a1, fun k hk => (e2 k).trans (a2 k hk)⟩, (e1 6).trans a3, (e1 7).trans a4, (e1 8).trans a5, fun z => (e1 9).trans (a6 z)⟩, (e1 1).trans b, (e1 2).trans c⟩
def LQ (D : DD) (L : Nat → Nat) : Prop := LC D 0 L ∧ (L 0 = 0 → ∀ t, t < 16 → D 53 0 t = 1)
theorem LQ.fr {D D' : DD} {L : Nat → Nat} (h : LQ D L) (e : fr nF D D') : LQ D' L := ⟨h.1.on fun t k ht => e t 0 k (by unfold nF; omega), fun z t ht => (e 53 0 t (by unfold nF; omega)).trans (h.2 z t ht)⟩
def PL (T : List Nat) (n : Nat) (z : (Nat → Nat) × Nat) (D : DD) : Prop := CT D T n ∧ D 7 0 6 = (z.2 : Int) ∧ D 7 0 1 = 0 ∧ D 7 0 2 = -1 ∧ LQ D z.1
theorem s_C_fail {X : Nat × (Nat → Int)} {d : Nat} {D : DD} {T : List Nat} {n q w : Nat} (hd : 1 ≤ d) (h : RD D T n q) : ∃ D', ev X d m_Reader_fail [vR 7 0, vI (w : Int)] (hp D) = some (some (vI 0), hp D') ∧ CF D' (w, tS T n q) ∧ fr rF D D' := by
  obtain ⟨d, rfl⟩ : ∃ e, d = e + 1 := ⟨d - 1, by omega⟩
  rw [e_Reader_fail, b_Reader_fail_0, u3_k (by omega), h.2.2.1]
  exact ⟨_, rfl, ⟨by rw [u3_k (by omega), u3_eq], by rw [u3_eq]⟩, ((fr.rf D).u (Or.inl ⟨rfl, rfl, by omega⟩)).u (Or.inl ⟨rfl, rfl, by omega⟩)⟩
theorem tK_le {T : List Nat} {n q : Nat} : tK T n q ≤ 10 := by
  unfold tK
  have := keyT_le (T := T) (s := tS T n q) (e := tE T n q)
  repeat' split
  all_goals omega
theorem s_C_stands {X : Nat × (Nat → Int)} {d : Nat} {D : DD} {T : List Nat} {n q lo hi : Nat} {un p2 : Int} (hd : 2 ≤ d) (hp2 : p2 = (hi : Int) - 1) (h : RD D T n q) : cO X d m_Reader_numberStands [vR 7 0, vI (lo : Int), vI p2, vI un] D (numP T n lo hi un q) (fun x D' => D' = D ∧ D 7 0 9 = (x : Int)) := by
  obtain ⟨d, rfl⟩ : ∃ e, d = e + 1 := ⟨d - 1, by omega⟩
  have hk := tK_le (T := T) (n := n) (q := q)
  obtain ⟨D1, a1, a2, a3⟩ := s_C_fail (X := X) (d := d) (D := D) (w := 1) (by omega) h
  obtain ⟨D2, b1, b2, b3⟩ := s_C_fail (X := X) (d := d) (D := D) (w := 2) (by omega) h
  obtain ⟨D3, c1, c2, c3⟩ := s_C_fail (X := X) (d := d) (D := D) (w := 3) (by omega) h
  have a1 : ev X d m_Reader_fail [vR 7 0, vI 1] (hp D) = _ := a1
  have b1 : ev X d m_Reader_fail [vR 7 0, vI 2] (hp D) = _ := b1
  have c1 : ev X d m_Reader_fail [vR 7 0, vI 3] (hp D) = _ := c1
  unfold numP
  by_cases k1 : tK T n q = 10
  · rw [if_pos k1]
    show ∃ D', _ ∧ _ ∧ _
    have e8 : D 7 0 8 = 4 := by rw [h.2.2.2.1, k1]; rfl
    rw [e_Reader_numberStands, b_Reader_numberStands_0, e8, if_neg (by decide), a1]
    simp only [ab_ci]
    rw [b_Reader_numberStands_13, if_pos (Or.inl rfl)]
    exact ⟨D1, rfl, a2, a3⟩
  rw [if_neg k1]
  have e8 : D 7 0 8 ≠ 4 := by rw [h.2.2.2.1]; unfold ckd; repeat' split
                              all_goals omega
  by_cases k2 : tK T n q = 7
  · have e9 : D 7 0 9 = (tN T n q : Int) := h.2.2.2.2 k2
    have e8' : D 7 0 8 = 2 := by rw [h.2.2.2.1, k2]; rfl
    rw [if_neg (fun z => z k2)]
    have bad : ∃ D', at_ X d cd_Reader_numberStands 52 [vR 7 0, vI (lo : Int), vI p2, vI un] [] (hp D) = some (some (vI 0), hp D') ∧ CF D' (3, tS T n q) ∧ fr rF D D' := by
      rw [b_Reader_numberStands_52, c1]
      simp only [ab_ci]
      rw [b_Reader_numberStands_57, if_pos (Or.inl rfl)]
      exact ⟨D3, rfl, c2, c3⟩
    by_cases k3 : tN T n q < lo ∨ hi ≤ tN T n q ∨ (tN T n q : Int) = un
    · rw [if_pos k3]
      show ∃ D', _ ∧ _ ∧ _
      rw [e_Reader_numberStands, b_Reader_numberStands_0, if_pos e8, if_pos e8', e9]
      by_cases k4 : tN T n q < lo
      · rw [if_pos (by omega)]; exact bad
      · rw [if_neg (by omega)]
        by_cases k5 : hi ≤ tN T n q
        · rw [if_pos (by omega)]; exact bad
        · rw [if_neg (by omega), if_neg (by omega)]; exact bad
    · rw [if_neg k3]
      show ∃ D', _ ∧ _ ∧ _
      rw [e_Reader_numberStands, b_Reader_numberStands_0, if_pos e8, if_pos e8', e9, if_neg (by omega), if_neg (by omega), if_pos (by omega)]
      exact ⟨D, rfl, ⟨rfl, by first | exact e9 | rfl⟩, fr.rf D⟩
  · rw [if_pos k2]
    show ∃ D', _ ∧ _ ∧ _
    have e8' : D 7 0 8 ≠ 2 := by rw [h.2.2.2.1]; unfold ckd; repeat' split
                                 all_goals omega
    rw [e_Reader_numberStands, b_Reader_numberStands_0, if_pos e8, if_neg e8', b1]
    simp only [ab_ci]
    rw [b_Reader_numberStands_27, if_pos (Or.inl rfl)]
    exact ⟨D2, rfl, b2, b3⟩
theorem RKq.nx {D D' : DD} {T : List Nat} {n q p : Nat} (h : RKq D T n q) (g : RD D' T n p) (e : fr nF D D') : RKq D' T n p := ⟨g, (e 7 0 1 (by unfold nF; omega)).trans h.2.1, (e 7 0 2 (by unfold nF; omega)).trans h.2.2⟩
theorem s_C_readNumber {X : Nat × (Nat → Int)} {d : Nat} {D : DD} {T : List Nat} {n q lo hi : Nat} {un p2 : Int} (hd : 5 ≤ d) (hT : okT T n) (hq : q ≤ n) (hp2 : p2 = (hi : Int) - 1) (h : RKq D T n q) : cO X d m_Reader_readNumber [vR 7 0, vI (lo : Int), vI p2, vI un] D (numP T n lo hi un (tE T n q)) (fun x D' => RKq D' T n (tE T n q) ∧ fr nF D D' ∧ D' 7 0 9 = (x : Int)) := by
  obtain ⟨d, rfl⟩ : ∃ e, d = e + 1 := ⟨d - 1, by omega⟩
  have hE := tE_le (T := T) hq
  obtain ⟨D1, a1, a2, a3⟩ := s_C_nextToken (X := X) (d := d) (D := D) (p := tE T n q) (by omega) hT hE.2 h.1.1 h.1.2.1
  have r := s_C_stands (X := X) (d := d) (D := D1) (lo := lo) (hi := hi) (un := un) (p2 := p2) (by omega) hp2 a2
  unfold cO at r ⊢
  cases hn : numP T n lo hi un (tE T n q) with
  | inl e =>
    rw [hn] at r
    obtain ⟨D2, b1, b2, b3⟩ := r
    show ∃ D', _ ∧ _ ∧ _
    rw [e_Reader_readNumber, b_Reader_readNumber_0, a1]
    simp only [ab_cv]
    rw [b_Reader_readNumber_4, b1]
    simp only [ab_ci]
    rw [b_Reader_readNumber_11, if_pos (Or.inl rfl)]
    exact ⟨D2, rfl, b2, (a3.mo fun _ _ _ z => nF_rF z).tr b3⟩
  | inr x =>
    rw [hn] at r
    obtain ⟨D2, b1, ⟨b2, b4⟩, b3⟩ := r
    subst b2
    show ∃ D', _ ∧ _ ∧ _
    rw [e_Reader_readNumber, b_Reader_readNumber_0, a1]
    simp only [ab_cv]
    rw [b_Reader_readNumber_4, b1]
    simp only [ab_ci]
    rw [b_Reader_readNumber_11, if_pos (Or.inr rfl)]
    exact ⟨_, rfl, ⟨h.nx a2 a3, a3, b4⟩, a3.mo fun _ _ _ z => nF_rF z⟩
theorem s_C_readThing {X : Nat × (Nat → Int)} {d : Nat} {D : DD} {T : List Nat} {n q : Nat} {L : Nat → Nat} {un : Int} (hd : 5 ≤ d) (hT : okT T n) (hq : q ≤ n) (hL : okP L) (hl : LQ D L) (h : RKq D T n q) : cO X d m_Reader_readNumber [vR 7 0, vI 0, vI (w32 ((D 5 0 0) - 1)), vI un] D (numP T n 0 (L 0) un (tE T n q)) (fun x D' => RKq D' T n (tE T n q) ∧ fr nF D D' ∧ D' 7 0 9 = (x : Int)) := by
  have h16 := hL.1.1.1
  have e0 : D 5 0 0 = (L 0 : Int) := hl.1.1.1
  rw [e0, zb_w (by omega) (by omega)]
  exact s_C_readNumber (X := X) (d := d) (D := D) (lo := 0) (hi := L 0) (un := un) (p2 := (L 0 : Int) - 1) (by omega) hT hq rfl h
theorem s_C_readSign {X : Nat × (Nat → Int)} {d : Nat} {D : DD} {T : List Nat} {n q : Nat} {L : Nat → Nat} (hd : 5 ≤ d) (hT : okT T n) (hq : q ≤ n) (hl : LQ D L) (h : RKq D T n q) : cO X d m_Reader_readSign [vR 7 0] D (bnE (sgnP T n (tE T n q)) fun e => .inr (L, e)) (PL T n) := by
  obtain ⟨d, rfl⟩ : ∃ e, d = e + 1 := ⟨d - 1, by omega⟩
  have hE := tE_le (T := T) hq
  obtain ⟨D1, a1, a2, a3⟩ := s_C_nextToken (X := X) (d := d) (D := D) (p := tE T n q) (by omega) hT hE.2 h.1.1 h.1.2.1
  have hk := tK_le (T := T) (n := n) (q := tE T n q)
  obtain ⟨D2, b1, b2, b3⟩ := s_C_fail (X := X) (d := d) (D := D1) (w := 1) (by omega) a2
  obtain ⟨D3, c1, c2, c3⟩ := s_C_fail (X := X) (d := d) (D := D1) (w := 2) (by omega) a2
  have b1 : ev X d m_Reader_fail [vR 7 0, vI 1] (hp D1) = _ := b1
  have c1 : ev X d m_Reader_fail [vR 7 0, vI 2] (hp D1) = _ := c1
  have e8 := a2.2.2.2.1
  have f1 : fr rF D D1 := a3.mo fun _ _ _ z => nF_rF z
  unfold sgnP
  by_cases k1 : tK T n (tE T n q) = 10
  · rw [if_pos k1]
    show ∃ D', _ ∧ _ ∧ _
    have e8 : D1 7 0 8 = 4 := by rw [e8, k1]; rfl
    rw [e_Reader_readSign, b_Reader_readSign_0, a1]
    simp only [ab_cv]
    rw [b_Reader_readSign_4, e8, if_neg (by decide), b1]
    simp only [ab_ci]
    rw [b_Reader_readSign_17, if_pos (Or.inl rfl)]
    exact ⟨D2, rfl, b2, f1.tr b3⟩
  rw [if_neg k1]
  have e84 : D1 7 0 8 ≠ 4 := by rw [e8]; unfold ckd; repeat' split
                                all_goals omega
  by_cases k2 : tK T n (tE T n q) = 8
  · have e8' : D1 7 0 8 = 3 := by rw [e8, k2]; rfl
    rw [if_neg (fun z => z k2)]
    show ∃ D', _ ∧ _ ∧ _
    rw [e_Reader_readSign, b_Reader_readSign_0, a1]
    simp only [ab_cv]
    rw [b_Reader_readSign_4, if_pos e84, if_pos e8', b_Reader_readSign_34]
    have hr := h.nx a2 a3
    exact ⟨D1, rfl, ⟨a2.1, a2.2.1, hr.2.1, hr.2.2, hl.fr a3⟩, f1⟩
  · rw [if_pos k2]
    show ∃ D', _ ∧ _ ∧ _
    have e8' : D1 7 0 8 ≠ 3 := by rw [e8]; unfold ckd; repeat' split
                                  all_goals omega
    rw [e_Reader_readSign, b_Reader_readSign_0, a1]
    simp only [ab_cv]
    rw [b_Reader_readSign_4, if_pos e84, if_neg e8', c1]
    simp only [ab_ci]
    rw [b_Reader_readSign_31, if_pos rfl]
    exact ⟨D3, rfl, c2, f1.tr c3⟩
/-- a line's last step: the sign, then nothing more -/
theorem cO_sign {X : Nat × (Nat → Int)} {d m : Nat} {as : List ab_V} {D D1 : DD} {T : List Nat} {n q : Nat} {L : Nat → Nat} (hd : 5 ≤ d) (hT : okT T n) (hq : q ≤ n) (hl : LQ D1 L) (h : RKq D1 T n q) (f1 : fr rF D D1) (he : ∀ (b : Int) (D' : DD), (b = 0 ∨ b = 1) → ev X d m_Reader_readSign [vR 7 0] (hp D1) = some (some (vI b), hp D') → ev X (d + 1) m as (hp D) = some (some (vI b), hp D')) : cO X (d + 1) m as D (bnE (sgnP T n (tE T n q)) fun e => .inr (L, e)) (PL T n) := by
  have r := s_C_readSign (X := X) (d := d) (D := D1) hd hT hq hl h
  unfold cO at r ⊢
  cases hs : sgnP T n (tE T n q) with
  | inl e =>
    rw [hs] at r
    obtain ⟨D2, b1, b2, b3⟩ := r
    exact ⟨D2, he 0 D2 (Or.inl rfl) b1, b2, f1.tr b3⟩
  | inr e =>
    rw [hs] at r
    obtain ⟨D2, b1, b2, b3⟩ := r
    exact ⟨D2, he 1 D2 (Or.inr rfl) b1, b2, f1.tr b3⟩
theorem LQ_th {D : DD} {L : Nat → Nat} {x : Nat} (h : LQ D L) (h0 : L 0 = 0) (h1 : 1 ≤ x) (h2 : x < 17) : LQ (u3 D 5 0 0 (x : Int)) (thL L x) := by
  obtain ⟨⟨⟨a0, a1, a2, a3⟩, b, c, w, g, i⟩, z⟩ := h
  have en : ∀ k, k ≠ 0 → ¬ (34 ≤ k ∧ k < 50) → thL L x k = L k := fun k k1 k2 => by unfold thL; rw [if_neg k1, if_neg k2]
  refine ⟨⟨⟨by rw [u3_eq]; rfl, ?_, ?_, ?_⟩, fun t ht => ?_, fun t ht => ?_, fun t ht => ?_, fun t ht => ?_, fun i' k hi hk => ?_⟩, fun z0 => by have z0 : x = 0 := z0; omega⟩
  · rw [u3_k (by omega), en 1 (by omega) (by omega)]; exact a1
  · rw [u3_k (by omega), en 151 (by omega) (by omega)]; exact a2
  · rw [u3_k (by omega), en 50 (by omega) (by omega)]; exact a3
  · rw [u3_t (by omega), en _ (by omega) (by omega)]; exact b t ht
  · rw [u3_t (by omega), en _ (by omega) (by omega)]; exact c t ht
  · have ht : t < x := ht
    rw [u3_t (by omega), z h0 t (by omega)]
    unfold thL
    rw [if_neg (by omega), if_pos (by omega)]
    rfl
  · rw [u3_t (by omega), en _ (by omega) (by omega)]; exact g t ht
  · rw [en _ (by omega) (by omega)] at hk
    rw [u3_t (by omega), en _ (by omega) (by omega)]; exact i i' k hi hk
theorem LQ_mi {D : DD} {L : Nat → Nat} {x : Nat} (h : LQ D L) : LQ (u3 D 5 0 1 (x : Int)) (upL L 1 x) := by
  obtain ⟨⟨⟨a0, a1, a2, a3⟩, b, c, w, g, i⟩, z⟩ := h
  have en : ∀ k, k ≠ 1 → upL L 1 x k = L k := fun k k1 => upL_n k1
  refine ⟨⟨⟨?_, by rw [u3_eq, upL_e], ?_, ?_⟩, fun t ht => ?_, fun t ht => ?_, fun t ht => ?_, fun t ht => ?_, fun i' k hi hk => ?_⟩, fun z0 t ht => ?_⟩
  · rw [u3_k (by omega), en 0 (by omega)]; exact a0
  · rw [u3_k (by omega), en 151 (by omega)]; exact a2
  · rw [u3_k (by omega), en 50 (by omega)]; exact a3
  · rw [u3_t (by omega), en _ (by omega)]; exact b t ht
  · rw [u3_t (by omega), en _ (by omega)]; exact c t ht
  · rw [en 0 (by omega)] at ht
    rw [u3_t (by omega), en _ (by omega)]; exact w t ht
  · rw [u3_t (by omega), en _ (by omega)]; exact g t ht
  · rw [en _ (by omega)] at hk
    rw [u3_t (by omega), en _ (by omega)]; exact i i' k hi hk
  · rw [en 0 (by omega)] at z0
    rw [u3_t (by omega)]; exact z z0 t ht
theorem LQ_li {D : DD} {L : Nat → Nat} {x : Nat} (hL : okP L) (h : LQ D L) : LQ (u3 D 5 0 2 (x : Int)) (upL L 151 x) := by
  obtain ⟨⟨⟨a0, a1, a2, a3⟩, b, c, w, g, i⟩, z⟩ := h
  have h16 := hL.1.1.1
  have en : ∀ k, k ≠ 151 → upL L 151 x k = L k := fun k k1 => upL_n k1
  refine ⟨⟨⟨?_, ?_, by rw [u3_eq, upL_e], ?_⟩, fun t ht => ?_, fun t ht => ?_, fun t ht => ?_, fun t ht => ?_, fun i' k hi hk => ?_⟩, fun z0 t ht => ?_⟩
  · rw [u3_k (by omega), en 0 (by omega)]; exact a0
  · rw [u3_k (by omega), en 1 (by omega)]; exact a1
  · rw [u3_k (by omega), en 50 (by omega)]; exact a3
  · rw [u3_t (by omega), en _ (by omega)]; exact b t ht
  · rw [u3_t (by omega), en _ (by omega)]; exact c t ht
  · rw [en 0 (by omega)] at ht
    rw [u3_t (by omega), en _ (by omega)]; exact w t ht
  · rw [u3_t (by omega), en _ (by omega)]; exact g t ht
  · rw [en _ (by omega)] at hk
    have := hL.1.2.2.2.2.2.2.1 i' hi
    rw [u3_t (by omega), en _ (by omega)]; exact i i' k hi hk
  · rw [en 0 (by omega)] at z0
    rw [u3_t (by omega)]; exact z z0 t ht
theorem LQ_rh {D : DD} {L : Nat → Nat} {a x : Nat} (ha : a < 16) (h : LQ D L) : LQ (u3 D 51 0 a (x : Int)) (upL L (2 + a) x) := by
  obtain ⟨⟨⟨a0, a1, a2, a3⟩, b, c, w, g, i⟩, z⟩ := h
  have en : ∀ k, k ≠ 2 + a → upL L (2 + a) x k = L k := fun k k1 => upL_n k1
  refine ⟨⟨⟨?_, ?_, ?_, ?_⟩, fun t ht => ?_, fun t ht => ?_, fun t ht => ?_, fun t ht => ?_, fun i' k hi hk => ?_⟩, fun z0 t ht => ?_⟩
  · rw [u3_t (by omega), en 0 (by omega)]; exact a0
  · rw [u3_t (by omega), en 1 (by omega)]; exact a1
  · rw [u3_t (by omega), en 151 (by omega)]; exact a2
  · rw [u3_t (by omega), en 50 (by omega)]; exact a3
  · by_cases et : t = a
    · rw [et, u3_eq, upL_e]
    · rw [u3_k et, en _ (by omega)]; exact b t ht
  · rw [u3_t (by omega), en _ (by omega)]; exact c t ht
  · rw [en 0 (by omega)] at ht
    rw [u3_t (by omega), en _ (by omega)]; exact w t ht
  · rw [u3_t (by omega), en _ (by omega)]; exact g t ht
  · rw [en _ (by omega)] at hk
    rw [u3_t (by omega), en _ (by omega)]; exact i i' k hi hk
  · rw [en 0 (by omega)] at z0
    rw [u3_t (by omega)]; exact z z0 t ht
theorem LQ_se {D : DD} {L : Nat → Nat} {a x : Nat} (ha : a < 16) (h : LQ D L) : LQ (u3 D 52 0 a (x : Int)) (upL L (18 + a) x) := by
  obtain ⟨⟨⟨a0, a1, a2, a3⟩, b, c, w, g, i⟩, z⟩ := h
  have en : ∀ k, k ≠ 18 + a → upL L (18 + a) x k = L k := fun k k1 => upL_n k1
  refine ⟨⟨⟨?_, ?_, ?_, ?_⟩, fun t ht => ?_, fun t ht => ?_, fun t ht => ?_, fun t ht => ?_, fun i' k hi hk => ?_⟩, fun z0 t ht => ?_⟩
  · rw [u3_t (by omega), en 0 (by omega)]; exact a0
  · rw [u3_t (by omega), en 1 (by omega)]; exact a1
  · rw [u3_t (by omega), en 151 (by omega)]; exact a2
  · rw [u3_t (by omega), en 50 (by omega)]; exact a3
  · rw [u3_t (by omega), en _ (by omega)]; exact b t ht
  · by_cases et : t = a
    · rw [et, u3_eq, upL_e]
    · rw [u3_k et, en _ (by omega)]; exact c t ht
  · rw [en 0 (by omega)] at ht
    rw [u3_t (by omega), en _ (by omega)]; exact w t ht
  · rw [u3_t (by omega), en _ (by omega)]; exact g t ht
  · rw [en _ (by omega)] at hk
    rw [u3_t (by omega), en _ (by omega)]; exact i i' k hi hk
  · rw [en 0 (by omega)] at z0
    rw [u3_t (by omega)]; exact z z0 t ht
theorem LQ_wo {D : DD} {L : Nat → Nat} {a x : Nat} (ha : a < L 0) (h6 : L 0 ≤ 16) (h : LQ D L) : LQ (u3 D 53 0 a (x : Int)) (upL L (34 + a) x) := by
  obtain ⟨⟨⟨a0, a1, a2, a3⟩, b, c, w, g, i⟩, z⟩ := h
  have en : ∀ k, k ≠ 34 + a → upL L (34 + a) x k = L k := fun k k1 => upL_n k1
  refine ⟨⟨⟨?_, ?_, ?_, ?_⟩, fun t ht => ?_, fun t ht => ?_, fun t ht => ?_, fun t ht => ?_, fun i' k hi hk => ?_⟩, fun z0 t ht => ?_⟩
  · rw [u3_t (by omega), en 0 (by omega)]; exact a0
  · rw [u3_t (by omega), en 1 (by omega)]; exact a1
  · rw [u3_t (by omega), en 151 (by omega)]; exact a2
  · rw [u3_t (by omega), en 50 (by omega)]; exact a3
  · rw [u3_t (by omega), en _ (by omega)]; exact b t ht
  · rw [u3_t (by omega), en _ (by omega)]; exact c t ht
  · rw [en 0 (by omega)] at ht
    by_cases et : t = a
    · rw [et, u3_eq, upL_e]
    · rw [u3_k et, en _ (by omega)]; exact w t ht
  · rw [u3_t (by omega), en _ (by omega)]; exact g t ht
  · rw [en _ (by omega)] at hk
    rw [u3_t (by omega), en _ (by omega)]; exact i i' k hi hk
  · rw [en 0 (by omega)] at z0
    omega
end
