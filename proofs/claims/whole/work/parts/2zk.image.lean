/-! likeness of lores, companies, pieces; calls: image, restore -/
section
def lP (q : Nat) : Nat → Nat → Nat → Prop := fun t i _ => (t = 5 ∨ (51 ≤ t ∧ t ≤ 55)) ∧ i = q
theorem s_C_loreLike {X : Nat × (Nat → Int)} {d : Nat} {D : DD} {a b : Nat} {L : Nat → Nat} (hd : 1 ≤ d) (hab : a ≠ b) (hL : LOK L) (h : LC D b L) : ∃ D', ev X d m_Lore_likeOf [vR 5 a, vR 5 b] (hp D) = some (none, hp D') ∧ LC D' a L ∧ fr (lP a) D D' := by
  obtain ⟨d, rfl⟩ : ∃ e, d = e + 1 := ⟨d - 1, by omega⟩
  have hba : b ≠ a := fun e => hab e.symm
  obtain ⟨⟨h0, h1, h2, h3⟩, h4, h5, h6, h7, h8⟩ := h
  have h16 := hL.1.1
  rw [e_Lore_likeOf, b_Lore_likeOf_0, u3_i hba, u3_i hba, u3_i hba, u3_i hba, u3_i hba, u3_i hba, h0, h1, h2, h3, b_Lore_likeOf_32, b_Lore_likeOf_122]
  refine ⟨_, rfl, ⟨⟨?_, ?_, ?_, ?_⟩, fun t ht => ?_, fun t ht => ?_, fun t ht => ?_, fun i hi => ?_, fun i k hi hk => ?_⟩, ?_⟩
  · simp [cpy_a, u3_a]
  · simp [cpy_a, u3_a]
  · simp [cpy_a, u3_a]
  · simp [cpy_a, u3_a]
  · have : (t : Int) < 16 := by omega
    simp [cpy_a, u3_a, this, h4 t ht]
  · have : (t : Int) < 16 := by omega
    simp [cpy_a, u3_a, this, h5 t ht]
  · have : (t : Int) < 16 := by omega
    simp [cpy_a, u3_a, this, h6 t ht]
  · have : (i : Int) < 10 := by omega
    simp [cpy_a, u3_a, this, h7 i hi]
  · have h9 := hL.2.2.2.2.2.2.1 i hi
    rw [cpy_a, if_pos ⟨rfl, rfl, by omega, by omega⟩, tn (n := 9 * i + k) (by omega)]
    simp only [cpy_a, u3_a]
    rw [if_neg (by omega), if_neg (by omega), if_neg (by omega), if_neg (by omega), if_neg (by omega), if_neg (by omega), if_neg (by omega), if_neg (by omega), h8 i k hi hk]
  · intro t i k hn
    have hn : ¬ ((t = 5 ∨ (51 ≤ t ∧ t ≤ 55)) ∧ i = a) := hn
    simp only [cpy_a, u3_a]
    repeat rw [if_neg (by omega)]
def kB (q : Nat) : Nat := [0, 6, 18, 24].getD q 0
theorem R46 {q k : Nat} (h : k < 6) : R0 46 q k = some (3, kB q + k) := by
  show (if k < 6 then some (3, [0, 6, 18, 24].getD q 0 + k) else none) = _
  rw [if_pos h]
  rfl
def qP (a : Nat) : Nat → Nat → Nat → Prop := fun t i k => (t = 2 ∧ i = a ∧ k = 1) ∨ ((t = 3 ∨ t = 47) ∧ kB a ≤ i ∧ i < kB a + 6)
theorem s_C_compLike {X : Nat × (Nat → Int)} {d : Nat} {D : DD} {a b : Nat} {men : List Cr} (hd : 6 ≤ d) (hab : a ≠ b) (hk : kB a + 6 ≤ kB b ∨ kB b + 6 ≤ kB a) (h6 : men.length ≤ 6) (hok : ∀ v ∈ men, okc v) (hn : D 2 b 1 = (men.length : Int)) (h : ∀ c v, men[c]? = some v → CC D (kB b + c) v) : ∃ D', ev X d m_Company_likeOf [vR 2 a, vR 2 b] (hp D) = some (none, hp D') ∧ (D' 2 a 1 = (men.length : Int) ∧ ∀ c v, men[c]? = some v → CC D' (kB a + c) v) ∧ fr (qP a) D D' := by
  obtain ⟨d, rfl⟩ : ∃ e, d = e + 1 := ⟨d - 1, by omega⟩
  have key : ∀ (m k : Nat) (D1 : DD), k + m = men.length → fr (qP a) D D1 → D1 2 a 1 = (men.length : Int) → (∀ c v, c < k → men[c]? = some v → CC D1 (kB a + c) v) → ∃ D', at_ X d cd_Company_likeOf 10 [vR 2 a, vR 2 b, vI (k : Int)] [] (hp D1) = some (none, hp D') ∧ (D' 2 a 1 = (men.length : Int) ∧ ∀ c v, men[c]? = some v → CC D' (kB a + c) v) ∧ fr (qP a) D D' := by
    intro m
    induction m with
    | zero =>
      intro k D1 hkm hf h1 hc
      rw [b_Company_likeOf_10, h1, if_pos (by omega)]
      exact ⟨D1, rfl, ⟨h1, fun c v hv => hc c v (by have := lt_of_some hv; omega) hv⟩, hf⟩
    | succ m ih =>
      intro k D1 hkm hf h1 hc
      have hlt : k < men.length := by omega
      have hv : men[k]? = some men[k] := List.getElem?_eq_getElem hlt
      have hcb : CC D1 (kB b + k) men[k] := (h k _ hv).fr fun t j ht => hf t _ j (by unfold qP; omega)
      obtain ⟨D2, g1, g2, g3⟩ := s_C_likeOf (X := X) (d := d) (D := D1) (i := kB a + k) (j := kB b + k) (v := men[k]) (w := men[k]) (by omega) (by omega) (hok _ (List.mem_of_getElem? hv)) hcb
      rw [b_Company_likeOf_10, h1, if_neg (by omega), if_pos (by omega), Int.toNat_natCast, R46 (by omega)]
      simp only [ab_rf]
      rw [b_Company_likeOf_24, if_pos (by omega), Int.toNat_natCast, R46 (by omega)]
      simp only [ab_rf]
      rw [b_Company_likeOf_30, g1]
      simp only [ab_cv]
      rw [b_Company_likeOf_33, zb_s (by omega)]
      refine ih (k + 1) D2 (by omega) (hf.tr (g3.mo fun t i j z => Or.inr ⟨z.1, by have := z.2; omega, by have := z.2; omega⟩)) ((g3 2 a 1 (fun z => by have := z.1; omega)).trans h1) fun c v hck hcv => ?_
      by_cases e : c = k
      · subst e
        rw [hv] at hcv
        cases hcv
        exact g2
      · exact (hc c v (by omega) hcv).fr fun t j ht => g3 t _ j (fun z => by have := z.2; omega)
  rw [e_Company_likeOf, b_Company_likeOf_0, hn]
  exact key men.length 0 _ (by omega) ((fr.rf D).u (Or.inl ⟨rfl, rfl, rfl⟩)) (by rw [u3_eq]) (fun c v hc => by omega)
theorem s_C_pieceLike {X : Nat × (Nat → Int)} {d : Nat} {D : DD} {a b : Nat} {ps : List (List Nat)} (hd : 1 ≤ d) (hab : a ≠ b) (h6 : ps.length ≤ 6) (hok : ∀ p ∈ ps, p.length ≤ 8) (hn : D 6 b 0 = (ps.length : Int)) (h : ∀ p l, ps[p]? = some l → D 56 b p = (l.length : Int) ∧ ∀ k, k < l.length → D 57 b (8 * p + k) = (l.getD k 0 : Nat)) : ∃ D', ev X d m_Pieces_likeOf [vR 6 a, vR 6 b] (hp D) = some (none, hp D') ∧ (D' 6 a 0 = (ps.length : Int) ∧ ∀ p l, ps[p]? = some l → D' 56 a p = (l.length : Int) ∧ ∀ k, k < l.length → D' 57 a (8 * p + k) = (l.getD k 0 : Nat)) ∧ fr (fun t i k => i = a ∧ ((t = 6 ∧ k = 0) ∨ t = 56 ∨ t = 57)) D D' := by
  obtain ⟨d, rfl⟩ : ∃ e, d = e + 1 := ⟨d - 1, by omega⟩
  rw [e_Pieces_likeOf, b_Pieces_likeOf_0, hn]
  refine ⟨_, rfl, ⟨?_, fun p l hp9 => ?_⟩, ?_⟩
  · rw [cpy_a, if_neg (by omega), cpy_a, if_neg (by omega), u3_eq]
  · have := lt_of_some hp9
    have := hok l (List.mem_of_getElem? hp9)
    obtain ⟨g1, g2⟩ := h p l hp9
    refine ⟨?_, fun k hk => ?_⟩
    · rw [cpy_a, if_neg (by omega), cpy_a, if_pos (by omega), tn (n := p) (by omega), u3_t (by omega), g1]
    · rw [cpy_a, if_pos (by omega), tn (n := 8 * p + k) (by omega), cpy_a, if_neg (by omega), u3_t (by omega), g2 k hk]
  · intro t i k hn
    rw [cpy_a, if_neg (by omega), cpy_a, if_neg (by omega), u3_a, if_neg (by omega)]
theorem R10_0 {q : Nat} (h : q < 3) : R0 10 q 0 = some (5, q + 1) := by
  match q, h with
  | 0, _ => rfl
  | 1, _ => rfl
  | 2, _ => rfl
def cQ (q : Nat) : Nat := if q = 0 then 0 else q + 1
theorem R10_1 {q : Nat} (h : q < 3) : R0 10 q 1 = some (2, cQ q) := by
  match q, h with
  | 0, _ => rfl
  | 1, _ => rfl
  | 2, _ => rfl
theorem kB_q {q : Nat} (h : q < 3) : kB (cQ q) = if q = 0 then 0 else 12 + 6 * q := by
  match q, h with
  | 0, _ => rfl
  | 1, _ => rfl
  | 2, _ => rfl
/-- the cells of world q -/
def wP (q : Nat) : Nat → Nat → Nat → Prop := fun t i k => lP (q + 1) t i k ∨ qP (cQ q) t i k ∨ (i = q ∧ ((t = 6 ∧ k = 0) ∨ t = 56 ∨ t = 57))
theorem s_C_worldLike {X : Nat × (Nat → Int)} {d : Nat} {D : DD} {a b : Nat} {W : Wd} (hd : 8 ≤ d) (ha : a < 3) (hb : b < 3) (hab : a ≠ b) (hW : WOK W) (h : WC D (b + 1) (cQ b) (kB (cQ b)) b W) : ∃ D', ev X d m_World_likeOf [vR 10 a, vR 10 b] (hp D) = some (none, hp D') ∧ WC D' (a + 1) (cQ a) (kB (cQ a)) a W ∧ fr (wP a) D D' := by
  obtain ⟨d, rfl⟩ : ∃ e, d = e + 1 := ⟨d - 1, by omega⟩
  have ka := kB_q ha
  have kb := kB_q hb
  have qab : cQ a ≠ cQ b := by unfold cQ; split <;> split <;> omega
  obtain ⟨h1, h2, h3, h4, h5⟩ := h
  obtain ⟨o1, o2, o3, o4, o5, o6⟩ := hW
  obtain ⟨D1, a1, a2, a3⟩ := s_C_loreLike (X := X) (d := d) (D := D) (a := a + 1) (b := b + 1) (by omega) (by omega) o1 h1
  have hn1 : D1 2 (cQ b) 1 = (W.2.1.length : Int) := (a3 2 _ 1 (by unfold lP; omega)).trans h2
  obtain ⟨D2, b1, b2, b3⟩ := s_C_compLike (X := X) (d := d) (D := D1) (a := cQ a) (b := cQ b) (men := W.2.1) (by omega) qab (by rw [ka, kb]; split <;> split <;> omega) o2 o3 hn1 (fun c v hv => (h3 c v hv).fr fun t k ht => a3 t _ k (by unfold lP; omega))
  have hq2 : ∀ t i k, t = 6 ∨ t = 56 ∨ t = 57 → D2 t i k = D t i k := fun t i k ht => (b3 t i k (by unfold qP; omega)).trans (a3 t i k (by unfold lP; omega))
  obtain ⟨D3, c1, c2, c3⟩ := s_C_pieceLike (X := X) (d := d) (D := D2) (a := a) (b := b) (ps := W.2.2) (by omega) hab o5 (fun p hp9 => (o6 p hp9).2.1) ((hq2 _ _ _ (by omega)).trans h4) (fun p l hp9 => by
    obtain ⟨g1, g2⟩ := h5 p l hp9
    exact ⟨(hq2 _ _ _ (by omega)).trans g1, fun k hk => (hq2 _ _ _ (by omega)).trans (g2 k hk)⟩)
  rw [e_World_likeOf, b_World_likeOf_0, R10_0 ha]
  simp only [ab_rf]
  rw [b_World_likeOf_4, R10_0 hb]
  simp only [ab_rf]
  rw [b_World_likeOf_8, a1]
  simp only [ab_cv]
  rw [b_World_likeOf_11, R10_1 ha]
  simp only [ab_rf]
  rw [b_World_likeOf_15, R10_1 hb]
  simp only [ab_rf]
  rw [b_World_likeOf_19, b1]
  simp only [ab_cv]
  rw [b_World_likeOf_22, c1]
  simp only [ab_cv]
  rw [b_World_likeOf_33]
  refine ⟨D3, rfl, ⟨?_, ?_, fun c v hv => ?_, c2.1, c2.2⟩, ?_⟩
  · exact a2.on fun t k ht => (c3 t _ k (by omega)).trans (b3 t _ k (by unfold qP; omega))
  · exact (c3 2 _ 1 (by omega)).trans b2.1
  · exact (b2.2 c v hv).fr fun t k ht => c3 t _ k (by omega)
  · exact ((a3.mo fun t i k z => Or.inl z).tr (b3.mo fun t i k z => Or.inr (Or.inl z))).tr (c3.mo fun t i k z => Or.inr (Or.inr z))
def stI (S : St) (i : Nat) : St := (S.1, (fun k => if k = i then some (sW S) else sI S k), S.2.2)
def f_image (S : St) (x : Int) : Int × St := if 0 ≤ x ∧ x < 2 then (0, stI S x.toNat) else (-2, S)
theorem C_image {X : Nat × (Nat → Int)} {d : Nat} {D : DD} {S : St} {x : Int} (hd : 10 ≤ d) (hS : SOK S) (hC : CH D S) : cRes X d m_N_image [vI x] D (f_image S x) := by
  obtain ⟨d, rfl⟩ : ∃ e, d = e + 1 := ⟨d - 1, by omega⟩
  unfold cRes f_image
  rw [e_N_image, b_N_image_0]
  by_cases h1 : 0 ≤ x ∧ x < 2
  · obtain ⟨i, rfl⟩ : ∃ t : Nat, x = (t : Int) := ⟨x.toNat, by omega⟩
    rw [if_neg (by omega), if_pos (by omega), if_pos (by omega), Int.toNat_natCast, R20 (by omega), if_pos h1]
    simp only [ab_rf]
    have k1 : kB (cQ (i + 1)) = 18 + 6 * i := by rw [kB_q (by omega), if_neg (by omega)]; omega
    have c1 : cQ (i + 1) = i + 2 := by unfold cQ; rw [if_neg (by omega)]
    obtain ⟨D1, g1, g2, g3⟩ := s_C_worldLike (X := X) (d := d) (D := D) (a := i + 1) (b := 0) (W := sW S) (by omega) (by omega) (by omega) (by omega) hS.1 hC.1
    have hn : ∀ t j k, ¬ ((t = 5 ∨ (51 ≤ t ∧ t ≤ 55)) ∧ j = i + 2) → ¬ (t = 2 ∧ j = i + 2 ∧ k = 1) → ¬ ((t = 3 ∨ t = 47) ∧ 18 + 6 * i ≤ j ∧ j < 18 + 6 * i + 6) → ¬ (j = i + 1 ∧ ((t = 6 ∧ k = 0) ∨ t = 56 ∨ t = 57)) → ¬ (t = 10 ∧ j = i + 1 ∧ k = 3) → u3 D1 10 (i + 1) 3 1 t j k = D t j k := by
      intro t j k n1 n2 n3 n4 n5
      rw [u3_a, if_neg n5]
      refine g3 t j k (fun z => ?_)
      rcases z with z | z | z
      · exact n1 z
      · rcases z with z | z
        · rw [c1] at z; exact n2 z
        · rw [k1] at z; exact n3 z
      · exact n4 z
    rw [k1, c1] at g2
    rw [b_N_image_22, g1]
    simp only [ab_cv]
    rw [b_N_image_29, if_pos (by omega), Int.toNat_natCast, R20 (by omega)]
    simp only [ab_rf]
    rw [b_N_image_35]
    obtain ⟨q1, q2, q3, q4⟩ := hC
    refine ⟨_, rfl, ⟨q1.on hS.1 (fun t k ht => hn t _ k (by omega) (by omega) (by omega) (by omega) (by omega)) (hn _ _ _ (by omega) (by omega) (by omega) (by omega) (by omega)) (fun t j k ht _ _ => hn t j k (by omega) (by omega) (by omega) (by omega) (by omega)) (hn _ _ _ (by omega) (by omega) (by omega) (by omega) (by omega)) (fun t k ht => hn t _ k (by omega) (by omega) (by omega) (by omega) (by omega)), fun j hj => ?_, fun r hr => (q3 r hr).on fun t k ht => hn t _ k (by omega) (by omega) (by omega) (by omega) (by omega), q4.on (fun k hk => hn _ _ _ (by omega) (by omega) (by omega) (by omega) (by omega)) (fun k => hn _ _ _ (by omega) (by omega) (by omega) (by omega) (by omega))⟩, ?_⟩
    · show IC _ j (if j = i then some (sW S) else sI S j)
      by_cases e : j = i
      · subst e
        rw [if_pos rfl]
        exact ⟨u3_eq _ _ _ _ _, g2.on hS.1 (fun t k ht => by rw [u3_t (by omega)]) (by rw [u3_t (by omega)]) (fun t j k ht _ _ => by rw [u3_t (by omega)]) (by rw [u3_t (by omega)]) (fun t k ht => by rw [u3_t (by omega)])⟩
      · rw [if_neg e]
        have hh := q2 j hj
        have ho := hS.2.1 j hj
        cases hq : sI S j with
        | none =>
          rw [hq] at hh
          exact (hn _ _ _ (by omega) (by omega) (by omega) (by omega) (by omega)).trans hh
        | some W =>
          rw [hq] at hh ho
          exact ⟨(hn _ _ _ (by omega) (by omega) (by omega) (by omega) (by omega)).trans hh.1, hh.2.on ho (fun t k ht => hn t _ k (by omega) (by omega) (by omega) (by omega) (by omega)) (hn _ _ _ (by omega) (by omega) (by omega) (by omega) (by omega)) (fun t j k ht _ _ => hn t j k (by omega) (by omega) (by omega) (by omega) (by omega)) (hn _ _ _ (by omega) (by omega) (by omega) (by omega) (by omega)) (fun t k ht => hn t _ k (by omega) (by omega) (by omega) (by omega) (by omega))⟩
    · intro t j k hz
      unfold cY at hz
      exact hn t j k (by omega) (by omega) (by omega) (by omega) (by omega)
  · rw [if_neg h1, if_neg h1]
    refine ⟨D, ?_, hC, fr.rf D⟩
    by_cases h2 : x < 0
    · rw [if_pos h2]
    · rw [if_neg h2, if_neg (by omega)]
theorem WM.cp {D D' : DD} {b b' : Nat} {W : Wd} (hW : WOK W) (h : WM D b W) (e : ∀ k, k < 411 → D' 22 0 (b' + k) = D 22 0 (b + k)) : WM D' b' W := by
  obtain ⟨h1, h2, h3, h4, h5⟩ := h
  obtain ⟨o1, o2, o3, o4, o5, o6⟩ := hW
  refine ⟨fun k hk => (e k (by omega)).trans (h1 k hk), (e _ (by omega)).trans h2, fun c v hv => ?_, (e _ (by omega)).trans h4, fun p l hp9 => ?_⟩
  · have hlt := lt_of_some hv
    have ok := o3 v (List.mem_of_getElem? hv)
    have o9 : (cL v).length ≤ 9 := Nat.le_trans ok.2.2.2 ok.1.2.1
    obtain ⟨a0, a1, a2, a3, a4, a5⟩ := h3 c v hv
    refine ⟨(e _ (by omega)).trans a0, ?_, ?_, ?_, fun k hk => ?_, fun t ht => ?_⟩
    · rw [Nat.add_assoc, e _ (by omega), ← Nat.add_assoc, a1]
    · rw [Nat.add_assoc, e _ (by omega), ← Nat.add_assoc, a2]
    · rw [Nat.add_assoc, e _ (by omega), ← Nat.add_assoc, a3]
    · have := e (153 + 29 * c + 4 + k) (by omega)
      rw [show b' + (153 + 29 * c + 4 + k) = b' + (153 + 29 * c) + 4 + k by omega, show b + (153 + 29 * c + 4 + k) = b + (153 + 29 * c) + 4 + k by omega] at this
      rw [this, a4 k hk]
    · have := e (153 + 29 * c + 13 + t) (by omega)
      rw [show b' + (153 + 29 * c + 13 + t) = b' + (153 + 29 * c) + 13 + t by omega, show b + (153 + 29 * c + 13 + t) = b + (153 + 29 * c) + 13 + t by omega] at this
      rw [this, a5 t ht]
  · have := lt_of_some hp9
    have := o6 l (List.mem_of_getElem? hp9)
    obtain ⟨g1, g2⟩ := h5 p l hp9
    exact ⟨(e _ (by omega)).trans g1, fun k hk => (e _ (by omega)).trans (g2 k hk)⟩
theorem M_image {X : Nat × (Nat → Int)} {d : Nat} {D : DD} {S : St} {x : Int} (hd : 10 ≤ d) (hS : SOK S) (hM : MH D S) : mRes X d m_M_image [vI x] D (f_image S x) := by
  obtain ⟨d, rfl⟩ : ∃ e, d = e + 1 := ⟨d - 1, by omega⟩
  have hM := hM.th hS
  unfold mRes f_image
  rw [e_M_image, b_M_image_0, s_M_within (by omega)]
  simp only [ab_ci]
  rw [b_M_image_12]
  by_cases h1 : 0 ≤ x ∧ x ≤ 1
  · obtain ⟨i, rfl⟩ : ∃ t : Nat, x = (t : Int) := ⟨x.toNat, by omega⟩
    rw [if_pos h1, if_pos (by decide), if_pos (show (0 : Int) ≤ (i : Int) ∧ (i : Int) < 2 by omega), Int.toNat_natCast]
    have hT := th_mY D
    generalize u3 D 12 0 0 0 = D0 at hM hT ⊢
    have key : ∀ (m k : Nat) (D1 : DD), k + m = 411 → fr (fun t j k => t = 22 ∧ j = 0 ∧ 411 * (i + 1) ≤ k ∧ k < 411 * (i + 1) + 411) D0 D1 → (∀ j, j < k → D1 22 0 (411 * (i + 1) + j) = D0 22 0 (0 + j)) → ∃ D', at_ X d cd_M_image 20 [vR 12 0, vI (i : Int), vI (k : Int)] [] (hp D1) = some (some (vI 0), hp (u3 D' 23 0 i 1)) ∧ fr (fun t j k => t = 22 ∧ j = 0 ∧ 411 * (i + 1) ≤ k ∧ k < 411 * (i + 1) + 411) D0 D' ∧ (∀ j, j < 411 → D' 22 0 (411 * (i + 1) + j) = D0 22 0 (0 + j)) := by
      intro m
      induction m with
      | zero =>
        intro k D1 hk hf hj
        rw [b_M_image_20, if_pos (by omega), if_pos (by omega), Int.toNat_natCast]
        exact ⟨D1, rfl, hf, fun j h => hj j (by omega)⟩
      | succ m ih =>
        intro k D1 hk hf hj
        rw [b_M_image_20, if_neg (by omega), if_pos (by omega), zb_s (by omega), zb_w (n := 411 * ((i + 1 : Nat) : Int)) (by omega) (by omega), zb_w (n := 411 * ((i + 1 : Nat) : Int) + (k : Int)) (by omega) (by omega), if_pos (by omega), zb_s (by omega), tn (n := 411 * (i + 1) + k) (by omega), Int.toNat_natCast]
        refine ih (k + 1) _ (by omega) (hf.u ⟨rfl, rfl, by omega, by omega⟩) fun j hj' => ?_
        by_cases e : j = k
        · subst e; rw [u3_eq, hf 22 0 j (by omega), Nat.zero_add]
        · rw [u3_k (by omega), hj j (by omega)]
    obtain ⟨D1, g1, g2, g3⟩ := key 411 0 D0 (by omega) (fr.rf D0) (fun j h => by omega)
    obtain ⟨q1, q2, q3, q4⟩ := hM
    have hn : ∀ t j k, ¬ (t = 22 ∧ j = 0 ∧ 411 * (i + 1) ≤ k ∧ k < 411 * (i + 1) + 411) → ¬ (t = 23 ∧ j = 0 ∧ k = i) → u3 D1 23 0 i 1 t j k = D0 t j k := by
      intro t j k n1 n2
      rw [u3_a, if_neg n2]
      exact g2 t j k n1
    refine ⟨_, g1, ⟨q1.on hS.1 fun k _ k2 _ => hn _ _ _ (by omega) (by omega), fun j hj => ?_, fun r hr => (q3 r hr).on fun t k ht => hn _ _ _ (by omega) (by omega), q4.on (hn _ _ _ (by omega) (by omega)) (hn _ _ _ (by omega) (by omega)) (hn _ _ _ (by omega) (by omega)) (fun k => hn _ _ _ (by omega) (by omega))⟩, hT.tr fun t j k hz => ?_⟩
    · show IM _ j (if j = i then some (sW S) else sI S j)
      by_cases e : j = i
      · subst e
        rw [if_pos rfl]
        exact ⟨u3_eq _ _ _ _ _, q1.cp hS.1 fun k hk => by rw [u3_t (by omega), g3 k hk]⟩
      · rw [if_neg e]
        exact (q2 j hj).on (hS.2.1 j hj) (hn _ _ _ (by omega) (by omega)) (fun k k1 k2 => hn _ _ _ (by omega) (by omega))
    · unfold mY at hz
      exact hn t j k (by omega) (by omega)
  · rw [if_neg h1, if_neg (by decide), if_neg (by omega)]
    exact ⟨_, rfl, hM, th_mY D⟩
theorem ok_image {S : St} {x : Int} (hS : SOK S) : SOK (f_image S x).2 := by
  unfold f_image
  split
  · obtain ⟨h1, h2, h3⟩ := hS
    refine ⟨h1, fun i hi => ?_, h3⟩
    show oOK (if i = x.toNat then some (sW S) else sI S i)
    split
    · exact h1
    · exact h2 i hi
  · exact hS
-- restore
def f_restore (S : St) (x : Int) : Int × St := if 0 ≤ x ∧ x < 2 then (match sI S x.toNat with
  | none => (-5, S)
  | some W => (0, (W, S.2))) else (-2, S)
theorem C_restore {X : Nat × (Nat → Int)} {d : Nat} {D : DD} {S : St} {x : Int} (hd : 10 ≤ d) (hS : SOK S) (hC : CH D S) : cRes X d m_N_restore [vI x] D (f_restore S x) := by
  obtain ⟨d, rfl⟩ : ∃ e, d = e + 1 := ⟨d - 1, by omega⟩
  unfold cRes f_restore
  rw [e_N_restore, b_N_restore_0]
  by_cases h1 : 0 ≤ x ∧ x < 2
  · obtain ⟨i, rfl⟩ : ∃ t : Nat, x = (t : Int) := ⟨x.toNat, by omega⟩
    have hi := hC.2.1 i (by omega)
    have ho := hS.2.1 i (by omega)
    rw [if_neg (by omega), if_pos (by omega), if_pos (by omega), Int.toNat_natCast, R20 (by omega), if_pos h1]
    simp only [ab_rf]
    rw [b_N_restore_22]
    cases hq : sI S i with
    | none =>
      rw [hq] at hi
      have hi : D 10 (i + 1) 3 = 0 := hi
      rw [hi, if_neg (by decide)]
      exact ⟨D, rfl, hC, fr.rf D⟩
    | some W =>
      rw [hq] at hi ho
      have k1 : kB (cQ (i + 1)) = 18 + 6 * i := by rw [kB_q (by omega), if_neg (by omega)]; omega
      have c1 : cQ (i + 1) = i + 2 := by unfold cQ; rw [if_neg (by omega)]
      have hw : WC D (i + 1 + 1) (cQ (i + 1)) (kB (cQ (i + 1))) (i + 1) W := by rw [k1, c1]; exact hi.2
      obtain ⟨D1, g1, g2, g3⟩ := s_C_worldLike (X := X) (d := d) (D := D) (a := 0) (b := i + 1) (W := W) (by omega) (by omega) (by omega) (by omega) ho hw
      have hn : ∀ t j k, ¬ ((t = 5 ∨ (51 ≤ t ∧ t ≤ 55)) ∧ j = 1) → ¬ (t = 2 ∧ j = 0) → ¬ ((t = 3 ∨ t = 47) ∧ j < 6) → ¬ (j = 0 ∧ (t = 6 ∨ (56 ≤ t ∧ t ≤ 60))) → D1 t j k = D t j k := by
        intro t j k n1 n2 n3 n4
        refine g3 t j k (fun z => ?_)
        rcases z with z | z | z
        · exact n1 z
        · rcases z with z | z
          · exact n2 ⟨z.1, z.2.1⟩
          · exact n3 ⟨z.1, z.2.2⟩
        · exact n4 ⟨z.1, by have := z.2; omega⟩
      rw [hi.1, if_pos (by decide), if_pos (by omega), Int.toNat_natCast, R20 (by omega)]
      simp only [ab_rf]
      rw [b_N_restore_41, g1]
      simp only [ab_cv]
      rw [b_N_restore_44]
      obtain ⟨q1, q2, q3, q4⟩ := hC
      refine ⟨D1, rfl, ⟨g2, fun j hj => (q2 j hj).on hj (hS.2.1 j hj) fun t j k _ n3 _ _ _ _ n5 n2 n6 _ => hn t j k n5 n2 n3 (by omega), fun r hr => (q3 r hr).on fun t k ht => hn t _ k (by omega) (by omega) (by omega) (by omega), q4.on (fun k hk => hn _ _ _ (by omega) (by omega) (by omega) (by omega)) (fun k => hn _ _ _ (by omega) (by omega) (by omega) (by omega))⟩, fun t j k hz => ?_⟩
      unfold cY at hz
      exact hn t j k (by omega) (by omega) (by omega) (by omega)
  · rw [if_neg h1, if_neg h1]
    refine ⟨D, ?_, hC, fr.rf D⟩
    by_cases h2 : x < 0
    · rw [if_pos h2]
    · rw [if_neg h2, if_neg (by omega)]
theorem M_restore {X : Nat × (Nat → Int)} {d : Nat} {D : DD} {S : St} {x : Int} (hd : 10 ≤ d) (hS : SOK S) (hM : MH D S) : mRes X d m_M_restore [vI x] D (f_restore S x) := by
  obtain ⟨d, rfl⟩ : ∃ e, d = e + 1 := ⟨d - 1, by omega⟩
  have hM := hM.th hS
  unfold mRes f_restore
  rw [e_M_restore, b_M_restore_0, s_M_within (by omega)]
  simp only [ab_ci]
  rw [b_M_restore_12]
  by_cases h1 : 0 ≤ x ∧ x ≤ 1
  · obtain ⟨i, rfl⟩ : ∃ t : Nat, x = (t : Int) := ⟨x.toNat, by omega⟩
    have hi := hM.2.1 i (by omega)
    have ho := hS.2.1 i (by omega)
    rw [if_pos h1, if_pos (by decide), if_pos (show (0 : Int) ≤ (i : Int) ∧ (i : Int) < 2 by omega), if_pos (show (0 : Int) ≤ (i : Int) ∧ (i : Int) < 2 by omega), Int.toNat_natCast]
    cases hq : sI S i with
    | none =>
      rw [hq] at hi
      have hi : u3 D 12 0 0 0 23 0 i = 0 := hi
      rw [hi, if_neg (by decide)]
      exact ⟨_, rfl, hM, th_mY D⟩
    | some W =>
      rw [hq] at hi ho
      rw [hi.1, if_pos (by decide)]
      have hT := th_mY D
      generalize u3 D 12 0 0 0 = D0 at hM hT hi ⊢
      have key : ∀ (m k : Nat) (D1 : DD), k + m = 411 → fr (fun t j k => t = 22 ∧ j = 0 ∧ k < 411) D0 D1 → (∀ j, j < k → D1 22 0 (0 + j) = D0 22 0 (411 * (i + 1) + j)) → ∃ D', at_ X d cd_M_restore 32 [vR 12 0, vI (i : Int), vI (k : Int)] [] (hp D1) = some (some (vI 0), hp D') ∧ fr (fun t j k => t = 22 ∧ j = 0 ∧ k < 411) D0 D' ∧ (∀ j, j < 411 → D' 22 0 (0 + j) = D0 22 0 (411 * (i + 1) + j)) := by
        intro m
        induction m with
        | zero =>
          intro k D1 hk hf hj
          rw [b_M_restore_32, if_pos (by omega)]
          exact ⟨D1, rfl, hf, fun j h => hj j (by omega)⟩
        | succ m ih =>
          intro k D1 hk hf hj
          rw [b_M_restore_32, if_neg (by omega), zb_s (by omega), zb_w (n := 411 * ((i + 1 : Nat) : Int)) (by omega) (by omega), zb_w (n := 411 * ((i + 1 : Nat) : Int) + (k : Int)) (by omega) (by omega), if_pos (by omega), if_pos (by omega), zb_s (by omega), Int.toNat_natCast, tn (n := 411 * (i + 1) + k) (by omega)]
          refine ih (k + 1) _ (by omega) (hf.u ⟨rfl, rfl, by omega⟩) fun j hj' => ?_
          by_cases e : j = k
          · subst e; rw [Nat.zero_add, u3_eq, hf 22 0 _ (by omega)]
          · rw [Nat.zero_add, u3_k e, ← hj j (by omega), Nat.zero_add]
      obtain ⟨D1, g1, g2, g3⟩ := key 411 0 D0 (by omega) (fr.rf D0) (fun j h => by omega)
      have hn : ∀ t j k, ¬ (t = 22 ∧ j = 0 ∧ k < 411) → D1 t j k = D0 t j k := fun t j k n => g2 t j k n
      obtain ⟨q1, q2, q3, q4⟩ := hM
      refine ⟨D1, g1, ⟨hi.2.cp ho g3, fun j hj => (q2 j hj).on (hS.2.1 j hj) (hn _ _ _ (by omega)) (fun k k1 k2 => hn _ _ _ (by omega)), fun r hr => (q3 r hr).on fun t k ht => hn _ _ _ (by omega), q4.on (hn _ _ _ (by omega)) (hn _ _ _ (by omega)) (hn _ _ _ (by omega)) (fun k => hn _ _ _ (by omega))⟩, hT.tr fun t j k hz => ?_⟩
      unfold mY at hz
      exact hn t j k (by omega)
  · rw [if_neg h1, if_neg (by decide), if_neg (by omega)]
    exact ⟨_, rfl, hM, th_mY D⟩
theorem ok_restore {S : St} {x : Int} (hS : SOK S) : SOK (f_restore S x).2 := by
  unfold f_restore
  split
  · rename_i h
    have ho := hS.2.1 x.toNat (by omega)
    cases hq : sI S x.toNat with
    | none => exact hS
    | some W =>
      rw [hq] at ho
      exact ⟨ho, hS.2⟩
  · exact hS
end
