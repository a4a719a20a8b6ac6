/-! deliver, empties, triesAs, isMan of the reference; who is there; what the state's parts give -/
section
def dP (b : Nat) : Nat → Nat → Nat → Prop := fun t i k => mP b t i k ∨ t = 26
theorem s_M_deliver {X : Nat × (Nat → Int)} {d : Nat} {D : DD} {c : Nat} {v : Cr} {L : Nat → Nat} (hd : 6 ≤ d) (hc : c ≤ 6) (hL : LOK L) (hl : LM D L) (hv : okc v) (h : MC D (mB c) v) : ∃ D', ev X d m_M_deliver [vR 12 0, vI (c : Int)] (hp D) = some (some (vI ((delV L v).2 : Int)), hp D') ∧ MC D' (mB c) (delV L v).1 ∧ fr (dP (mB c)) D D' := by
  obtain ⟨d, rfl⟩ : ∃ e, d = e + 1 := ⟨d - 1, by omega⟩
  have hmb : mB c = 153 + 29 * c := rfl
  have o5 := hv.2.2.1
  have o6 := hv.2.2.2
  have o2 := hv.1.2.1
  have cpy : ∀ (m k : Nat) (D : DD), k + m = (cL v).length → MC D (mB c) v → (∀ j, j < k → D 26 0 j = ((cL v).getD j 0 : Nat)) → ∃ D', at_ X d cd_M_deliver 8 [vR 12 0, vI (c : Int), vI ((cL v).length : Int), vI (k : Int), vU] [] (hp D) = at_ X d cd_M_deliver 38 [vR 12 0, vI (c : Int), vI ((cL v).length : Int), vI 0, vI (((cL v).length : Int) - 1)] [] (hp D') ∧ (∀ j, j < (cL v).length → D' 26 0 j = ((cL v).getD j 0 : Nat)) ∧ fr (fun t _ _ => t = 26) D D' := by
    intro m
    induction m with
    | zero =>
      intro k D hk hm hj
      rw [b_M_deliver_8, if_pos (by omega), zb_w (by omega) (by omega)]
      exact ⟨D, rfl, fun j h => hj j (by omega), fr.rf D⟩
    | succ m ih =>
      intro k D hk hm hj
      rw [b_M_deliver_8, if_neg (by omega), s_M_thingAt (by omega) hc hm (by omega) (by omega)]
      simp only [ab_ci]
      rw [b_M_deliver_24, if_pos (by omega), zb_s (by omega), Int.toNat_natCast]
      have f1 : fr (fun t _ _ => t = 26) D (u3 D 26 0 k ((cL v).getD k 0 : Nat)) := (fr.rf D).u rfl
      obtain ⟨D', g1, g2, g3⟩ := ih (k + 1) _ (by omega) (hm.fr hv fun k' _ _ => f1 22 0 k' (by omega)) (fun j h => by
        by_cases e : j = k
        · subst e; rw [u3_eq]
        · rw [u3_k e, hj j (by omega)])
      exact ⟨D', g1, g2, f1.tr g3⟩
  have key : ∀ (m : Nat) (D : DD) (z : Cr × Nat) (v2 : ab_V), m ≤ (cL v).length → LM D L → (∀ j, j < (cL v).length → D 26 0 j = ((cL v).getD j 0 : Nat)) → okc z.1 → z.2 < 65536 → MC D (mB c) z.1 → ∃ D', at_ X d cd_M_deliver 38 [vR 12 0, vI (c : Int), v2, vI (z.2 : Int), vI ((m : Int) - 1)] [] (hp D) = some (some (vI ((((cL v).take m).reverse.foldl (dlF L) z).2 : Int)), hp D') ∧ MC D' (mB c) (((cL v).take m).reverse.foldl (dlF L) z).1 ∧ fr (mP (mB c)) D D' := by
    intro m
    induction m with
    | zero =>
      intro D z v2 hm hl hst oz lz hz
      rw [b_M_deliver_38, if_pos (by omega)]
      exact ⟨D, rfl, hz, fr.rf D⟩
    | succ m ih =>
      intro D z v2 hm hl hst oz lz hz
      have ht : (cL v).getD m 0 < 16 := o5 _ (List.mem_of_getElem? (getD_some (by omega)))
      have oz9 : (cL z.1).length ≤ 9 := Nat.le_trans oz.2.2.2 oz.1.2.1
      have e26 := hst m (by omega)
      rw [show ((m + 1 : Nat) : Int) - 1 = (m : Int) by omega, b_M_deliver_38, if_neg (by omega), if_pos (by omega), Int.toNat_natCast, e26, s_M_has (by omega) hc hz oz9]
      simp only [ab_ci]
      rw [b_M_deliver_55, rev_take (by omega), List.foldl_cons]
      generalize (cL v).getD m 0 = t at ht e26 ⊢
      obtain ⟨oz', lz'⟩ := dlF_ok hL ht oz lz
      by_cases hm2 : t ∈ cL z.1
      · have ed : dlF L z t = (sayV L z.1 t, z.2 ||| (2 ^ t ||| L (2 + t))) := by unfold dlF; rw [if_pos hm2]
        obtain ⟨D1, g1, g2, g3⟩ := s_M_say (X := X) (d := d) (D := D) (c := c) (t := t) (v := z.1) (L := L) (by omega) hc hL hl oz hz ht
        have h3 : 2 ^ t < 2 ^ 16 := zb_p2 ht
        have h4 := hL.r ht
        have h5 : 2 ^ t ||| L (2 + t) < 2 ^ 16 := Nat.or_lt_two_pow h3 h4
        have q26 : ∀ j, D1 26 0 j = D 26 0 j := fun j => g3 26 0 j (fun z => by have := z.1; omega)
        rw [if_pos hm2, if_pos (by omega), if_pos (by omega), Int.toNat_natCast, e26, g1]
        simp only [ab_ci]
        rw [b_M_deliver_73, if_pos (by omega), if_pos (by omega), Int.toNat_natCast, q26, e26, zb_w (n := 2 + (t : Int)) (by omega) (by omega), if_pos (by omega), tn (n := 2 + t) (by omega), hl.fm (by omega) g3 (2 + t) (by omega), zb_sl (by omega), zb_or (by omega) (by omega), zb_or (by omega) (by omega), b_M_deliver_101, zb_w (by omega) (by omega), show (m : Int) + -1 = (m : Int) - 1 by omega]
        rw [ed] at oz' lz' ⊢
        obtain ⟨D2, k1, k2, k3⟩ := ih D1 (sayV L z.1 t, z.2 ||| (2 ^ t ||| L (2 + t))) vU (by omega) (hl.fm (by omega) g3) (fun j hj => (q26 j).trans (hst j hj)) oz' lz' g2
        exact ⟨D2, k1, k2, g3.tr k3⟩
      · have ed : dlF L z t = z := by unfold dlF; rw [if_neg hm2]
        rw [if_neg hm2, if_neg (by omega), b_M_deliver_101, zb_w (by omega) (by omega), show (m : Int) + -1 = (m : Int) - 1 by omega, ed]
        exact ih D z vU (by omega) hl hst oz lz hz
  rw [e_M_deliver, b_M_deliver_0, s_M_many (by omega) hc h]
  simp only [ab_ci]
  rw [b_M_deliver_5]
  obtain ⟨D1, g1, g2, g3⟩ := cpy (cL v).length 0 D (by omega) h (fun j h => by omega)
  rw [show ((0 : Nat) : Int) = 0 from rfl] at g1
  rw [g1]
  obtain ⟨D2, k1, k2, k3⟩ := key (cL v).length D1 (v, 0) (vI ((cL v).length : Int)) (Nat.le_refl _) (hl.on fun k _ => g3 22 0 k (by omega)) g2 hv (by show 0 < 65536; omega) (h.fr hv fun k _ _ => g3 22 0 k (by omega))
  rw [List.take_of_length_le (Nat.le_refl _)] at k1 k2
  exact ⟨D2, k1, k2, (g3.mo fun t i k z => Or.inr z).tr (k3.mo fun t i k z => Or.inl z)⟩
theorem s_M_empties {X : Nat × (Nat → Int)} {d : Nat} {D : DD} {c n : Nat} (hd : 2 ≤ d) (hc : c ≤ 6) : ∃ D', ev X d m_M_empties [vR 12 0, vI (c : Int), vI (n : Int)] (hp D) = some (none, hp D') ∧ MC D' (mB c) (emV n) ∧ fr (mP (mB c)) D D' := by
  obtain ⟨d, rfl⟩ : ∃ e, d = e + 1 := ⟨d - 1, by omega⟩
  have hmb : mB c = 153 + 29 * c := rfl
  have key : ∀ (m k : Nat) (D : DD) (v1 : ab_V), k + m = 29 → (∀ j, j < k → D 22 0 (mB c + j) = if j < 13 then 0 else -1) → ∃ D', at_ X d cd_M_empties 8 [vR 12 0, v1, vI (n : Int), vI ((mB c : Nat) : Int), vI (k : Int)] [] (hp D) = some (none, hp (u3 D' 22 0 (mB c) (n : Int))) ∧ (∀ j, j < 29 → D' 22 0 (mB c + j) = if j < 13 then 0 else -1) ∧ fr (mP (mB c)) D D' := by
    intro m
    induction m with
    | zero =>
      intro k D v1 hk hj
      rw [b_M_empties_8, if_pos (by omega), Int.add_zero, zb_w (by omega) (by omega), if_pos (by omega), Int.toNat_natCast]
      exact ⟨D, rfl, fun j h => hj j (by omega), fr.rf D⟩
    | succ m ih =>
      intro k D v1 hk hj
      have f1 : ∀ x : Int, fr (mP (mB c)) D (u3 D 22 0 (mB c + k) x) := fun x => (fr.rf D).u ⟨rfl, rfl, by omega, by omega⟩
      rw [b_M_empties_8, if_neg (by omega)]
      have go : ∀ x : Int, (x = if k < 13 then 0 else -1) → ∃ D', at_ X d cd_M_empties 35 [vR 12 0, vU, vI (n : Int), vI ((mB c : Nat) : Int), vI (k : Int)] [vI x, vI (w32 (((mB c : Nat) : Int) + (k : Int))), vR 22 0] (hp D) = some (none, hp (u3 D' 22 0 (mB c) (n : Int))) ∧ (∀ j, j < 29 → D' 22 0 (mB c + j) = if j < 13 then 0 else -1) ∧ fr (mP (mB c)) D D' := by
        intro x hx
        rw [b_M_empties_35, zb_w (n := ((mB c : Nat) : Int) + (k : Int)) (by omega) (by omega), if_pos (by omega), zb_s (by omega), tn (n := mB c + k) (by omega)]
        obtain ⟨D', g1, g2, g3⟩ := ih (k + 1) (u3 D 22 0 (mB c + k) x) vU (by omega) (fun j h => by
          by_cases e : j = k
          · subst e; rw [u3_eq, hx]
          · rw [u3_k (by omega), hj j (by omega)])
        exact ⟨D', g1, g2, (f1 x).tr g3⟩
      by_cases h13 : k < 13
      · rw [if_neg (by omega)]
        exact go 0 (by rw [if_pos h13])
      · rw [if_pos (by omega)]
        exact go (-1) (by rw [if_neg h13])
  rw [e_M_empties, b_M_empties_0, s_M_manAt (by omega) hc]
  simp only [ab_ci]
  rw [b_M_empties_4]
  obtain ⟨D', g1, g2, g3⟩ := key 29 0 D (vI (c : Int)) (by omega) (fun j h => by omega)
  refine ⟨_, g1, ⟨by rw [u3_eq]; rfl, ?_, ?_, ?_, fun k hk => (Nat.not_lt_zero k hk).elim, fun t ht => ?_⟩, g3.u ⟨rfl, rfl, by omega, by omega⟩⟩
  · rw [u3_k (by omega), g2 1 (by omega)]; rfl
  · rw [u3_k (by omega), g2 2 (by omega)]; rfl
  · rw [u3_k (by omega), g2 3 (by omega)]; rfl
  · rw [u3_k (by omega), Nat.add_assoc, g2 (13 + t) (by omega), if_neg (by omega)]; rfl
theorem s_M_triesAs {X : Nat × (Nat → Int)} {d : Nat} {D : DD} {c : Nat} {v : Cr} (hd : 2 ≤ d) (hc : c < 6) (hv : okc v) (h : MC D (mB c) v) : ∃ D', ev X d m_M_triesAs [vR 12 0, vI (c : Int)] (hp D) = some (none, hp D') ∧ MC D' (mB 6) v ∧ fr (mP (mB 6)) D D' := by
  obtain ⟨d, rfl⟩ : ∃ e, d = e + 1 := ⟨d - 1, by omega⟩
  have hmb : mB c = 153 + 29 * c := rfl
  have hm6 : mB 6 = 327 := rfl
  have e6 : ev X d m_M_manAt [vI 6] = ev X d m_M_manAt [vI ((6 : Nat) : Int)] := rfl
  have key : ∀ (m k : Nat) (D1 : DD), k + m = 29 → fr (mP (mB 6)) D D1 → (∀ j, j < k → D1 22 0 (mB 6 + j) = D 22 0 (mB c + j)) → ∃ D', at_ X d cd_M_triesAs 2 [vR 12 0, vI (c : Int), vI (k : Int)] [] (hp D1) = some (none, hp D') ∧ (∀ j, j < 29 → D' 22 0 (mB 6 + j) = D 22 0 (mB c + j)) ∧ fr (mP (mB 6)) D D' := by
    intro m
    induction m with
    | zero =>
      intro k D1 hk hf hj
      rw [b_M_triesAs_2, if_pos (by omega)]
      exact ⟨D1, rfl, fun j h => hj j (by omega), hf⟩
    | succ m ih =>
      intro k D1 hk hf hj
      rw [b_M_triesAs_2, if_neg (by omega), e6, s_M_manAt (by omega) (by omega)]
      simp only [ab_ci]
      rw [b_M_triesAs_17, s_M_manAt (by omega) (by omega)]
      simp only [ab_ci]
      rw [b_M_triesAs_27, zb_w (n := ((mB c : Nat) : Int) + (k : Int)) (by omega) (by omega), if_pos (by omega), zb_w (n := ((mB 6 : Nat) : Int) + (k : Int)) (by omega) (by omega), if_pos (by omega), zb_s (by omega), tn (x := ((mB 6 : Nat) : Int) + (k : Int)) (n := mB 6 + k) (by omega), tn (x := ((mB c : Nat) : Int) + (k : Int)) (n := mB c + k) (by omega)]
      have e1 : D1 22 0 (mB c + k) = D 22 0 (mB c + k) := hf 22 0 _ (fun z => by have := z.2.2.1; omega)
      refine ih (k + 1) _ (by omega) (hf.u ⟨rfl, rfl, by omega, by omega⟩) (fun j h => ?_)
      by_cases e : j = k
      · subst e; rw [u3_eq, e1]
      · rw [u3_k (by omega), hj j (by omega)]
  rw [e_M_triesAs, b_M_triesAs_0]
  obtain ⟨D', g1, g2, g3⟩ := key 29 0 D (by omega) (fr.rf D) (fun j h => by omega)
  obtain ⟨h0, h1, h2, h3, h4, h5⟩ := h
  have o6 := hv.2.2.2
  have o2 := hv.1.2.1
  refine ⟨D', g1, ⟨(g2 0 (by omega)).trans h0, (g2 1 (by omega)).trans h1, (g2 2 (by omega)).trans h2, (g2 3 (by omega)).trans h3, fun k hk => ?_, fun t ht => ?_⟩, g3⟩
  · rw [Nat.add_assoc, g2 (4 + k) (by omega), ← Nat.add_assoc, h4 k hk]
  · rw [Nat.add_assoc, g2 (13 + t) (by omega), ← Nat.add_assoc, h5 t ht]
theorem isI_t {x : Int} {n : Nat} (h : 0 ≤ x ∧ x < (n : Int)) : isI x n = 1 := by unfold isI; rw [if_pos h]
theorem isI_f {x : Int} {n : Nat} (h : ¬ (0 ≤ x ∧ x < (n : Int))) : isI x n = 0 := by unfold isI; rw [if_neg h]
theorem s_M_isMan {X : Nat × (Nat → Int)} {d : Nat} {D : DD} {x : Int} {n : Nat} (hd : 2 ≤ d) (hn : D 22 0 152 = (n : Int)) (h6 : n ≤ 6) : ev X d m_M_isMan [vR 12 0, vL x] (hp D) = some (some (vI (isI x n)), hp D) := by
  obtain ⟨d, rfl⟩ : ∃ e, d = e + 1 := ⟨d - 1, by omega⟩
  rw [e_M_isMan, b_M_isMan_0, hn, zb_w (by omega) (by omega), s_M_within (by omega)]
  simp only [ab_ci]
  rw [b_M_isMan_16]
  by_cases h : 0 ≤ x ∧ x < (n : Int)
  · rw [if_pos (show 0 ≤ x ∧ x ≤ (n : Int) - 1 by omega), isI_t h, if_pos (by omega)]
  · rw [if_neg (show ¬ (0 ≤ x ∧ x ≤ (n : Int) - 1) by omega), isI_f h, if_pos (by omega)]
theorem s_C_isOne {X : Nat × (Nat → Int)} {d : Nat} {D : DD} {x : Int} {q n : Nat} (hd : 1 ≤ d) (hn : D 2 q 1 = (n : Int)) : ev X d m_Company_isOne [vR 2 q, vL x] (hp D) = some (some (vI (isI x n)), hp D) := by
  obtain ⟨d, rfl⟩ : ∃ e, d = e + 1 := ⟨d - 1, by omega⟩
  rw [e_Company_isOne, b_Company_isOne_0, hn]
  simp only [cmp_lt, cmp_ge, isI]
  by_cases h1 : x < 0
  · rw [if_pos h1, if_neg (by omega)]
  · by_cases h2 : (n : Int) ≤ x
    · rw [if_neg h1, if_pos h2, if_neg (by omega)]
    · rw [if_neg h1, if_neg h2, if_pos (by omega)]
theorem s_C_areTwo {X : Nat × (Nat → Int)} {d : Nat} {D : DD} {x y : Int} {q n : Nat} (hd : 2 ≤ d) (hn : D 2 q 1 = (n : Int)) : ev X d m_Company_areTwo [vR 2 q, vL x, vL y] (hp D) = some (some (vI (if ((0 ≤ x ∧ x < (n : Int)) ∧ 0 ≤ y ∧ y < (n : Int)) ∧ x ≠ y then 1 else 0)), hp D) := by
  obtain ⟨d, rfl⟩ : ∃ e, d = e + 1 := ⟨d - 1, by omega⟩
  rw [e_Company_areTwo, b_Company_areTwo_0, s_C_isOne (by omega) hn]
  simp only [ab_ci]
  rw [b_Company_areTwo_5]
  by_cases h1 : 0 ≤ x ∧ x < (n : Int)
  · rw [isI_t h1, if_neg (by decide), s_C_isOne (by omega) hn]
    simp only [ab_ci]
    rw [b_Company_areTwo_13]
    by_cases h2 : 0 ≤ y ∧ y < (n : Int)
    · rw [isI_t h2, if_neg (by decide)]
      by_cases h3 : x = y
      · rw [if_pos (cmp_eq.mpr h3), if_neg (fun z => z.2 h3)]
      · rw [if_neg (fun z => h3 (cmp_eq.mp z)), if_pos ⟨⟨h1, h2⟩, h3⟩]
    · rw [isI_f h2, if_pos rfl, if_neg (fun z => h2 z.1.2)]
  · rw [isI_f h1, if_pos rfl, if_neg (fun z => h1 z.1.1)]
/-- the man c -/
def mnD (S : St) (c : Nat) : Cr := (sW S).2.1.getD c (emV 1)
theorem mnD_some {S : St} {c : Nat} (h : c < (sW S).2.1.length) : (sW S).2.1[c]? = some (mnD S c) := by
  unfold mnD
  rw [List.getD_eq_getElem?_getD, List.getElem?_eq_getElem h]
  rfl
theorem SOK.oc {S : St} (hS : SOK S) {c : Nat} (h : c < (sW S).2.1.length) : okc (mnD S c) := hS.1.2.2.1 _ (List.mem_of_getElem? (mnD_some h))
theorem CH.cc {D : DD} {S : St} (hC : CH D S) {c : Nat} (h : c < (sW S).2.1.length) : CC D c (mnD S c) := by
  have := hC.1.2.2.1 c _ (mnD_some h)
  rw [Nat.zero_add] at this
  exact this
theorem MH.mc {D : DD} {S : St} (hC : MH D S) {c : Nat} (h : c < (sW S).2.1.length) : MC D (mB c) (mnD S c) := by
  have := hC.1.2.2.1 c _ (mnD_some h)
  rw [Nat.zero_add] at this
  exact this
theorem CH.l {D : DD} {S : St} (hC : CH D S) : LC D 1 (sW S).1 := hC.1.1
theorem MH.l {D : DD} {S : St} (hC : MH D S) : LM D (sW S).1 := fun k hk => by
  have := hC.1.1 k hk
  rw [Nat.zero_add] at this
  exact this
theorem CH.n {D : DD} {S : St} (hC : CH D S) : D 2 0 1 = ((sW S).2.1.length : Int) := hC.1.2.1
theorem MH.n {D : DD} {S : St} (hC : MH D S) : D 22 0 152 = ((sW S).2.1.length : Int) := hC.1.2.1
theorem MH.th {D : DD} {S : St} (hS : SOK S) (hC : MH D S) : MH (u3 D 12 0 0 0) S := hC.scr hS ((fr.rf D).u (Or.inl ⟨rfl, by omega, by omega, by omega⟩))
theorem cX_cY {t i k : Nat} (h : cX t i k) : cY t i k := by unfold cX at h; unfold cY; omega
theorem mX_mY {t i k : Nat} (h : mX t i k) : mY t i k := by unfold mX at h; unfold mY; omega
theorem cP_cY {c t i k : Nat} (h : cP c t i k) : cY t i k := by obtain ⟨h, _⟩ := h; unfold cY; omega
theorem th_mY (D : DD) : fr mY D (u3 D 12 0 0 0) := (fr.rf D).u (Or.inl rfl)
theorem R46_0 {k : Nat} (h : k < 6) : R0 46 0 k = some (3, k) := by
  show (if k < 6 then some (3, 0 + k) else none) = _
  rw [if_pos h, Nat.zero_add]
theorem R21 {k : Nat} (h : k < 4) : R0 21 0 k = some (8, k) := by
  show (if k < 4 then some (8, k) else none) = _
  rw [if_pos h]
theorem R20 {k : Nat} (h : k < 2) : R0 20 0 k = some (10, k + 1) := by
  show (if k < 2 then some (10, k + 1) else none) = _
  rw [if_pos h]
/-- what a call on the class does: answer y, state S' -/
def cRes (X : Nat × (Nat → Int)) (d m : Nat) (as : List ab_V) (D : DD) (z : Int × St) : Prop := ∃ D', ev X d m (vR 11 0 :: as) (hp D) = some (some (vI z.1), hp D') ∧ CH D' z.2 ∧ fr cY D D'
def mRes (X : Nat × (Nat → Int)) (d m : Nat) (as : List ab_V) (D : DD) (z : Int × St) : Prop := ∃ D', ev X d m (vR 12 0 :: as) (hp D) = some (some (vI z.1), hp D') ∧ MH D' z.2 ∧ fr mY D D'
end
