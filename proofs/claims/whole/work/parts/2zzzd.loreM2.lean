/-! lore: the reference's call -/
section
theorem MH.tp {D D' : DD} {S : St} {a : Nat} {e : Int} (hS : SOK S) (h : MH D S) (f : fr (fun t i k => mX t i k ∨ t = 12) D D') (h1 : D' 12 0 13 = (a : Int)) (h2 : D' 12 0 14 = e) (h3 : D' 12 0 5 = 0) : MH D' (stL S (sW S) a e) := by
  obtain ⟨g1, g2, g3, g4⟩ := h
  exact ⟨g1.on hS.1 (fun k _ k2 k3 => f 22 0 k (by unfold mX; omega)), fun i hi => (g2 i hi).on (hS.2.1 i hi) (f 23 0 i (by unfold mX; omega)) (fun k k1 k2 => f 22 0 k (by unfold mX; omega)), fun r hr => (g3 r hr).on fun t k ht => f t 0 k (by unfold mX; omega), h1, h2, h3, fun k hk => by cases hk⟩
theorem M_lore {X : Nat × (Nat → Int)} {d : Nat} {D : DD} {S : St} {x : Int} (hd : 16 ≤ d) (hS : SOK S) (hM : MH D S) : mRes X d m_M_lore [vI x] D (f_lore S x) := by
  obtain ⟨d, rfl⟩ : ∃ e, d = e + 1 := ⟨d - 1, by omega⟩
  have hM := hM.th hS
  have hT9 := th_mY D
  unfold mRes f_lore
  rw [e_M_lore, b_M_lore_0]
  generalize u3 D 12 0 0 0 = D0 at hM hT9 ⊢
  obtain ⟨q1, q2, q3, q4⟩ := hM.2.2.2
  rw [s_M_within (by omega), q3]
  simp only [ab_ci]
  rw [b_M_lore_16]
  by_cases c : 0 ≤ x ∧ x ≤ ((sT S).length : Int)
  · obtain ⟨n, rfl⟩ : ∃ t : Nat, x = (t : Int) := ⟨x.toNat, by omega⟩
    have hT := okT_S hS (n := n) (by omega)
    have h5 := hT.1
    rw [if_pos c, if_pos (by decide), if_pos c, Int.toNat_natCast]
    have f0 : fr (fun t i k => mX t i k ∨ t = 12) D0 (u3 (u3 (u3 (u3 D0 12 0 8 (n : Int)) 12 0 5 0) 12 0 7 0) 12 0 11 0) := ((((fr.rf D0).u (Or.inr rfl)).u (Or.inr rfl)).u (Or.inr rfl)).u (Or.inr rfl)
    have i8 : u3 (u3 (u3 (u3 D0 12 0 8 (n : Int)) 12 0 5 0) 12 0 7 0) 12 0 11 0 12 0 8 = (n : Int) := by rw [u3_k (by omega), u3_k (by omega), u3_k (by omega), u3_eq]
    have i5 : u3 (u3 (u3 (u3 D0 12 0 8 (n : Int)) 12 0 5 0) 12 0 7 0) 12 0 11 0 12 0 5 = 0 := by rw [u3_k (by omega), u3_k (by omega), u3_eq]
    have i7 : u3 (u3 (u3 (u3 D0 12 0 8 (n : Int)) 12 0 5 0) 12 0 7 0) 12 0 11 0 12 0 7 = 0 := by rw [u3_k (by omega), u3_eq]
    have i11 : u3 (u3 (u3 (u3 D0 12 0 8 (n : Int)) 12 0 5 0) 12 0 7 0) 12 0 11 0 12 0 11 = 0 := by rw [u3_eq]
    have i24 : ∀ k, u3 (u3 (u3 (u3 D0 12 0 8 (n : Int)) 12 0 5 0) 12 0 7 0) 12 0 11 0 24 0 k = D0 24 0 k := fun k => by rw [u3_t (by omega), u3_t (by omega), u3_t (by omega), u3_t (by omega)]
    generalize u3 (u3 (u3 (u3 D0 12 0 8 (n : Int)) 12 0 5 0) 12 0 7 0) 12 0 11 0 = D1 at f0 i8 i5 i7 i11 i24 ⊢
    have loop : ∀ (m k : Nat) (D2 : DD) (v1 : ab_V), k + m = 152 → (∀ j, j < k → D2 25 0 j = (L00 j : Int)) → fr (fun t i _ => t = 25 ∧ i = 0) D1 D2 → ∃ D', at_ X d cd_M_lore 44 [vR 12 0, v1, vI (k : Int)] [] (hp D2) = ab_cv (ev X d m_M_next [vR 12 0] (hp D')) (fun h9 => at_ X d cd_M_lore 78 [vR 12 0, vU, vU] [] h9) ∧ SMq D' L00 ∧ fr (fun t i _ => t = 25 ∧ i = 0) D1 D' := by
      intro m
      induction m with
      | zero =>
        intro k D2 v1 hk h1 h2
        rw [b_M_lore_44, if_pos (by omega)]
        exact ⟨D2, rfl, fun j hj => h1 j (by omega), h2⟩
      | succ m ih =>
        intro k D2 v1 hk h1 h2
        rw [b_M_lore_44, if_neg (by omega)]
        have st : ∀ y : Int, y = (L00 k : Int) → ∃ D', at_ X d cd_M_lore 67 [vR 12 0, vU, vI (k : Int)] [vI y, vI (k : Int), vR 25 0] (hp D2) = ab_cv (ev X d m_M_next [vR 12 0] (hp D')) (fun h9 => at_ X d cd_M_lore 78 [vR 12 0, vU, vU] [] h9) ∧ SMq D' L00 ∧ fr (fun t i _ => t = 25 ∧ i = 0) D1 D' := by
          intro y hy
          rw [b_M_lore_67, if_pos (by omega), Int.toNat_natCast, zb_s (by omega)]
          refine ih (k + 1) _ vU (by omega) (fun j hj => ?_) (h2.u ⟨rfl, rfl⟩)
          by_cases e : j = k
          · rw [e, u3_eq, hy]
          · rw [u3_k e]; exact h1 j (by omega)
        by_cases c1 : k = 1
        · rw [if_neg (by omega)]
          exact st 9 (by rw [c1]; rfl)
        · rw [if_pos (by omega)]
          exact st 0 (by unfold L00; rw [if_neg c1]; rfl)
    obtain ⟨D2, a1, a2, a3⟩ := loop 152 0 D1 (vI (n : Int)) (by omega) (fun j hj => by omega) (fr.rf D1)
    have a1 : at_ X d cd_M_lore 44 [vR 12 0, vI (n : Int), vI 0] [] (hp D1) = _ := a1
    have k12 : ∀ k, D2 12 0 k = D1 12 0 k := fun k => a3 12 0 k (by omega)
    have hMT : MT D2 (sT S) n := ⟨by rw [k12, i8], fun k hk => by rw [a3 24 0 k (by omega), i24]; exact q4 k (by omega)⟩
    obtain ⟨D3, b1, b2, b3⟩ := s_M_next (X := X) (d := d) (D := D2) (p := 0) (by omega) hT (by omega) hMT (by rw [k12, i7]; rfl)
    have hK : MKq D3 (sT S) n 0 := ⟨b2, by rw [b3 12 0 11 (by unfold nM; omega), k12, i11]⟩
    obtain ⟨D4, c1, c2, c3⟩ := s_M_text (X := X) (d := d) (by omega) hT n L00 0 D3 (by decide) (by omega) (by omega) okP_00 (a2.fr (b3.mo fun _ _ _ z => nM_fM z)) hK
    have px : ∀ t i k, pM t i k → mX t i k ∨ t = 12 := fun t i k z => by unfold pM fM at z; unfold mX; omega
    have f4 : fr (fun t i k => mX t i k ∨ t = 12) D0 D4 := ((f0.tr (a3.mo fun t i k z => Or.inl (by unfold mX; omega))).tr (b3.mo fun t i k z => px t i k (nM_pM z))).tr (c3.mo px)
    have e5 : D4 12 0 5 = 0 := by rw [c3 12 0 5 (by unfold pM fM; omega), b3 12 0 5 (by unfold nM; omega), k12, i5]
    rw [a1, b1]
    simp only [ab_cv]
    rw [c1, b_M_lore_101, u3_k (by omega), u3_k (by omega)]
    cases hn : prsP (sT S) n n L00 0 with
    | inl e =>
      rw [hn] at c2
      have c2 : MF D4 e := c2
      obtain ⟨g1, g2⟩ := prsP_ok (T := sT S) (n := n) h5 n L00 0 okP_00 (by decide) (by omega)
      obtain ⟨e1, e2, e4⟩ := g1 e hn
      have f5 : fr (fun t i k => mX t i k ∨ t = 12) D0 (u3 (u3 D4 12 0 13 (e.1 : Int)) 12 0 14 (e.2 : Int)) := (f4.u (Or.inr rfl)).u (Or.inr rfl)
      rw [if_pos c2.ne, b_M_lore_125, c2.1, c2.2.2, u3_k (by omega), u3_k (by omega), c2.1, if_neg (by omega), zb_w (by omega) (by omega)]
      exact ⟨_, rfl, hM.tp hS f5 (by rw [u3_k (by omega), u3_eq]) (by rw [u3_eq]) (by rw [u3_k (by omega), u3_k (by omega), e5]), hT9.tr (f5.mo fun t i k z => by unfold mX at z; unfold mY; omega)⟩
    | inr L =>
      rw [hn] at c2
      obtain ⟨c2, c4⟩ := c2
      rw [if_neg (fun z => z c4), b_M_lore_125, c4, u3_k (by omega), u3_k (by omega), c4, if_pos rfl]
      have f5 : fr (fun t i k => mX t i k ∨ t = 12) D0 (u3 (u3 D4 12 0 13 0) 12 0 14 (-1)) := (f4.u (Or.inr rfl)).u (Or.inr rfl)
      have hM5 := hM.tp (a := 0) (e := -1) hS f5 (by rw [u3_k (by omega), u3_eq]; rfl) (by rw [u3_eq]) (by rw [u3_k (by omega), u3_k (by omega), e5])
      have s5 : SMq (u3 (u3 D4 12 0 13 0) 12 0 14 (-1)) L := fun k hk => by rw [u3_t (by omega), u3_t (by omega)]; exact c2 k hk
      generalize u3 (u3 D4 12 0 13 0) 12 0 14 (-1) = D5 at f5 hM5 s5 ⊢
      have cpy : ∀ (m k : Nat) (D6 : DD), k + m = 411 → (∀ j, j < k → D6 22 0 j = if j < 152 then (L j : Int) else 0) → fr (fun t i k => t = 22 ∧ i = 0 ∧ k < 411) D5 D6 → ∃ D', at_ X d cd_M_lore 145 [vR 12 0, vU, vI (k : Int)] [] (hp D6) = some (some (vI (D' 22 0 151)), hp D') ∧ (∀ j, j < 411 → D' 22 0 j = if j < 152 then (L j : Int) else 0) ∧ fr (fun t i k => t = 22 ∧ i = 0 ∧ k < 411) D5 D' := by
        intro m
        induction m with
        | zero =>
          intro k D6 hk h1 h2
          rw [b_M_lore_145, if_pos (by omega)]
          exact ⟨D6, rfl, fun j hj => h1 j (by omega), h2⟩
        | succ m ih =>
          intro k D6 hk h1 h2
          rw [b_M_lore_145, if_neg (by omega)]
          have st : ∀ y : Int, y = (if k < 152 then (L k : Int) else 0) → ∃ D', at_ X d cd_M_lore 174 [vR 12 0, vU, vI (k : Int)] [vI y, vI (k : Int), vR 22 0] (hp D6) = some (some (vI (D' 22 0 151)), hp D') ∧ (∀ j, j < 411 → D' 22 0 j = if j < 152 then (L j : Int) else 0) ∧ fr (fun t i k => t = 22 ∧ i = 0 ∧ k < 411) D5 D' := by
            intro y hy
            rw [b_M_lore_174, if_pos (by omega), Int.toNat_natCast, zb_s (by omega)]
            refine ih (k + 1) _ (by omega) (fun j hj => ?_) (h2.u ⟨rfl, rfl, by omega⟩)
            by_cases e : j = k
            · rw [e, u3_eq, hy]
            · rw [u3_k e]; exact h1 j (by omega)
          by_cases ck : k < 152
          · rw [if_neg (by omega), if_pos (by omega), Int.toNat_natCast]
            exact st _ (by rw [if_pos ck, h2 25 0 k (by omega)]; exact s5 k ck)
          · rw [if_pos (by omega)]
            exact st 0 (by rw [if_neg ck])
      obtain ⟨D6, g1, g2, g3⟩ := cpy 411 0 D5 (by omega) (fun j hj => by omega) (fr.rf D5)
      have g1 : at_ X d cd_M_lore 145 [vR 12 0, vU, vI 0] [] (hp D5) = _ := g1
      obtain ⟨m1, m2, m3, m4⟩ := hM5
      rw [g1, g2 151 (by omega), if_pos (by omega)]
      refine ⟨D6, rfl, ⟨⟨fun k hk => ?_, ?_, (fun c v hv => by cases hv), ?_, (fun p l hp9 => by cases hp9)⟩, fun i hi => ?_, fun r hr => ?_, ?_⟩, ?_⟩
      · rw [Nat.zero_add, g2 k (by omega), if_pos hk]; rfl
      · rw [Nat.zero_add, g2 152 (by omega), if_neg (by omega)]; rfl
      · rw [Nat.zero_add, g2 356 (by omega), if_neg (by omega)]; rfl
      · exact (m2 i hi).on (hS.2.1 i hi) (g3 23 0 i (by omega)) fun k k1 k2 => g3 22 0 k (by omega)
      · exact (m3 r hr).on fun t k ht => g3 t 0 k (by omega)
      · exact TM.on (S := stL S (L, [], []) 0 (-1)) (D := D5) m4 (g3 12 0 5 (by omega)) (g3 12 0 13 (by omega)) (g3 12 0 14 (by omega)) (fun k => g3 24 0 k (by omega))
      · exact (hT9.tr (f5.mo fun t i k z => by unfold mX at z; unfold mY; omega)).tr (g3.mo fun t i k z => by unfold mY; omega)
  · rw [if_neg c, if_neg (by decide), if_neg c]
    exact ⟨D0, rfl, hM, hT9⟩
end
