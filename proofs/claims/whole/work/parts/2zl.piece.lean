/-! takeRow, areThings; calls: piece, unfit -/
section
def atI (L : Nat → Nat) (l : List Int) : Int := if ∀ x ∈ l, 0 ≤ x ∧ x < (L 0 : Int) then 1 else 0
def HR (D : DD) (ts : List Nat) : Prop := D 4 0 2 = (ts.length : Int) ∧ ∀ k, k < ts.length → D 48 0 k = (ts.getD k 0 : Nat)
def hP_ : Nat → Nat → Nat → Prop := fun t _ k => (t = 4 ∧ k = 2) ∨ t = 48
theorem tl_get {l : List Int} {k : Nat} (h : k < l.length) : (l.map Int.toNat).getD k 0 = (l.getD k 0).toNat := by
  rw [List.getD_eq_getElem?_getD, List.getElem?_map, List.getD_eq_getElem?_getD, List.getElem?_eq_getElem h]
  rfl
theorem getD_mem {l : List Int} {k : Nat} (h : k < l.length) : l.getD k 0 ∈ l := by
  rw [List.getD_eq_getElem?_getD, List.getElem?_eq_getElem h]
  exact List.getElem_mem _
theorem s_C_takeRow {X : Nat × (Nat → Int)} {d : Nat} {D : DD} {r q : Nat} {z : Rw} {L : Nat → Nat} (hd : 2 ≤ d) (hL : LOK L) (hl : LC D q L) (hr : RWC D r (some z)) (hz : okr (some z)) : ∃ D', ev X d m_Hearings_takeRow [vR 4 0, vR 8 r, vR 5 q] (hp D) = some (some (vI (atI L z.2)), hp D') ∧ (atI L z.2 = 1 → HR D' (z.2.map Int.toNat)) ∧ fr hP_ D D' := by
  obtain ⟨d, rfl⟩ : ∃ e, d = e + 1 := ⟨d - 1, by omega⟩
  obtain ⟨a1, a2, a3, a4⟩ := hr
  obtain ⟨z1, z2, z3⟩ := hz
  have h16 := hL.1.1
  have key : ∀ (m k : Nat) (D1 : DD), k + m = z.2.length → fr hP_ D D1 → D1 4 0 2 = (z.2.length : Int) → (∀ j, j < k → (0 ≤ z.2.getD j 0 ∧ z.2.getD j 0 < (L 0 : Int)) ∧ D1 48 0 j = ((z.2.getD j 0).toNat : Int)) → ∃ D', at_ X d cd_Hearings_takeRow 10 [vR 4 0, vR 8 r, vR 5 q, vI (k : Int)] [] (hp D1) = some (some (vI (atI L z.2)), hp D') ∧ (atI L z.2 = 1 → HR D' (z.2.map Int.toNat)) ∧ fr hP_ D D' := by
    intro m
    induction m with
    | zero =>
      intro k D1 hk hf h1 hj
      have e : atI L z.2 = 1 := by
        unfold atI
        rw [if_pos]
        intro x hx
        obtain ⟨j, hj1, hj2⟩ := List.mem_iff_getElem.mp hx
        have := (hj j (by omega)).1
        rw [List.getD_eq_getElem?_getD, List.getElem?_eq_getElem hj1] at this
        rw [← hj2]
        exact this
      rw [b_Hearings_takeRow_10, h1, if_pos (by omega), e]
      refine ⟨D1, rfl, fun _ => ⟨by rw [h1, List.length_map], fun k' hk' => ?_⟩, hf⟩
      rw [List.length_map] at hk'
      rw [tl_get hk', (hj k' (by omega)).2]
    | succ m ih =>
      intro k D1 hk hf h1 hj
      have e62 : D1 62 r k = z.2.getD k 0 := (hf 62 r k (by unfold hP_; omega)).trans (a4 k (by omega))
      rw [b_Hearings_takeRow_10, h1, if_neg (by omega), if_pos (by omega), Int.toNat_natCast, e62, s_C_isThing (by omega) (hl.on fun t k ht => hf t _ k (by unfold hP_; omega))]
      simp only [ab_ci]
      rw [b_Hearings_takeRow_28]
      by_cases h2 : 0 ≤ z.2.getD k 0 ∧ z.2.getD k 0 < (L 0 : Int)
      · rw [isI_t h2, if_pos (by decide), if_pos (by omega), if_pos (by omega), Int.toNat_natCast, e62, zb_w (n := z.2.getD k 0) (by omega) (by omega), zb_s (by omega)]
        refine ih (k + 1) _ (by omega) (hf.u (Or.inr rfl)) (by rw [u3_t (by omega), h1]) fun j hj' => ?_
        by_cases e : j = k
        · subst e
          refine ⟨h2, ?_⟩
          rw [u3_eq]
          omega
        · refine ⟨(hj j (by omega)).1, ?_⟩
          rw [u3_k e, (hj j (by omega)).2]
      · have e : atI L z.2 = 0 := by
          unfold atI
          rw [if_neg (fun a => h2 (a _ (getD_mem (by omega))))]
        rw [isI_f h2, if_neg (by decide), e]
        exact ⟨D1, rfl, fun a => by omega, hf⟩
  rw [e_Hearings_takeRow, b_Hearings_takeRow_0, a1]
  exact key z.2.length 0 _ (by omega) ((fr.rf D).u (Or.inl ⟨rfl, rfl⟩)) (by rw [u3_eq]) (fun j hj => by omega)
theorem s_M_areThings {X : Nat × (Nat → Int)} {d : Nat} {D : DD} {r : Nat} {z : Rw} {L : Nat → Nat} (hd : 3 ≤ d) (hr4 : r < 4) (hL : LOK L) (hl : LM D L) (hr : RWM D r (some z)) (hz : okr (some z)) : ev X d m_M_areThings [vR 12 0, vI (r : Int)] (hp D) = some (some (vI (atI L z.2)), hp D) := by
  obtain ⟨d, rfl⟩ : ∃ e, d = e + 1 := ⟨d - 1, by omega⟩
  obtain ⟨a1, a2, a3⟩ := hr
  obtain ⟨z1, z2, z3⟩ := hz
  have key : ∀ (m k : Nat), k + m = z.2.length → (∀ j, j < k → 0 ≤ z.2.getD j 0 ∧ z.2.getD j 0 < (L 0 : Int)) → at_ X d cd_M_areThings 2 [vR 12 0, vI (r : Int), vI (k : Int)] [] (hp D) = some (some (vI (atI L z.2)), hp D) := by
    intro m
    induction m with
    | zero =>
      intro k hk hj
      have e : atI L z.2 = 1 := by
        unfold atI
        rw [if_pos]
        intro x hx
        obtain ⟨j, hj1, hj2⟩ := List.mem_iff_getElem.mp hx
        have := hj j (by omega)
        rw [List.getD_eq_getElem?_getD, List.getElem?_eq_getElem hj1] at this
        rw [← hj2]
        exact this
      rw [b_M_areThings_2, if_pos (by omega), Int.toNat_natCast, a2, if_pos (by omega), e]
    | succ m ih =>
      intro k hk hj
      rw [b_M_areThings_2, if_pos (by omega), Int.toNat_natCast, a2, if_neg (by omega), zb_w (n := 40 * (r : Int)) (by omega) (by omega), zb_w (n := 40 * (r : Int) + (k : Int)) (by omega) (by omega), if_pos (by omega), tn (n := 40 * r + k) (by omega), a3 k (by omega), s_M_isThing (by omega) hl hL]
      simp only [ab_ci]
      rw [b_M_areThings_27]
      by_cases h2 : 0 ≤ z.2.getD k 0 ∧ z.2.getD k 0 < (L 0 : Int)
      · rw [isI_t h2, if_pos (by decide), zb_s (by omega)]
        refine ih (k + 1) (by omega) fun j hj' => ?_
        by_cases e : j = k
        · subst e; exact h2
        · exact hj j (by omega)
      · have e : atI L z.2 = 0 := by
          unfold atI
          rw [if_neg (fun a => h2 (a _ (getD_mem (by omega))))]
        rw [isI_f h2, if_neg (by decide), e]
  rw [e_M_areThings, b_M_areThings_0]
  exact key z.2.length 0 (by omega) (fun j hj => by omega)
theorem atI_1 {L : Nat → Nat} {l : List Int} (h : atI L l = 1) : ∀ x ∈ l, 0 ≤ x ∧ x < (L 0 : Int) := by
  unfold atI at h
  split at h
  · assumption
  · cases h
theorem atI_01 (L : Nat → Nat) (l : List Int) : atI L l = 1 ∨ atI L l = 0 := by
  unfold atI
  split
  · exact Or.inl rfl
  · exact Or.inr rfl
-- piece
def stQ (S : St) (p : List Nat) : St := ((S.1.1, S.1.2.1, S.1.2.2 ++ [p]), S.2)
def f_piece (S : St) (x : Int) : Int × St := if rrI S x = 0 then (if (sW S).2.2.length = 6 then (-4, S) else if (1 ≤ (rwD S x.toNat).2.length ∧ (rwD S x.toNat).2.length ≤ 8) ∧ atI (sW S).1 (rwD S x.toNat).2 = 1 then ((((sW S).2.2.length + 1 : Nat) : Int), stQ S ((rwD S x.toNat).2.map Int.toNat)) else (-3, S)) else (rrI S x, S)
theorem hP_cX {t i k : Nat} (h : hP_ t i k) : cX t i k := by unfold hP_ at h; unfold cX; omega
theorem C_piece {X : Nat × (Nat → Int)} {d : Nat} {D : DD} {S : St} {x : Int} (hd : 8 ≤ d) (hS : SOK S) (hC : CH D S) : cRes X d m_N_piece [vI x] D (f_piece S x) := by
  obtain ⟨d, rfl⟩ : ∃ e, d = e + 1 := ⟨d - 1, by omega⟩
  have h6 := hS.p6
  unfold cRes f_piece
  rw [e_N_piece, b_N_piece_0, s_C_refusalOfRow (by omega) hC]
  simp only [ab_ci]
  rw [b_N_piece_5]
  by_cases h1 : rrI S x = 0
  · obtain ⟨r, rfl, hr, er⟩ := rrI_0 h1
    have hrc := hC.2.2.1 r hr
    have hro := hS.2.2.1 r hr
    rw [er] at hrc hro
    rw [if_pos h1, if_pos h1, hC.pn, Int.toNat_natCast]
    by_cases h2 : (sW S).2.2.length = 6
    · rw [if_neg (by omega), if_pos h2]
      exact ⟨D, rfl, hC, fr.rf D⟩
    rw [if_pos (by omega), if_neg h2, if_pos (by omega), R21 hr]
    simp only [ab_rf]
    rw [b_N_piece_33, hrc.1]
    by_cases h3 : 1 ≤ (rwD S r).2.length ∧ (rwD S r).2.length ≤ 8
    · rw [if_neg (by omega), if_neg (by omega), if_pos (by omega), Int.toNat_natCast, R21 hr]
      simp only [ab_rf]
      obtain ⟨D1, g1, g2, g3⟩ := s_C_takeRow (X := X) (d := d) (D := D) (r := r) (q := 1) (by omega) hS.L hC.l hrc hro
      have hC1 : CH D1 S := hC.scr hS (g3.mo fun _ _ _ z => hP_cX z)
      have f1 : fr cY D D1 := g3.mo fun _ _ _ z => cX_cY (hP_cX z)
      rw [b_N_piece_58, g1]
      simp only [ab_ci]
      rw [b_N_piece_65]
      rcases atI_01 (sW S).1 (rwD S r).2 with e | e
      · obtain ⟨b1, b2⟩ := g2 e
        obtain ⟨d, rfl⟩ : ∃ e, d = e + 1 := ⟨d - 1, by omega⟩
        have hpn := hC1.pn
        rw [List.length_map] at b1 b2
        have e60 : ((ab_cpy (hp D1) 48 0 0 57 0 (((sW S).2.2.length : Int) * 8) ((rwD S r).2.length : Int)).2.2) 6 0 0 = ((sW S).2.2.length : Int) := by rw [cpy_a, if_neg (by omega), hpn]
        rw [e, if_pos (by decide), if_pos (And.intro h3 rfl), e_Pieces_addOne, b_Pieces_addOne_0, hpn, if_neg (by omega), if_neg (by omega), if_pos (by omega), zb_w (n := ((sW S).2.2.length : Int) * 8) (by omega) (by omega), if_pos (by omega), e60, if_pos (by omega), u3_t (by omega), e60, b_Pieces_addOne_61, zb_s (by omega), u3_eq, Int.toNat_natCast]
        simp only [ab_ci]
        rw [b_N_piece_86]
        generalize hD2 : u3 (u3 (ab_cpy (hp D1) 48 0 0 57 0 (((sW S).2.2.length : Int) * 8) ((rwD S r).2.length : Int)).2.2 56 0 (sW S).2.2.length ((rwD S r).2.length : Int)) 6 0 0 (((sW S).2.2.length + 1 : Nat) : Int) = D2
        have hn : ∀ t i k, ¬ (t = 57 ∧ i = 0 ∧ 8 * (sW S).2.2.length ≤ k) → ¬ (t = 56 ∧ i = 0 ∧ k = (sW S).2.2.length) → ¬ (t = 6 ∧ i = 0 ∧ k = 0) → D2 t i k = D1 t i k := by
          intro t i k n1 n2 n3
          rw [← hD2, u3_a, if_neg n3, u3_a, if_neg n2, cpy_a, if_neg (by omega)]
        obtain ⟨⟨q1, q2, q3, q4, q5⟩, r2, r3, r4⟩ := hC1
        refine ⟨D2, rfl, ⟨⟨q1.on fun t k ht => hn t _ k (by omega) (by omega) (by omega), (hn _ _ _ (by omega) (by omega) (by omega)).trans q2, fun c v hv => (q3 c v hv).fr fun t k ht => hn t _ k (by omega) (by omega) (by omega), ?_, fun p l hp9 => ?_⟩, fun i hi => (r2 i hi).on hi (hS.2.1 i hi) fun t j k _ _ _ _ _ _ _ _ n _ => hn t j k (by omega) (by omega) (by omega), fun r hr => (r3 r hr).on fun t k ht => hn t _ k (by omega) (by omega) (by omega), r4.on (fun k hk => hn _ _ _ (by omega) (by omega) (by omega)) (fun k => hn _ _ _ (by omega) (by omega) (by omega))⟩, f1.tr fun t i k hz => ?_⟩
        · rw [← hD2, u3_eq]
          show _ = (((sW S).2.2 ++ [_]).length : Int)
          rw [List.length_append]
          rfl
        · have hp9 : ((sW S).2.2 ++ [(rwD S r).2.map Int.toNat])[p]? = some l := hp9
          by_cases e1 : p < (sW S).2.2.length
          · rw [List.getElem?_append_left e1] at hp9
            have hl8 := (hS.1.2.2.2.2.2 l (List.mem_of_getElem? hp9)).2.1
            obtain ⟨w1, w2⟩ := q5 p l hp9
            exact ⟨(hn _ _ _ (by omega) (by omega) (by omega)).trans w1, fun k hk => (hn _ _ _ (by omega) (by omega) (by omega)).trans (w2 k hk)⟩
          · have hlt := lt_of_some hp9
            rw [List.length_append] at hlt
            have : p = (sW S).2.2.length := by simp at hlt; omega
            subst this
            rw [List.getElem?_append_right (Nat.le_refl _), Nat.sub_self] at hp9
            cases hp9
            refine ⟨?_, fun k hk => ?_⟩
            · rw [← hD2, u3_t (by omega), u3_eq, List.length_map]
            · rw [List.length_map] at hk
              rw [← hD2, u3_t (by omega), u3_t (by omega), cpy_a, if_pos (by omega), tn (n := k) (by omega), b2 k hk]
        · unfold cY at hz
          exact hn t i k (by omega) (by omega) (by omega)
      · rw [e, if_neg (by decide), if_neg (fun z => by have := z.2; omega)]
        exact ⟨D1, rfl, hC1, f1⟩
    · rw [if_neg (show ¬ ((1 ≤ (rwD S r).2.length ∧ (rwD S r).2.length ≤ 8) ∧ atI (sW S).1 (rwD S r).2 = 1) from fun z => h3 z.1)]
      by_cases h4 : (rwD S r).2.length < 1
      · rw [if_pos (by omega)]
        exact ⟨D, rfl, hC, fr.rf D⟩
      · rw [if_neg (by omega), if_pos (by omega)]
        exact ⟨D, rfl, hC, fr.rf D⟩
  · rw [if_neg h1, if_neg h1]
    exact ⟨D, rfl, hC, fr.rf D⟩
theorem M_piece {X : Nat × (Nat → Int)} {d : Nat} {D : DD} {S : St} {x : Int} (hd : 8 ≤ d) (hS : SOK S) (hM : MH D S) : mRes X d m_M_piece [vI x] D (f_piece S x) := by
  obtain ⟨d, rfl⟩ : ∃ e, d = e + 1 := ⟨d - 1, by omega⟩
  have h6 := hS.p6
  have h16 := hS.L.1.1
  have hM := hM.th hS
  unfold mRes f_piece
  rw [e_M_piece, b_M_piece_0, s_M_within (by omega)]
  simp only [ab_ci]
  rw [b_M_piece_14]
  by_cases h0 : 0 ≤ x ∧ x ≤ 3
  · obtain ⟨r, rfl⟩ : ∃ t : Nat, x = (t : Int) := ⟨x.toNat, by omega⟩
    obtain ⟨w1, w2⟩ := M_row hM (r := r) (by omega)
    rw [if_pos h0, if_pos (by decide), if_pos (by omega), Int.toNat_natCast]
    by_cases h1 : rrI S (r : Int) = 0
    · obtain ⟨r', hr1, hr, er⟩ := rrI_0 h1
      have : r' = r := by omega
      subst this
      have hrc := hM.2.2.1 r' hr
      have hro := hS.2.2.1 r' hr
      rw [er] at hrc hro
      rw [if_pos (w1.mpr h1), hM.pn, if_pos h1]
      by_cases h2 : (sW S).2.2.length = 6
      · rw [if_neg (by omega), if_pos h2]
        exact ⟨_, rfl, hM, th_mY D⟩
      rw [if_pos (by omega), if_neg h2, if_pos (by omega), hrc.2.1, s_M_within (by omega)]
      simp only [ab_ci]
      rw [b_M_piece_65]
      by_cases h3 : 1 ≤ (rwD S r').2.length ∧ (rwD S r').2.length ≤ 8
      · rw [if_pos (show (1 : Int) ≤ ((rwD S r').2.length : Int) ∧ ((rwD S r').2.length : Int) ≤ 8 by omega), if_neg (by decide), s_M_areThings (by omega) hr hS.L hM.l hrc hro]
        simp only [ab_ci]
        rw [b_M_piece_73]
        rcases atI_01 (sW S).1 (rwD S r').2 with e | e
        · have hat := atI_1 e
          obtain ⟨a1, a2, a3⟩ := hrc
          rw [e, if_pos (by decide), if_pos (And.intro h3 rfl), if_pos (by omega), zb_w (by omega) (by omega), if_pos (by omega), tn (n := 357 + (sW S).2.2.length) (by omega), Int.toNat_natCast, a2]
          have hT := th_mY D
          generalize u3 D 12 0 0 0 = D0 at hM a1 a2 a3 hT ⊢
          have key : ∀ (m k : Nat) (D1 : DD), k + m = (rwD S r').2.length → fr (fun t i k => t = 22 ∧ i = 0 ∧ (k = 357 + (sW S).2.2.length ∨ (363 + 8 * (sW S).2.2.length ≤ k ∧ k < 371 + 8 * (sW S).2.2.length))) D0 D1 → (∀ j, j < k → D1 22 0 (363 + 8 * (sW S).2.2.length + j) = (((rwD S r').2.getD j 0).toNat : Int)) → D1 22 0 (357 + (sW S).2.2.length) = ((rwD S r').2.length : Int) → ∃ D', at_ X d cd_M_piece 97 [vR 12 0, vI (r' : Int), vI ((sW S).2.2.length : Int), vI (k : Int)] [] (hp D1) = some (some (vI (((sW S).2.2.length + 1 : Nat) : Int)), hp (u3 D' 22 0 356 (((sW S).2.2.length + 1 : Nat) : Int))) ∧ fr (fun t i k => t = 22 ∧ i = 0 ∧ (k = 357 + (sW S).2.2.length ∨ (363 + 8 * (sW S).2.2.length ≤ k ∧ k < 371 + 8 * (sW S).2.2.length))) D0 D' ∧ (∀ j, j < (rwD S r').2.length → D' 22 0 (363 + 8 * (sW S).2.2.length + j) = (((rwD S r').2.getD j 0).toNat : Int)) ∧ D' 22 0 (357 + (sW S).2.2.length) = ((rwD S r').2.length : Int) := by
            intro m
            induction m with
            | zero =>
              intro k D1 hk hf hj h9
              have e41 : D1 41 0 r' = ((rwD S r').2.length : Int) := (hf 41 0 r' (by omega)).trans a2
              have e356 : D1 22 0 356 = ((sW S).2.2.length : Int) := (hf 22 0 356 (by omega)).trans hM.pn
              rw [b_M_piece_97, if_pos (by omega), Int.toNat_natCast, e41, if_pos (by omega), e356, zb_s (by omega), u3_eq]
              exact ⟨D1, rfl, hf, fun j h => hj j (by omega), h9⟩
            | succ m ih =>
              intro k D1 hk hf hj h9
              have e41 : D1 41 0 r' = ((rwD S r').2.length : Int) := (hf 41 0 r' (by omega)).trans a2
              have e42 : D1 42 0 (40 * r' + k) = (rwD S r').2.getD k 0 := (hf 42 0 _ (by omega)).trans (a3 k (by omega))
              have hx := hat _ (getD_mem (l := (rwD S r').2) (k := k) (by omega))
              rw [b_M_piece_97, if_pos (by omega), Int.toNat_natCast, e41, if_neg (by omega), zb_w (n := 40 * (r' : Int)) (by omega) (by omega), zb_w (n := 40 * (r' : Int) + (k : Int)) (by omega) (by omega), if_pos (by omega), zb_w (n := 8 * ((sW S).2.2.length : Int)) (by omega) (by omega), zb_w (n := 363 + 8 * ((sW S).2.2.length : Int)) (by omega) (by omega), zb_w (n := 363 + 8 * ((sW S).2.2.length : Int) + (k : Int)) (by omega) (by omega), if_pos (by omega), zb_s (by omega), tn (x := 363 + 8 * ((sW S).2.2.length : Int) + (k : Int)) (n := 363 + 8 * (sW S).2.2.length + k) (by omega), tn (n := 40 * r' + k) (by omega), e42, zb_w (by omega) (by omega)]
              refine ih (k + 1) _ (by omega) (hf.u ⟨rfl, rfl, by omega⟩) (fun j hj' => ?_) (by rw [u3_k (by omega), h9])
              by_cases e : j = k
              · subst e; rw [u3_eq]; omega
              · rw [u3_k (by omega), hj j (by omega)]
          obtain ⟨D1, g1, g2, g3, g4⟩ := key (rwD S r').2.length 0 (u3 D0 22 0 (357 + (sW S).2.2.length) ((rwD S r').2.length : Int)) (by omega) ((fr.rf D0).u ⟨rfl, rfl, by omega⟩) (fun j hj => by omega) (by rw [u3_eq])
          have hn : ∀ t i k, ¬ (t = 22 ∧ i = 0 ∧ (k = 357 + (sW S).2.2.length ∨ (363 + 8 * (sW S).2.2.length ≤ k ∧ k < 371 + 8 * (sW S).2.2.length))) → ¬ (t = 22 ∧ i = 0 ∧ k = 356) → u3 D1 22 0 356 (((sW S).2.2.length + 1 : Nat) : Int) t i k = D0 t i k := by
            intro t i k n1 n2
            rw [u3_a, if_neg n2]
            exact g2 t i k n1
          obtain ⟨⟨q1, q2, q3, q4, q5⟩, r2, r3, r4⟩ := hM
          refine ⟨_, g1, ⟨⟨fun k hk => (hn _ _ _ (by omega) (by omega)).trans (q1 k hk), (hn _ _ _ (by omega) (by omega)).trans q2, fun c v hv => (q3 c v hv).fr (hS.1.2.2.1 v (List.mem_of_getElem? hv)) fun k k1 k2 => ?_, ?_, fun p l hp9 => ?_⟩, fun i hi => (r2 i hi).on (hS.2.1 i hi) (hn _ _ _ (by omega) (by omega)) (fun k k1 k2 => hn _ _ _ (by omega) (by omega)), fun r hr => (r3 r hr).on fun t k ht => hn _ _ _ (by omega) (by omega), r4.on (hn _ _ _ (by omega) (by omega)) (hn _ _ _ (by omega) (by omega)) (hn _ _ _ (by omega) (by omega)) (fun k => hn _ _ _ (by omega) (by omega))⟩, hT.tr fun t i k hz => ?_⟩
          · have hv' : (sW S).2.1[c]? = some v := hv
            have := lt_of_some hv'
            have := hS.n6
            exact hn _ _ _ (by omega) (by omega)
          · rw [Nat.zero_add, u3_eq]
            show _ = (((sW S).2.2 ++ [_]).length : Int)
            rw [List.length_append]
            rfl
          · have hp9 : ((sW S).2.2 ++ [(rwD S r').2.map Int.toNat])[p]? = some l := hp9
            by_cases e1 : p < (sW S).2.2.length
            · rw [List.getElem?_append_left e1] at hp9
              have hl8 := (hS.1.2.2.2.2.2 l (List.mem_of_getElem? hp9)).2.1
              obtain ⟨w1, w2⟩ := q5 p l hp9
              exact ⟨(hn _ _ _ (by omega) (by omega)).trans w1, fun k hk => (hn _ _ _ (by omega) (by omega)).trans (w2 k hk)⟩
            · have hlt := lt_of_some hp9
              rw [List.length_append] at hlt
              have : p = (sW S).2.2.length := by simp at hlt; omega
              subst this
              rw [List.getElem?_append_right (Nat.le_refl _), Nat.sub_self] at hp9
              cases hp9
              refine ⟨?_, fun k hk => ?_⟩
              · rw [Nat.zero_add, u3_k (by omega), g4, List.length_map]
              · rw [List.length_map] at hk
                rw [Nat.zero_add, u3_k (by omega), g3 k hk, tl_get hk]
          · unfold mY at hz
            exact hn t i k (by omega) (by omega)
        · rw [e, if_neg (by decide), if_neg (fun z => by have := z.2; omega)]
          exact ⟨_, rfl, hM, th_mY D⟩
      · rw [if_neg (show ¬ ((1 : Int) ≤ ((rwD S r').2.length : Int) ∧ ((rwD S r').2.length : Int) ≤ 8) by omega), if_pos rfl, if_neg (fun z => h3 z.1)]
        exact ⟨_, rfl, hM, th_mY D⟩
    · rw [if_neg (fun z => h1 (w1.mp z)), if_neg h1, w2 h1]
      exact ⟨_, rfl, hM, th_mY D⟩
  · have e := rrI_out (S := S) h0
    rw [if_neg h0, if_neg (by decide), if_neg (by rw [e]; decide), e]
    exact ⟨_, rfl, hM, th_mY D⟩
theorem ok_piece {S : St} {x : Int} (hS : SOK S) : SOK (f_piece S x).2 := by
  unfold f_piece
  split
  · split
    · exact hS
    · rename_i h1 h2
      split
      · rename_i h3
        have hat := atI_1 h3.2
        obtain ⟨⟨o1, o2, o3, o4, o5, o6⟩, h⟩ := hS
        refine ⟨⟨o1, o2, o3, o4, ?_, fun p hp9 => ?_⟩, h⟩
        · show ((sW S).2.2 ++ [_]).length ≤ 6
          rw [List.length_append]
          show (sW S).2.2.length + 1 ≤ 6
          omega
        · rcases List.mem_append.mp hp9 with z | z
          · exact o6 p z
          · rw [List.mem_singleton.mp z]
            rw [List.length_map]
            refine ⟨h3.1.1, h3.1.2, fun t ht => ?_⟩
            obtain ⟨y, hy, rfl⟩ := List.mem_map.mp ht
            have := hat y hy
            show y.toNat < (sW S).1 0
            omega
      · exact hS
  · exact hS
end
