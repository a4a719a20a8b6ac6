/-! the class's courier: hear, setMind, begin, likeMindOf, likeOf -/
section
theorem d_push {l : List Nat} {t : Nat} (hl : ∀ t ∈ l, t < 16) (hn : l.length ≤ 9) (ht : t < 16) : d_orr (d_sl (enc l : Int) 4) (t : Int) = ((enc (t :: l) : Nat) : Int) := by
  have hb := enc_10 hl (by omega)
  have c5 : d_sl ((enc l : Nat) : Int) 4 = ((enc l * 16 : Nat) : Int) := zd_sl (n := enc l) (t := 4) (by omega) (by omega)
  rw [c5, zd_or (by omega) (by omega), Nat.mul_comm, show (16 : Nat) = 2 ^ 4 by decide, ← Nat.two_pow_add_eq_or_of_lt (i := 4) (b := t) (by omega), enc]
  omega
theorem bs_push {l : List Nat} {t : Nat} (hl : ∀ t ∈ l, t < 16) (ht : t < 16) : b_orr (bs l : Int) (b_sl 1 (t : Int)) = ((bs (t :: l) : Nat) : Int) := by
  have hb := bs_31 hl
  have h2 : 2 ^ t < 2 ^ 16 := zb_p2 ht
  rw [zb_sl (by omega), zb_or (by omega) (by omega), bs, Nat.or_comm]
theorem bs_pop {l r : List Nat} {u : Nat} (hn : l.Nodup) (hl : ∀ t ∈ l, t < 16) (he : l = r ++ [u]) : b_an (bs l : Int) (b_xr (b_sl 1 (u : Int)) (-1)) = ((bs r : Nat) : Int) := by
  have hb := bs_31 hl
  have hu : u < 16 := hl u (by rw [he]; simp)
  have h2 : 2 ^ u < 2 ^ 16 := zb_p2 hu
  rw [zb_sl (by omega), zb_nd (by omega) (by omega)]
  congr 1
  apply Nat.eq_of_testBit_eq
  intro j
  rw [nd_bit, bs_bit, bs_bit, Nat.testBit_two_pow]
  have hd : u ∉ r := by
    rw [he, List.nodup_append] at hn
    exact fun z => hn.2.2 u z u (by simp) rfl
  rw [he]
  by_cases h : u = j
  · subst h
    simp [hd]
  · have : ¬ j = u := fun e => h e.symm
    simp [h, this]
theorem d_popm {l : List Nat} {n : Nat} (hl : ∀ t ∈ l, t < 16) (hn : l.length ≤ 10) (h9 : n ≤ 9) : d_an (enc l : Int) (w64 ((d_sl 1 (w32 (4 * (n : Int)))) - 1)) = ((enc (l.take n) : Nat) : Int) := by
  have hb := enc_10 hl hn
  have b2 : 16 ^ n ≤ 16 ^ 9 := Nat.pow_le_pow_right (by omega) (by omega)
  have b3 : 0 < 16 ^ n := Nat.pow_pos (by omega)
  rw [zb_w (by omega) (by omega), show (4 : Int) * (n : Int) = ((4 * n : Nat) : Int) by omega]
  have c3 : d_sl 1 ((4 * n : Nat) : Int) = ((16 ^ n : Nat) : Int) := by
    have := zd_sl (n := 1) (t := 4 * n) (by omega) (by rw [p16]; omega)
    rw [Nat.one_mul, p16] at this
    exact this
  have c4 : w64 (((16 ^ n : Nat) : Int) - 1) = ((2 ^ (4 * n) - 1 : Nat) : Int) := by
    rw [p16, zb_w64 (by omega) (by omega)]
    omega
  rw [c3, c4, zd_an (by omega) (by rw [p16]; omega), Nat.and_two_pow_sub_one_eq_mod, p16, enc_mod hl]
set_option maxHeartbeats 4000000 in
theorem s_C_hear {X : Nat × (Nat → Int)} {d : Nat} {D : DD} {i t : Nat} {v : Cr} (hd : 4 ≤ d) (hv : okc v) (h : CC D i v) (ht : t < 16) : ∃ D', ev X d m_Courier_hear [vR 3 i, vI (t : Int)] (hp D) = some (some (vI (goI (hrG v t))), hp D') ∧ CC D' i (hrV v t) ∧ fr (cP i) D D' := by
  obtain ⟨d, rfl⟩ : ∃ e, d = e + 1 := ⟨d - 1, by omega⟩
  have hv0 := hv
  have hc0 := h
  obtain ⟨h0, h1, h2, h3, h4, h5, h6⟩ := h
  obtain ⟨⟨o1, o2, o3⟩, o4, o5, o6⟩ := hv
  rw [e_Courier_hear, b_Courier_hear_0, s_C_has (by omega) h3 o5 ht]
  simp only [ab_ci]
  by_cases hm : t ∈ cL v
  · obtain ⟨g1, g2⟩ := hrG_in hv0 hm
    rw [if_pos hm, b_Courier_hear_5, if_neg (by omega), s_C_bring (by omega) hv0 hc0 hm]
    simp only [ab_cv]
    rw [b_Courier_hear_13, g1]
    refine ⟨_, rfl, ?_, (fr.rf D).u ⟨Or.inl rfl, rfl⟩⟩
    have e : hrV v t = (cN v, cS v, hrM (cL v) t, cZ v, cA v) := by unfold hrV; rw [g1, g2]; rfl
    rw [e]
    have hlen := hrM_len (l := cL v) t
    rw [if_pos hm] at hlen
    refine ⟨by rw [u3_k (by omega), h0], by rw [u3_k (by omega), h1], ?_, ?_, by rw [u3_eq], by rw [u3_k (by omega), h5], fun s hs => by rw [u3_t (by omega), h6 s hs]⟩
    · rw [u3_k (by omega), h2, ← hlen]
    · rw [u3_k (by omega), h3]
      congr 1
      apply bs_perm
      intro u
      rw [hrM_mem o4]
      constructor
      · exact Or.inr
      · rintro (rfl | z)
        · exact hm
        · exact z
  · rw [if_neg hm, b_Courier_hear_5, if_pos rfl, h4, d_push o5 (by omega) ht, u3_k (k' := 3) (by omega), h3, bs_push o5 ht, u3_k (k' := 2) (by omega), u3_k (k' := 2) (by omega), h2, zb_s (by omega)]
    generalize hD1 : u3 (u3 (u3 D 3 i 4 ((enc (t :: cL v) : Nat) : Int)) 3 i 3 ((bs (t :: cL v) : Nat) : Int)) 3 i 2 (((cL v).length + 1 : Nat) : Int) = D1
    have f0 : D1 3 i 0 = (cN v : Int) := by rw [← hD1, u3_k (by omega), u3_k (by omega), u3_k (by omega), h0]
    have f1 : D1 3 i 1 = (cS v : Int) := by rw [← hD1, u3_k (by omega), u3_k (by omega), u3_k (by omega), h1]
    have f2 : D1 3 i 2 = (((cL v).length + 1 : Nat) : Int) := by rw [← hD1, u3_eq]
    have f3 : D1 3 i 3 = ((bs (t :: cL v) : Nat) : Int) := by rw [← hD1, u3_k (by omega), u3_eq]
    have f4 : D1 3 i 4 = ((enc (t :: cL v) : Nat) : Int) := by rw [← hD1, u3_k (by omega), u3_k (by omega), u3_eq]
    have f5 : D1 3 i 5 = cZ v := by rw [← hD1, u3_k (by omega), u3_k (by omega), u3_k (by omega), h5]
    have f6 : ∀ s, s < 16 → D1 47 i s = cA v s := fun s hs => by rw [← hD1, u3_t (by omega), u3_t (by omega), u3_t (by omega), h6 s hs]
    have ff : fr (cP i) D D1 := by
      rw [← hD1]
      exact (((fr.rf D).u ⟨Or.inl rfl, rfl⟩).u ⟨Or.inl rfl, rfl⟩).u ⟨Or.inl rfl, rfl⟩
    have p1 : ∀ u ∈ t :: cL v, u < 16 := by
      intro u hu
      rcases List.mem_cons.mp hu with rfl | hu
      · exact ht
      · exact o5 u hu
    have p2 : (t :: cL v).Nodup := List.nodup_cons.mpr ⟨hm, o4⟩
    rw [b_Courier_hear_50, f2, f0]
    by_cases hr : (cL v).length < cN v
    · obtain ⟨g1, g2⟩ := hrG_room hm hr
      rw [if_pos (by omega), g1]
      have e : hrV v t = (cN v, cS v, t :: cL v, cZ v, cA v) := by unfold hrV; rw [g1, g2]; rfl
      rw [e]
      exact ⟨D1, rfl, ⟨f0, f1, f2, f3, f4, f5, f6⟩, ff⟩
    · have hl : (cL v).length = cN v := by omega
      obtain ⟨u, g1, g2, g3, g4⟩ := hrG_full hv0 hm hl
      have hu : u < 16 := o5 u g2
      rw [if_neg (by omega)]
      obtain ⟨d, rfl⟩ : ∃ e, d = e + 1 := ⟨d - 1, by omega⟩
      have q4 : u3 D1 3 i 2 ((cN v : Nat) : Int) 3 i 4 = ((enc (t :: cL v) : Nat) : Int) := by rw [u3_k (by omega), f4]
      rw [e_Courier_loseLast, b_Courier_loseLast_0, f2, zb_w (n := (((cL v).length + 1 : Nat) : Int) - 1) (by omega) (by omega), u3_eq, show (((cL v).length + 1 : Nat) : Int) - 1 = ((cN v : Nat) : Int) by omega, q4, ta_get p1 (by rw [List.length_cons]; omega) (by omega), g4, d_popm p1 (by rw [List.length_cons]; omega) o2, b_Courier_loseLast_45, if_pos (by omega), u3_k (k' := 3) (by omega), u3_k (k' := 3) (by omega), f3, bs_pop p2 p1 g3, b_Courier_loseLast_79]
      simp only [ab_ci]
      rw [b_Courier_hear_65, g1]
      refine ⟨_, rfl, ?_, ?_⟩
      · have e : hrV v t = (cN v, cS v, hrL (cN v) (cL v) t, w32 (cZ v + 1), fun k => if k = u then (cS v : Int) else cA v k) := by unfold hrV; rw [g1]; rfl
        have e1 : (t :: cL v).take (cN v) = hrL (cN v) (cL v) t := by
          rw [g3, List.take_left' ]
          have := congrArg List.length g3
          rw [List.length_cons, List.length_append] at this
          simp at this
          omega
        have e2 : (hrL (cN v) (cL v) t).length = cN v := by
          have := congrArg List.length g3
          rw [List.length_cons, List.length_append] at this
          simp at this
          omega
        rw [e]
        refine ⟨by simp [u3_a, f0], by simp [u3_a, f1], by simp [u3_a, e2], by simp [u3_a], by simp [u3_a, e1], by simp [u3_a, f5], fun s hs => ?_⟩
        by_cases hsu : s = u
        · subst hsu; simp [u3_a, f1, cA, cS]
        · simp [u3_a, hsu, f6 s hs, cA, cS]
      · refine fr.tr ff ?_
        exact (((((fr.rf D1).u ⟨Or.inl rfl, rfl⟩).u ⟨Or.inl rfl, rfl⟩).u ⟨Or.inl rfl, rfl⟩).u ⟨Or.inl rfl, rfl⟩).u ⟨Or.inr rfl, rfl⟩
theorem s_C_setMind {X : Nat × (Nat → Int)} {d : Nat} {D : DD} {i : Nat} {l : List Nat} {m : Int} (hd : 2 ≤ d) (hn : l.Nodup) (hl : ∀ t ∈ l, t < 16) : ev X d m_Courier_setMind [vR 3 i, vL m, vI (bs l : Int)] (hp D) = some (none, hp (u3 (u3 (u3 D 3 i 4 m) 3 i 3 (bs l : Int)) 3 i 2 (l.length : Int))) := by
  obtain ⟨d, rfl⟩ : ∃ e, d = e + 1 := ⟨d - 1, by omega⟩
  rw [e_Courier_setMind, b_Courier_setMind_0, s_bitCount (by omega) (bs_31 hl)]
  simp only [ab_ci]
  rw [b_Courier_setMind_15, pc_bs hn hl]
/-- an empty mind -/
def emV (n : Nat) : Cr := (n, 0, [], 0, fun _ => -1)
theorem okc.em {n : Nat} (h1 : 1 ≤ n) (h9 : n ≤ 9) : okc (emV n) := ⟨⟨h1, h9, (by show 0 < 10; omega)⟩, List.nodup_nil, (fun t ht => by cases ht), Nat.zero_le _⟩
theorem s_C_begin {X : Nat × (Nat → Int)} {d : Nat} {D : DD} {i n : Nat} (hd : 3 ≤ d) : ∃ D', ev X d m_Courier_begin [vR 3 i, vI (n : Int)] (hp D) = some (none, hp D') ∧ CC D' i (emV n) ∧ fr (cP i) D D' := by
  obtain ⟨d, rfl⟩ : ∃ e, d = e + 1 := ⟨d - 1, by omega⟩
  rw [e_Courier_begin, b_Courier_begin_0, s_fill_47 (by omega)]
  simp only [ab_cv]
  have h := s_C_setMind (X := X) (d := d) (D := fil (u3 (u3 (u3 D 3 i 0 (n : Int)) 3 i 1 0) 3 i 5 0) 47 i 16 (-1)) (i := i) (l := []) (m := 0) (by omega) List.nodup_nil (fun t ht => by cases ht)
  rw [show ((bs [] : Nat) : Int) = 0 from rfl] at h
  rw [b_Courier_begin_23, h]
  simp only [ab_cv]
  rw [b_Courier_begin_29]
  refine ⟨_, rfl, ?_, ?_⟩
  · refine ⟨by simp [u3_a, fil_a, emV, cN, cS, cL, cZ, cA], by simp [u3_a, fil_a, emV, cN, cS, cL, cZ, cA], by simp [u3_a, fil_a, emV, cN, cS, cL, cZ, cA], by simp [u3_a, fil_a, emV, cN, cS, cL, cZ, cA, bs], by simp [u3_a, fil_a, emV, cN, cS, cL, cZ, cA, enc], by simp [u3_a, fil_a, emV, cN, cS, cL, cZ, cA], fun t ht => by simp [u3_a, fil_a, emV, cN, cS, cL, cZ, cA, ht]⟩
  · refine fr.u (fr.u (fr.u ?_ ⟨Or.inl rfl, rfl⟩) ⟨Or.inl rfl, rfl⟩) ⟨Or.inl rfl, rfl⟩
    intro t j k hn
    unfold fil
    rw [if_neg (fun e => hn ⟨Or.inr e.1, e.2.1⟩)]
    exact ((((fr.rf D).u (P := cP i) ⟨Or.inl rfl, rfl⟩).u ⟨Or.inl rfl, rfl⟩).u ⟨Or.inl rfl, rfl⟩) t j k hn
/-- like another one's mind: what was lost stays as it is -/
theorem s_C_likeMind {X : Nat × (Nat → Int)} {d : Nat} {D : DD} {i j : Nat} {v w : Cr} (hd : 3 ≤ d) (hij : i ≠ j) (hv : okc v) (h : CC D j v) (g : CC D i w) : ∃ D', ev X d m_Courier_likeMindOf [vR 3 i, vR 3 j] (hp D) = some (none, hp D') ∧ CC D' i (cN v, cS v, cL v, cZ w, cA w) ∧ fr (cP i) D D' := by
  obtain ⟨d, rfl⟩ : ∃ e, d = e + 1 := ⟨d - 1, by omega⟩
  obtain ⟨h0, h1, h2, h3, h4, h5, h6⟩ := h
  obtain ⟨g0, g1, g2, g3, g4, g5, g6⟩ := g
  have hji : j ≠ i := fun e => hij e.symm
  rw [e_Courier_likeMindOf, b_Courier_likeMindOf_0, u3_i hji, u3_i hji, u3_i hji, u3_i hji, u3_i hji, h0, h1, h3, h4, s_C_setMind (by omega) hv.2.1 hv.2.2.1]
  simp only [ab_cv]
  rw [b_Courier_likeMindOf_28]
  refine ⟨_, rfl, ?_, ((((((fr.rf D).u ⟨Or.inl rfl, rfl⟩).u ⟨Or.inl rfl, rfl⟩).u ⟨Or.inl rfl, rfl⟩).u ⟨Or.inl rfl, rfl⟩).u ⟨Or.inl rfl, rfl⟩)⟩
  exact ⟨by simp [u3_a], by simp [u3_a], by simp [u3_a], by simp [u3_a], by simp [u3_a], by simp [u3_a, g5], fun t ht => by simp [u3_a, g6 t ht]⟩
theorem s_C_likeOf {X : Nat × (Nat → Int)} {d : Nat} {D : DD} {i j : Nat} {v w : Cr} (hd : 4 ≤ d) (hij : i ≠ j) (hv : okc v) (h : CC D j v) : ∃ D', ev X d m_Courier_likeOf [vR 3 i, vR 3 j] (hp D) = some (none, hp D') ∧ CC D' i v ∧ fr (cP i) D D' := by
  obtain ⟨d, rfl⟩ : ∃ e, d = e + 1 := ⟨d - 1, by omega⟩
  obtain ⟨h0, h1, h2, h3, h4, h5, h6⟩ := h
  have hji : j ≠ i := fun e => hij e.symm
  obtain ⟨d, rfl⟩ : ∃ e, d = e + 1 := ⟨d - 1, by omega⟩
  rw [e_Courier_likeOf, b_Courier_likeOf_0, e_Courier_likeMindOf, b_Courier_likeMindOf_0, u3_i hji, u3_i hji, u3_i hji, u3_i hji, u3_i hji, h0, h1, h3, h4, s_C_setMind (by omega) hv.2.1 hv.2.2.1]
  simp only [ab_cv]
  rw [b_Courier_likeMindOf_28]
  simp only []
  rw [b_Courier_likeOf_5, u3_i hji, u3_i hji, u3_i hji, u3_i hji, u3_i hji, h5]
  refine ⟨_, rfl, ?_, ?_⟩
  · exact ⟨by simp [u3_a, cpy_a], by simp [u3_a, cpy_a], by simp [u3_a, cpy_a], by simp [u3_a, cpy_a], by simp [u3_a, cpy_a], by simp [u3_a, cpy_a], fun t ht => by
      have : (t : Int) < 16 := by omega
      simp [u3_a, cpy_a, h6 t ht, this]⟩
  · intro t k z hn
    have a1 : ¬ (t = 47 ∧ k = i) := fun e => hn ⟨Or.inr e.1, e.2⟩
    have a2 : ¬ (t = 3 ∧ k = i) := fun e => hn ⟨Or.inl e.1, e.2⟩
    simp only [cpy_a, u3_a]
    rw [if_neg (fun e => a1 ⟨e.1, e.2.1⟩)]
    repeat rw [if_neg (fun e => a2 ⟨e.1, e.2.1⟩)]
end
