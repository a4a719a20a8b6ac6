/-! the reference's man: many, thingAt, placeOf, has, bitsIn, hear, empties, triesAs -/
section
/-- the man whose cells begin at b -/
def MC (D : DD) (b : Nat) (v : Cr) : Prop :=
  D 22 0 b = (cN v : Int) ∧ D 22 0 (b + 1) = (cS v : Int) ∧ D 22 0 (b + 2) = ((cL v).length : Int) ∧ D 22 0 (b + 3) = cZ v ∧ (∀ k, k < (cL v).length → D 22 0 (b + 4 + k) = ((cL v).getD k 0 : Nat)) ∧ ∀ t, t < 16 → D 22 0 (b + 13 + t) = cA v t
abbrev mB (c : Nat) : Nat := 153 + 29 * c
def mP (b : Nat) : Nat → Nat → Nat → Prop := fun t i k => t = 22 ∧ i = 0 ∧ b ≤ k ∧ k < b + 29
theorem MC.fr {D D' : DD} {b : Nat} {v : Cr} (hv : okc v) (h : MC D b v) (e : ∀ k, b ≤ k → k < b + 29 → D' 22 0 k = D 22 0 k) : MC D' b v := by
  obtain ⟨h0, h1, h2, h3, h4, h5⟩ := h
  have := hv.2.2.2
  have := hv.1.2.1
  refine ⟨by rw [e _ (by omega) (by omega), h0], by rw [e _ (by omega) (by omega), h1], by rw [e _ (by omega) (by omega), h2], by rw [e _ (by omega) (by omega), h3], fun k hk => by rw [e _ (by omega) (by omega), h4 k hk], fun t ht => by rw [e _ (by omega) (by omega), h5 t ht]⟩
theorem s_M_manAt {X : Nat × (Nat → Int)} {d : Nat} {D : DD} {c : Nat} (hd : 1 ≤ d) (hc : c ≤ 6) : ev X d m_M_manAt [vI (c : Int)] (hp D) = some (some (vI ((mB c : Nat) : Int)), hp D) := by
  obtain ⟨d, rfl⟩ : ∃ e, d = e + 1 := ⟨d - 1, by omega⟩
  rw [e_M_manAt, b_M_manAt_0, zb_w (n := 29 * (c : Int)) (by omega) (by omega), zb_w (by omega) (by omega)]
  congr 4
theorem s_M_many {X : Nat × (Nat → Int)} {d : Nat} {D : DD} {c : Nat} {v : Cr} (hd : 2 ≤ d) (hc : c ≤ 6) (h : MC D (mB c) v) : ev X d m_M_many [vR 12 0, vI (c : Int)] (hp D) = some (some (vI ((cL v).length : Int)), hp D) := by
  obtain ⟨d, rfl⟩ : ∃ e, d = e + 1 := ⟨d - 1, by omega⟩
  rw [e_M_many, b_M_many_0, s_M_manAt (by omega) hc]
  simp only [ab_ci]
  have hmb : mB c = 153 + 29 * c := rfl
  rw [b_M_many_8, zb_w (by omega) (by omega), if_pos (by omega), tn (n := mB c + 2) (by omega), h.2.2.1]
theorem s_M_thingAt {X : Nat × (Nat → Int)} {d : Nat} {D : DD} {c k : Nat} {v : Cr} (hd : 2 ≤ d) (hc : c ≤ 6) (h : MC D (mB c) v) (hk : k < (cL v).length) (h9 : (cL v).length ≤ 9) : ev X d m_M_thingAt [vR 12 0, vI (c : Int), vI (k : Int)] (hp D) = some (some (vI (((cL v).getD k 0 : Nat) : Int)), hp D) := by
  obtain ⟨d, rfl⟩ : ∃ e, d = e + 1 := ⟨d - 1, by omega⟩
  rw [e_M_thingAt, b_M_thingAt_0, s_M_manAt (by omega) hc]
  simp only [ab_ci]
  have hmb : mB c = 153 + 29 * c := rfl
  rw [b_M_thingAt_8, zb_w (n := ((mB c : Nat) : Int) + 4) (by omega) (by omega), zb_w (by omega) (by omega), if_pos (by omega), tn (n := mB c + 4 + k) (by omega), h.2.2.2.2.1 k hk]
theorem s_M_placeOf {X : Nat × (Nat → Int)} {d : Nat} {D : DD} {c t : Nat} {v : Cr} (hd : 3 ≤ d) (hc : c ≤ 6) (h : MC D (mB c) v) (h9 : (cL v).length ≤ 9) : ev X d m_M_placeOf [vR 12 0, vI (c : Int), vI (t : Int)] (hp D) = some (some (vI (ixI (cL v) t)), hp D) := by
  obtain ⟨d, rfl⟩ : ∃ e, d = e + 1 := ⟨d - 1, by omega⟩
  have key : ∀ (m k : Nat), k + m = (cL v).length → (∀ j, j < k → (cL v)[j]? ≠ some t) → at_ X d cd_M_placeOf 2 [vR 12 0, vI (c : Int), vI (t : Int), vI (k : Int)] [] (hp D) = some (some (vI (ixI (cL v) t)), hp D) := by
    intro m
    induction m with
    | zero =>
      intro k hk hj
      rw [b_M_placeOf_2, s_M_many (by omega) hc h]
      simp only [ab_ci]
      rw [b_M_placeOf_8, if_pos (by omega), ixI_ge (k := k) (by omega) hj]
    | succ m ih =>
      intro k hk hj
      rw [b_M_placeOf_2, s_M_many (by omega) hc h]
      simp only [ab_ci]
      rw [b_M_placeOf_8, if_neg (by omega), s_M_thingAt (by omega) hc h (by omega) h9]
      simp only [ab_ci]
      rw [b_M_placeOf_17]
      have g := getD_some (l := cL v) (k := k) (by omega)
      by_cases he : (cL v).getD k 0 = t
      · rw [if_neg (by omega), ixI_eq (k := k) (by rw [g, he]) hj]
      · rw [if_pos (by omega), zb_s (by omega)]
        refine ih (k + 1) (by omega) fun j hj' => ?_
        by_cases e : j = k
        · subst e
          rw [g]
          simpa using he
        · exact hj j (by omega)
  rw [e_M_placeOf, b_M_placeOf_0]
  exact key (cL v).length 0 (by omega) (fun j hj => absurd hj (by omega))
theorem s_M_has {X : Nat × (Nat → Int)} {d : Nat} {D : DD} {c t : Nat} {v : Cr} (hd : 4 ≤ d) (hc : c ≤ 6) (h : MC D (mB c) v) (h9 : (cL v).length ≤ 9) : ev X d m_M_has [vR 12 0, vI (c : Int), vI (t : Int)] (hp D) = some (some (vI (if t ∈ cL v then 1 else 0)), hp D) := by
  obtain ⟨d, rfl⟩ : ∃ e, d = e + 1 := ⟨d - 1, by omega⟩
  rw [e_M_has, b_M_has_0, s_M_placeOf (by omega) hc h h9]
  simp only [ab_ci]
  rw [b_M_has_6]
  unfold ixI
  by_cases hm : t ∈ cL v
  · rw [if_pos hm, if_neg (by omega), if_pos hm]
  · rw [if_neg hm, if_pos rfl, if_neg hm]
theorem bs_app (l r : List Nat) : bs (l ++ r) = bs l ||| bs r := by
  induction l with
  | nil => simp [bs]
  | cons a l ih => rw [List.cons_append, bs, bs, ih, Nat.or_assoc]
theorem take_getD {l : List Nat} {k : Nat} (h : k < l.length) : l.take (k + 1) = l.take k ++ [l.getD k 0] := by
  rw [List.take_succ, getD_some h]
  rfl
theorem s_M_bitsIn {X : Nat × (Nat → Int)} {d : Nat} {D : DD} {c : Nat} {v : Cr} (hd : 3 ≤ d) (hc : c ≤ 6) (h : MC D (mB c) v) (hv : okl 9 (cL v)) : ev X d m_M_bitsIn [vR 12 0, vI (c : Int)] (hp D) = some (some (vI ((bs (cL v) : Nat) : Int)), hp D) := by
  obtain ⟨d, rfl⟩ : ∃ e, d = e + 1 := ⟨d - 1, by omega⟩
  obtain ⟨o1, o2, o3⟩ := hv
  have key : ∀ (m k : Nat), k + m = (cL v).length → at_ X d cd_M_bitsIn 4 [vR 12 0, vI (c : Int), vI ((bs ((cL v).take k) : Nat) : Int), vI (k : Int)] [] (hp D) = some (some (vI ((bs (cL v) : Nat) : Int)), hp D) := by
    intro m
    induction m with
    | zero =>
      intro k hk
      rw [b_M_bitsIn_4, s_M_many (by omega) hc h]
      simp only [ab_ci]
      rw [b_M_bitsIn_10, if_pos (by omega), List.take_of_length_le (by omega)]
    | succ m ih =>
      intro k hk
      rw [b_M_bitsIn_4, s_M_many (by omega) hc h]
      simp only [ab_ci]
      rw [b_M_bitsIn_10, if_neg (by omega), s_M_thingAt (by omega) hc h (by omega) o3]
      simp only [ab_ci]
      have hu : (cL v).getD k 0 < 16 := o2 _ (List.mem_of_getElem? (getD_some (by omega)))
      have hb := bs_31 (l := (cL v).take k) (fun t ht => o2 t (List.mem_of_mem_take ht))
      have h2 : 2 ^ (cL v).getD k 0 < 2 ^ 16 := zb_p2 hu
      rw [b_M_bitsIn_21, zb_s (by omega), zb_sl (by omega), zb_or (by omega) (by omega)]
      have e : bs ((cL v).take k) ||| 2 ^ (cL v).getD k 0 = bs ((cL v).take (k + 1)) := by
        rw [take_getD (by omega), bs_app, bs, bs, Nat.or_zero]
      rw [e]
      exact ih (k + 1) (by omega)
  rw [e_M_bitsIn, b_M_bitsIn_0]
  exact key (cL v).length 0 (by omega)
/-- the row moved by one -/
def shf (D : DD) (b f : Nat) : DD := fun t i k => if t = 22 ∧ i = 0 ∧ b + 5 ≤ k ∧ k ≤ b + 4 + f then D 22 0 (k - 1) else D t i k
theorem shf_a (D : DD) (b f t i k : Nat) : shf D b f t i k = if t = 22 ∧ i = 0 ∧ b + 5 ≤ k ∧ k ≤ b + 4 + f then D 22 0 (k - 1) else D t i k := rfl
theorem s_M_shift {X : Nat × (Nat → Int)} {d : Nat} {D : DD} {b f t : Nat} {g : Int} {v4 : ab_V} (hb : b ≤ 1000) (hf : f ≤ 9) : at_ X d cd_M_hear 105 [vR 12 0, vU, vI (t : Int), vI (b : Int), v4, vI g, vI (f : Int)] [] (hp D) = some (some (vI g), hp (u3 (shf D b f) 22 0 (b + 4) (t : Int))) := by
  induction f generalizing D v4 with
  | zero =>
    rw [b_M_hear_105, if_pos (by omega), zb_w (by omega) (by omega), if_pos (by omega), tn (n := b + 4) (by omega)]
    congr 4
    funext t' i k
    rw [shf_a, if_neg (by omega)]
  | succ f ih =>
    rw [b_M_hear_105, if_neg (by omega), zb_w (n := (b : Int) + 4) (by omega) (by omega), zb_w (n := (b : Int) + 4 + ((f + 1 : Nat) : Int)) (by omega) (by omega), zb_w (by omega) (by omega), if_pos (by omega), if_pos (by omega), zb_w (by omega) (by omega), show ((f + 1 : Nat) : Int) + -1 = (f : Int) by omega, ih (by omega), tn (n := b + 4 + (f + 1)) (by omega), tn (n := b + 4 + f) (by omega)]
    congr 4
    funext t' i k
    rw [shf_a, shf_a, u3_a, u3_a]
    by_cases h1 : t' = 22 ∧ i = 0 ∧ b + 5 ≤ k ∧ k ≤ b + 4 + f
    · rw [if_pos h1, if_neg (by omega), if_pos (by omega)]
    · rw [if_neg h1]
      by_cases h2 : t' = 22 ∧ i = 0 ∧ k = b + 4 + (f + 1)
      · rw [if_pos h2, if_pos (by omega), h2.2.2]
        rfl
      · rw [if_neg h2, if_neg (by omega)]
theorem hrM_get {l : List Nat} {t j : Nat} : (hrM l t).getD j 0 = if j = 0 then t else if j ≤ l.idxOf t then l.getD (j - 1) 0 else l.getD j 0 := by
  have e : l.erase t = l.take (l.idxOf t) ++ l.drop (l.idxOf t + 1) := by
    rw [List.erase_eq_eraseIdx_of_idxOf (i := l.idxOf t) rfl, List.eraseIdx_eq_take_drop_succ]
  have hl : l.idxOf t ≤ l.length := List.idxOf_le_length
  cases j with
  | zero => simp
  | succ j =>
    rw [if_neg (by omega)]
    show (t :: l.erase t).getD (j + 1) 0 = _
    rw [e]
    simp only [List.getD_eq_getElem?_getD, List.getElem?_cons_succ]
    by_cases h : j + 1 ≤ l.idxOf t
    · rw [if_pos h, List.getElem?_append_left (by rw [List.length_take]; omega), List.getElem?_take, if_pos (by omega)]
      rfl
    · rw [if_neg h, List.getElem?_append_right (by rw [List.length_take]; omega), List.length_take, Nat.min_eq_left hl, List.getElem?_drop]
      congr 2
      omega
set_option maxHeartbeats 4000000 in
theorem s_M_hear {X : Nat × (Nat → Int)} {d : Nat} {D : DD} {c t : Nat} {v : Cr} (hd : 4 ≤ d) (hc : c ≤ 6) (hv : okc v) (h : MC D (mB c) v) (ht : t < 16) : ∃ D', ev X d m_M_hear [vR 12 0, vI (c : Int), vI (t : Int)] (hp D) = some (some (vI (goI (hrG v t))), hp D') ∧ MC D' (mB c) (hrV v t) ∧ fr (mP (mB c)) D D' := by
  obtain ⟨d, rfl⟩ : ∃ e, d = e + 1 := ⟨d - 1, by omega⟩
  have hv0 := hv
  have hc0 := h
  obtain ⟨h0, h1, h2, h3, h4, h5⟩ := h
  obtain ⟨⟨o1, o2, o3⟩, o4, o5, o6⟩ := hv
  rw [e_M_hear, b_M_hear_0, s_M_manAt (by omega) hc]
  simp only [ab_ci]
  rw [b_M_hear_4, s_M_placeOf (by omega) hc hc0 (by omega)]
  simp only [ab_ci]
  rw [b_M_hear_11]
  obtain ⟨b, hb⟩ : ∃ b, b = mB c := ⟨_, rfl⟩
  rw [← hb] at h0 h1 h2 h3 h4 h5 ⊢
  have hb9 : b ≤ 400 := by rw [hb]; unfold mB; omega
  -- the end of it, alike in all cases
  have fin : ∀ (D1 : DD) (f : Nat), f ≤ 8 → (∀ j, j < (hrL (cN v) (cL v) t).length → (j ≤ (cL v).idxOf t ↔ j ≤ f)) → D1 22 0 b = (cN v : Int) → D1 22 0 (b + 1) = (cS v : Int) → D1 22 0 (b + 2) = ((hrL (cN v) (cL v) t).length : Int) → D1 22 0 (b + 3) = loZ (hrG v t) (cZ v) → (∀ k, k < (cL v).length → D1 22 0 (b + 4 + k) = ((cL v).getD k 0 : Nat)) → (∀ t', t' < 16 → D1 22 0 (b + 13 + t') = loA (hrG v t) (cS v) (cA v) t') → fr (mP b) D D1 → MC (u3 (shf D1 b f) 22 0 (b + 4) (t : Int)) b (hrV v t) ∧ fr (mP b) D (u3 (shf D1 b f) 22 0 (b + 4) (t : Int)) := by
    intro D1 f hf hj q0 q1 q2 q3 q4 q5 qf
    have hlen : (hrL (cN v) (cL v) t).length ≤ cN v := hrL_len
    have hidx : (cL v).idxOf t ≤ (cL v).length := List.idxOf_le_length
    refine ⟨⟨?_, ?_, ?_, ?_, fun k hk => ?_, fun t' ht' => ?_⟩, ?_⟩
    · rw [u3_k (by omega), shf_a, if_neg (by omega), q0]; rfl
    · rw [u3_k (by omega), shf_a, if_neg (by omega), q1]; rfl
    · rw [u3_k (by omega), shf_a, if_neg (by omega), q2]; rfl
    · rw [u3_k (by omega), shf_a, if_neg (by omega), q3]; rfl
    · have hk : k < (hrL (cN v) (cL v) t).length := hk
      have e : (cL (hrV v t)).getD k 0 = (hrM (cL v) t).getD k 0 := by
        show (hrL (cN v) (cL v) t).getD k 0 = _
        unfold hrL
        rw [List.getD_eq_getElem?_getD, List.getElem?_take, if_pos (by omega), ← List.getD_eq_getElem?_getD]
      have hml : (hrL (cN v) (cL v) t).length ≤ (hrM (cL v) t).length := by
        unfold hrL; rw [List.length_take]; omega
      have hmm := hrM_len (l := cL v) t
      rw [e, hrM_get]
      by_cases k0 : k = 0
      · subst k0
        rw [if_pos rfl, Nat.add_zero, u3_eq]
      · rw [if_neg k0, u3_k (by omega), shf_a]
        have hjk := hj k hk
        by_cases kf : k ≤ f
        · have kp := hjk.mpr kf
          rw [if_pos ⟨rfl, rfl, by omega, by omega⟩, if_pos kp, show b + 4 + k - 1 = b + 4 + (k - 1) by omega, q4 (k - 1) (by omega)]
        · have kp : ¬ k ≤ (cL v).idxOf t := fun z => kf (hjk.mp z)
          have hin : t ∈ cL v := by
            apply Classical.byContradiction
            intro hn
            rw [if_neg hn] at hmm
            rw [List.idxOf_eq_length hn] at kp
            omega
          rw [if_pos hin] at hmm
          rw [if_neg (by omega), if_neg kp, q4 k (by omega)]
    · rw [u3_k (by omega), shf_a, if_neg (by omega), q5 t' ht']; rfl
    · intro t' i k hn
      have hn' : ¬ (t' = 22 ∧ i = 0 ∧ b ≤ k ∧ k < b + 29) := hn
      rw [u3_a, if_neg (by omega), shf_a, if_neg (by omega)]
      exact qf t' i k hn
  by_cases hm : t ∈ cL v
  · obtain ⟨g1, g2⟩ := hrG_in hv0 hm
    have hi : (cL v).idxOf t < (cL v).length := List.idxOf_lt_length_of_mem hm
    have e : ixI (cL v) t = ((cL v).idxOf t : Int) := by unfold ixI; rw [if_pos hm]
    rw [e, if_pos (by omega), b_M_hear_101, s_M_shift (by omega) (by omega), g1]
    refine ⟨_, rfl, fin D ((cL v).idxOf t) (by omega) (fun j _ => Iff.rfl) h0 h1 ?_ (by rw [h3, g1]; rfl) h4 (fun t' ht' => by rw [h5 t' ht', g1]; rfl) (fr.rf D)⟩
    rw [h2, g2, hrM_len, if_pos hm]
  · have e : ixI (cL v) t = -1 := by unfold ixI; rw [if_neg hm]
    have hi : (cL v).idxOf t = (cL v).length := List.idxOf_eq_length hm
    rw [e, if_neg (by omega), s_M_many (by omega) hc hc0]
    simp only [ab_ci]
    rw [b_M_hear_27, Int.add_zero, zb_w (n := (b : Int)) (by omega) (by omega), if_pos (by omega), Int.toNat_natCast, h0]
    by_cases hr : (cL v).length < cN v
    · obtain ⟨g1, g2⟩ := hrG_room hm hr
      rw [if_pos (by omega), zb_w (n := (b : Int) + 2) (by omega) (by omega), if_pos (by omega), if_pos (by omega), tn (n := b + 2) (by omega), h2, zb_s (by omega), b_M_hear_101, s_M_shift (by omega) (by omega), g1]
      refine ⟨_, rfl, fin _ (cL v).length (by omega) (fun j _ => by rw [hi]) (by rw [u3_k (by omega), h0]) (by rw [u3_k (by omega), h1]) ?_ (by rw [u3_k (by omega), h3, g1]; rfl) (fun k hk => by rw [u3_k (by omega), h4 k hk]) (fun t' ht' => by rw [u3_k (by omega), h5 t' ht', g1]; rfl) ((fr.rf D).u ⟨rfl, rfl, by omega, by omega⟩)⟩
      rw [u3_eq, g2, List.length_cons]
    · have hl : (cL v).length = cN v := by omega
      obtain ⟨u, g1, g2, g3, g4⟩ := hrG_full hv0 hm hl
      have hu : u < 16 := o5 u g2
      have g5 : (cL v).getD (cN v - 1) 0 = u := by
        have : ∃ m, cN v = m + 1 := ⟨cN v - 1, by omega⟩
        obtain ⟨m, hm'⟩ := this
        rw [hm'] at g4 ⊢
        exact g4
      rw [if_neg (by omega), zb_w (by omega) (by omega), show ((cL v).length : Int) + -1 = ((cN v - 1 : Nat) : Int) by omega, s_M_thingAt (by omega) hc hc0 (by omega) (by omega), g5]
      simp only [ab_ci]
      rw [b_M_hear_52, zb_w (n := (b : Int) + 3) (by omega) (by omega), if_pos (by omega), if_pos (by omega), zb_w (n := (b : Int) + 1) (by omega) (by omega), if_pos (by omega), zb_w (n := (b : Int) + 13) (by omega) (by omega), zb_w (n := (b : Int) + 13 + (u : Int)) (by omega) (by omega), if_pos (by omega), tn (x := (b : Int) + 3) (n := b + 3) (by omega), tn (x := (b : Int) + 1) (n := b + 1) (by omega), tn (n := b + 13 + u) (by omega), h3, u3_k (k' := b + 1) (by omega), h1, b_M_hear_86, b_M_hear_101, s_M_shift (by omega) (by omega), g1]
      have e2 : (hrL (cN v) (cL v) t).length = cN v := by
        have := congrArg List.length g3
        rw [List.length_cons, List.length_append] at this
        simp at this
        omega
      refine ⟨_, rfl, fin _ (cN v - 1) (by omega) (fun j hj => by omega) ?_ ?_ ?_ ?_ ?_ ?_ (((fr.rf D).u ⟨rfl, rfl, by omega, by omega⟩).u ⟨rfl, rfl, by omega, by omega⟩)⟩
      · rw [u3_k (by omega), u3_k (by omega), h0]
      · rw [u3_k (by omega), u3_k (by omega), h1]
      · rw [u3_k (by omega), u3_k (by omega), h2, e2, hl]
      · rw [u3_k (by omega), u3_eq, g1]; rfl
      · intro k hk; rw [u3_k (by omega), u3_k (by omega), h4 k hk]
      · intro t' ht'
        rw [g1]
        show _ = if t' = u then (cS v : Int) else cA v t'
        by_cases hx : t' = u
        · subst hx; rw [u3_eq, if_pos rfl]
        · rw [u3_k (by omega), u3_k (by omega), h5 t' ht', if_neg hx]
end
