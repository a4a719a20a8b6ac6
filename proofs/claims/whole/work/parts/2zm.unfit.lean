/-! calls: unfit, asked -/
section
theorem s_C_firstPlace {X : Nat × (Nat → Int)} {d : Nat} {D : DD} {S : St} {p t : Nat} (hd : 2 ≤ d) (hS : SOK S) (hC : CH D S) (hp9 : p < (sW S).2.2.length) : ev X d m_Pieces_firstPlace [vR 6 0, vI (p : Int), vI (t : Int)] (hp D) = some (some (vI (ixI (pcD S p) t)), hp D) := by
  obtain ⟨d, rfl⟩ : ∃ e, d = e + 1 := ⟨d - 1, by omega⟩
  have h6 := hS.p6
  have h8 := (hS.op hp9).2.1
  have key : ∀ (m k : Nat), k + m = (pcD S p).length → (∀ j, j < k → (pcD S p)[j]? ≠ some t) → at_ X d cd_Pieces_firstPlace 2 [vR 6 0, vI (p : Int), vI (t : Int), vI (k : Int)] [] (hp D) = some (some (vI (ixI (pcD S p) t)), hp D) := by
    intro m
    induction m with
    | zero =>
      intro k hk hj
      rw [b_Pieces_firstPlace_2, if_pos (by omega), Int.toNat_natCast, hC.pl hp9, if_pos (by omega), ixI_ge (k := k) (by omega) hj]
    | succ m ih =>
      intro k hk hj
      rw [b_Pieces_firstPlace_2, if_pos (by omega), Int.toNat_natCast, hC.pl hp9, if_neg (by omega), s_C_thingOf (by omega) hS hC hp9 (by omega)]
      simp only [ab_ci]
      rw [b_Pieces_firstPlace_18]
      have g := getD_some (l := pcD S p) (k := k) (by omega)
      by_cases he : (pcD S p).getD k 0 = t
      · rw [if_neg (by omega), ixI_eq (k := k) (by rw [g, he]) hj]
      · rw [if_pos (by omega), zb_s (by omega)]
        refine ih (k + 1) (by omega) fun j hj' => ?_
        by_cases e : j = k
        · subst e
          rw [g]
          simpa using he
        · exact hj j (by omega)
  rw [e_Pieces_firstPlace, b_Pieces_firstPlace_0]
  exact key (pcD S p).length 0 (by omega) (fun j hj => absurd hj (by omega))
theorem s_M_firstIn {X : Nat × (Nat → Int)} {d : Nat} {D : DD} {S : St} {p t : Nat} (hd : 2 ≤ d) (hS : SOK S) (hM : MH D S) (hp9 : p < (sW S).2.2.length) : ev X d m_M_firstIn [vR 12 0, vI (p : Int), vI (t : Int)] (hp D) = some (some (vI (ixI (pcD S p) t)), hp D) := by
  obtain ⟨d, rfl⟩ : ∃ e, d = e + 1 := ⟨d - 1, by omega⟩
  have h6 := hS.p6
  have h8 := (hS.op hp9).2.1
  have key : ∀ (m k : Nat), k + m = (pcD S p).length → (∀ j, j < k → (pcD S p)[j]? ≠ some t) → at_ X d cd_M_firstIn 2 [vR 12 0, vI (p : Int), vI (t : Int), vI (k : Int)] [] (hp D) = some (some (vI (ixI (pcD S p) t)), hp D) := by
    intro m
    induction m with
    | zero =>
      intro k hk hj
      rw [b_M_firstIn_2, zb_w (n := 357 + (p : Int)) (by omega) (by omega), if_pos (by omega), tn (n := 357 + p) (by omega), hM.pl hp9, if_pos (by omega), ixI_ge (k := k) (by omega) hj]
    | succ m ih =>
      intro k hk hj
      rw [b_M_firstIn_2, zb_w (n := 357 + (p : Int)) (by omega) (by omega), if_pos (by omega), tn (n := 357 + p) (by omega), hM.pl hp9, if_neg (by omega), zb_w (n := 8 * (p : Int)) (by omega) (by omega), zb_w (n := 363 + 8 * (p : Int)) (by omega) (by omega), zb_w (n := 363 + 8 * (p : Int) + (k : Int)) (by omega) (by omega), if_pos (by omega), tn (n := 363 + 8 * p + k) (by omega), hM.pt hp9 (by omega)]
      have g := getD_some (l := pcD S p) (k := k) (by omega)
      by_cases he : (pcD S p).getD k 0 = t
      · rw [if_neg (by omega), ixI_eq (k := k) (by rw [g, he]) hj]
      · rw [if_pos (by omega), zb_s (by omega)]
        refine ih (k + 1) (by omega) fun j hj' => ?_
        by_cases e : j = k
        · subst e
          rw [g]
          simpa using he
        · exact hj j (by omega)
  rw [e_M_firstIn, b_M_firstIn_0]
  exact key (pcD S p).length 0 (by omega) (fun j hj => absurd hj (by omega))
/-- two things stand turned in two pieces -/
def tuB (p q : List Nat) (t u : Nat) : Bool := decide (ixI p t ≠ -1 ∧ ixI p u ≠ -1 ∧ ixI q t ≠ -1 ∧ ixI q u ≠ -1 ∧ ¬ ((ixI p t < ixI p u) ↔ (ixI q t < ixI q u)))
def ufB (p q : List Nat) : Bool := (List.range 16).any fun t => (List.range 16).any fun u => decide (t < u) && tuB p q t u
theorem ufB_iff {p q : List Nat} : ufB p q = true ↔ ∃ t u, t < u ∧ u < 16 ∧ tuB p q t u = true := by
  unfold ufB
  rw [List.any_eq_true]
  constructor
  · rintro ⟨t, h1, h2⟩
    rw [List.any_eq_true] at h2
    obtain ⟨u, h3, h4⟩ := h2
    rw [Bool.and_eq_true, decide_eq_true_eq] at h4
    exact ⟨t, u, h4.1, List.mem_range.mp h3, h4.2⟩
  · rintro ⟨t, u, h1, h2, h3⟩
    refine ⟨t, List.mem_range.mpr (by omega), ?_⟩
    rw [List.any_eq_true]
    exact ⟨u, List.mem_range.mpr h2, by rw [Bool.and_eq_true, decide_eq_true_eq]; exact ⟨h1, h3⟩⟩
def bI (b : Bool) : Int := if b = true then 1 else 0
theorem s_C_isTurned {X : Nat × (Nat → Int)} {d : Nat} {D : DD} {S : St} {i j t u : Nat} (hd : 4 ≤ d) (hS : SOK S) (hC : CH D S) (hi : i < (sW S).2.2.length) (hj : j < (sW S).2.2.length) : ev X d m_Pieces_isTurned [vR 6 0, vI (i : Int), vI (j : Int), vI (t : Int), vI (u : Int)] (hp D) = some (some (vI (bI (tuB (pcD S i) (pcD S j) t u))), hp D) := by
  obtain ⟨d, rfl⟩ : ∃ e, d = e + 1 := ⟨d - 1, by omega⟩
  rw [e_Pieces_isTurned, b_Pieces_isTurned_0, s_C_firstPlace (by omega) hS hC hi]
  simp only [ab_ci]
  rw [b_Pieces_isTurned_6, s_C_firstPlace (by omega) hS hC hi]
  simp only [ab_ci]
  rw [b_Pieces_isTurned_15, s_C_firstPlace (by omega) hS hC hj]
  simp only [ab_ci]
  rw [b_Pieces_isTurned_23, s_C_firstPlace (by omega) hS hC hj]
  simp only [ab_ci]
  rw [b_Pieces_isTurned_32]
  unfold bI tuB
  generalize ixI (pcD S i) t = a
  generalize ixI (pcD S i) u = b
  generalize ixI (pcD S j) t = c
  generalize ixI (pcD S j) u = e
  by_cases h1 : a = -1
  · rw [if_pos h1, decide_eq_false (fun z => z.1 h1), if_neg (by decide)]
  rw [if_neg h1]
  by_cases h2 : b = -1
  · rw [if_pos h2, decide_eq_false (fun z => z.2.1 h2), if_neg (by decide)]
  rw [if_neg h2]
  by_cases h3 : c = -1
  · rw [if_pos h3, decide_eq_false (fun z => z.2.2.1 h3), if_neg (by decide)]
  rw [if_neg h3]
  by_cases h4 : e = -1
  · rw [if_pos h4, decide_eq_false (fun z => z.2.2.2.1 h4), if_neg (by decide)]
  rw [if_neg h4]
  by_cases h5 : a < b
  · rw [if_neg (by omega), b_Pieces_isTurned_70]
    by_cases h6 : c < e
    · rw [if_neg (by omega), b_Pieces_isTurned_82, if_pos rfl, decide_eq_false (fun z => z.2.2.2.2 ⟨fun _ => h6, fun _ => h5⟩), if_neg (by decide)]
    · rw [if_pos (by omega), b_Pieces_isTurned_82, if_neg (by decide), decide_eq_true ⟨h1, h2, h3, h4, fun z => h6 (z.mp h5)⟩, if_pos rfl]
  · rw [if_pos (by omega), b_Pieces_isTurned_70]
    by_cases h6 : c < e
    · rw [if_neg (by omega), b_Pieces_isTurned_82, if_neg (by decide), decide_eq_true ⟨h1, h2, h3, h4, fun z => h5 (z.mpr h6)⟩, if_pos rfl]
    · rw [if_pos (by omega), b_Pieces_isTurned_82, if_pos rfl, decide_eq_false (fun z => z.2.2.2.2 ⟨fun w => absurd w h5, fun w => absurd w h6⟩), if_neg (by decide)]
theorem s_C_areUnfit {X : Nat × (Nat → Int)} {d : Nat} {D : DD} {S : St} {i j : Nat} (hd : 5 ≤ d) (hS : SOK S) (hC : CH D S) (hi : i < (sW S).2.2.length) (hj : j < (sW S).2.2.length) : ev X d m_Pieces_areUnfit [vR 6 0, vI (i : Int), vI (j : Int)] (hp D) = some (some (vI (bI (ufB (pcD S i) (pcD S j)))), hp D) := by
  obtain ⟨d, rfl⟩ : ∃ e, d = e + 1 := ⟨d - 1, by omega⟩
  have inn : ∀ (m u t : Nat), t < 16 → u + m = 16 → t < u → (∀ t' u', t' < t → t' < u' → u' < 16 → tuB (pcD S i) (pcD S j) t' u' = false) → (∀ u', t < u' → u' < u → tuB (pcD S i) (pcD S j) t u' = false) → ((∀ t' u', t' < t + 1 → t' < u' → u' < 16 → tuB (pcD S i) (pcD S j) t' u' = false) → at_ X d cd_Pieces_areUnfit 2 [vR 6 0, vI (i : Int), vI (j : Int), vI ((t + 1 : Nat) : Int), vU] [] (hp D) = some (some (vI (bI (ufB (pcD S i) (pcD S j)))), hp D)) → at_ X d cd_Pieces_areUnfit 13 [vR 6 0, vI (i : Int), vI (j : Int), vI (t : Int), vI (u : Int)] [] (hp D) = some (some (vI (bI (ufB (pcD S i) (pcD S j)))), hp D) := by
    intro m
    induction m with
    | zero =>
      intro u t ht hu htu h1 h2 h3
      rw [b_Pieces_areUnfit_13, if_pos (by omega), zb_s (by omega)]
      refine h3 fun t' u' a b c => ?_
      by_cases e : t' = t
      · subst e; exact h2 u' b (by omega)
      · exact h1 t' u' (by omega) b c
    | succ m ih =>
      intro u t ht hu htu h1 h2 h3
      rw [b_Pieces_areUnfit_13, if_neg (by omega), s_C_isTurned (by omega) hS hC hi hj]
      simp only [ab_ci]
      rw [b_Pieces_areUnfit_29]
      cases hb : tuB (pcD S i) (pcD S j) t u with
      | false =>
        rw [if_pos (show bI false = 0 from rfl), zb_s (by omega)]
        refine ih (u + 1) t ht (by omega) (by omega) h1 (fun u' a b => ?_) h3
        by_cases e : u' = u
        · subst e; exact hb
        · exact h2 u' a (by omega)
      | true =>
        have e : ufB (pcD S i) (pcD S j) = true := ufB_iff.mpr ⟨t, u, htu, by omega, hb⟩
        rw [if_neg (show ¬ bI true = 0 by decide), e]
        rfl
  have out : ∀ (m t : Nat), t + m = 16 → (∀ t' u', t' < t → t' < u' → u' < 16 → tuB (pcD S i) (pcD S j) t' u' = false) → at_ X d cd_Pieces_areUnfit 2 [vR 6 0, vI (i : Int), vI (j : Int), vI (t : Int), vU] [] (hp D) = some (some (vI (bI (ufB (pcD S i) (pcD S j)))), hp D) := by
    intro m
    induction m with
    | zero =>
      intro t ht h1
      have e : ufB (pcD S i) (pcD S j) = false := by
        cases hq : ufB (pcD S i) (pcD S j) with
        | false => rfl
        | true =>
          obtain ⟨t', u', a, b, c⟩ := ufB_iff.mp hq
          rw [h1 t' u' (by omega) a b] at c
          cases c
      rw [b_Pieces_areUnfit_2, if_pos (by omega), e]
      rfl
    | succ m ih =>
      intro t ht h1
      rw [b_Pieces_areUnfit_2, if_neg (by omega), zb_s (by omega)]
      exact inn m (t + 1) t (by omega) (by omega) (by omega) h1 (fun u' a b => by omega) (fun h => ih (t + 1) (by omega) h)
  rw [e_Pieces_areUnfit, b_Pieces_areUnfit_0]
  exact out 16 0 (by omega) (fun t' u' a => by omega)
theorem ixI_mem {l : List Nat} {t : Nat} (h : ixI l t ≠ -1) : t ∈ l := by
  unfold ixI at h
  split at h
  · assumption
  · exact absurd rfl h
theorem ixI_inj {l : List Nat} {t u : Nat} (h : ixI l t = ixI l u) (h1 : ixI l t ≠ -1) : t = u := by
  have ht := ixI_mem h1
  have hu := ixI_mem (h ▸ h1)
  unfold ixI at h
  rw [if_pos ht, if_pos hu] at h
  have hl1 : l.idxOf t < l.length := List.idxOf_lt_length_of_mem ht
  have hl2 : l.idxOf u < l.length := List.idxOf_lt_length_of_mem hu
  have e1 : l[l.idxOf t] = t := List.getElem_idxOf hl1
  have e2 : l[l.idxOf u] = u := List.getElem_idxOf hl2
  have e3 : l.idxOf t = l.idxOf u := by omega
  simp only [e3] at e1
  exact e1.symm.trans e2
theorem tuB_iff {p q : List Nat} {t u : Nat} (hne : t ≠ u) : tuB p q t u = true ↔ (ixI p t ≠ -1 ∧ ixI p u ≠ -1 ∧ ixI q t ≠ -1 ∧ ixI q u ≠ -1) ∧ ((ixI p t < ixI p u ∧ ixI q u < ixI q t) ∨ (ixI p u < ixI p t ∧ ixI q t < ixI q u)) := by
  unfold tuB
  rw [decide_eq_true_eq]
  constructor
  · rintro ⟨h1, h2, h3, h4, h5⟩
    refine ⟨⟨h1, h2, h3, h4⟩, ?_⟩
    have n1 : ixI p t ≠ ixI p u := fun e => hne (ixI_inj e h1)
    have n2 : ixI q t ≠ ixI q u := fun e => hne (ixI_inj e h3)
    by_cases c1 : ixI p t < ixI p u
    · by_cases c2 : ixI q t < ixI q u
      · exact absurd ⟨fun _ => c2, fun _ => c1⟩ h5
      · exact Or.inl ⟨c1, by omega⟩
    · by_cases c2 : ixI q t < ixI q u
      · exact Or.inr ⟨by omega, c2⟩
      · exact absurd ⟨fun z => absurd z c1, fun z => absurd z c2⟩ h5
  · rintro ⟨⟨h1, h2, h3, h4⟩, h5⟩
    refine ⟨h1, h2, h3, h4, fun z => ?_⟩
    rcases h5 with h5 | h5
    · have := z.mp h5.1; omega
    · have := z.mpr h5.2; omega
def tdB (p q : List Nat) (a b : Nat) : Bool := decide ((ixI p a ≠ -1 ∧ ixI p b ≠ -1 ∧ ixI q a ≠ -1 ∧ ixI q b ≠ -1) ∧ ixI p a < ixI p b ∧ ixI q b < ixI q a)
theorem ufB_td {p q : List Nat} {n : Nat} (hn : n ≤ 16) (hp9 : ∀ t ∈ p, t < n) : ufB p q = true ↔ ∃ a b, a < n ∧ b < n ∧ tdB p q a b = true := by
  rw [ufB_iff]
  constructor
  · rintro ⟨t, u, h1, h2, h3⟩
    obtain ⟨⟨k1, k2, k3, k4⟩, k5⟩ := (tuB_iff (by omega)).mp h3
    have l1 := hp9 t (ixI_mem k1)
    have l2 := hp9 u (ixI_mem k2)
    rcases k5 with k5 | k5
    · exact ⟨t, u, l1, l2, decide_eq_true ⟨⟨k1, k2, k3, k4⟩, k5⟩⟩
    · exact ⟨u, t, l2, l1, decide_eq_true ⟨⟨k2, k1, k4, k3⟩, k5⟩⟩
  · rintro ⟨a, b, h1, h2, h3⟩
    obtain ⟨⟨k1, k2, k3, k4⟩, k5, k6⟩ := of_decide_eq_true h3
    have hne : a ≠ b := fun e => by subst e; omega
    by_cases hab : a < b
    · exact ⟨a, b, hab, by omega, (tuB_iff hne).mpr ⟨⟨k1, k2, k3, k4⟩, Or.inl ⟨k5, k6⟩⟩⟩
    · exact ⟨b, a, by omega, by omega, (tuB_iff (fun e => hne e.symm)).mpr ⟨⟨k2, k1, k4, k3⟩, Or.inr ⟨k5, k6⟩⟩⟩
theorem s_M_areUnfit {X : Nat × (Nat → Int)} {d : Nat} {D : DD} {S : St} {i j : Nat} (hd : 5 ≤ d) (hS : SOK S) (hM : MH D S) (hi : i < (sW S).2.2.length) (hj : j < (sW S).2.2.length) : ev X d m_M_areUnfit [vR 12 0, vI (i : Int), vI (j : Int)] (hp D) = some (some (vI (bI (ufB (pcD S i) (pcD S j)))), hp D) := by
  obtain ⟨d, rfl⟩ : ∃ e, d = e + 1 := ⟨d - 1, by omega⟩
  have h16 := hS.L.1.1
  have hl := hM.l
  have htd := ufB_td (p := pcD S i) (q := pcD S j) h16 (hS.op hi).2.2
  have one : ∀ (a b : Nat), a < 16 → b < 16 → at_ X d cd_M_areUnfit 15 [vR 12 0, vI (i : Int), vI (j : Int), vI (a : Int), vI (b : Int)] [] (hp D) = if ((sW S).1 0 : Int) ≤ (b : Int) then at_ X d cd_M_areUnfit 2 [vR 12 0, vI (i : Int), vI (j : Int), vI ((a + 1 : Nat) : Int), vU] [] (hp D) else if tdB (pcD S i) (pcD S j) a b = true then some (some (vI 1), hp D) else at_ X d cd_M_areUnfit 15 [vR 12 0, vI (i : Int), vI (j : Int), vI (a : Int), vI ((b + 1 : Nat) : Int)] [] (hp D) := by
    intro a b ha hb
    have go : at_ X d cd_M_areUnfit 105 [vR 12 0, vI (i : Int), vI (j : Int), vI (a : Int), vI (b : Int)] [] (hp D) = at_ X d cd_M_areUnfit 15 [vR 12 0, vI (i : Int), vI (j : Int), vI (a : Int), vI ((b + 1 : Nat) : Int)] [] (hp D) := by rw [b_M_areUnfit_105, zb_s (by omega)]
    rw [b_M_areUnfit_15, hl 0 (by omega), zb_s (by omega)]
    by_cases hle : ((sW S).1 0 : Int) ≤ (b : Int)
    · rw [if_pos hle, if_pos hle]
    rw [if_neg hle, if_neg hle, s_M_firstIn (by omega) hS hM hi]
    simp only [ab_ci]
    rw [b_M_areUnfit_32]
    unfold tdB
    by_cases h1 : ixI (pcD S i) a = -1
    · rw [if_pos h1, go, decide_eq_false (fun z => z.1.1 h1), if_neg (by decide)]
    rw [if_neg h1, s_M_firstIn (by omega) hS hM hi]
    simp only [ab_ci]
    rw [b_M_areUnfit_43]
    by_cases h2 : ixI (pcD S i) b = -1
    · rw [if_pos h2, go, decide_eq_false (fun z => z.1.2.1 h2), if_neg (by decide)]
    rw [if_neg h2, s_M_firstIn (by omega) hS hM hj]
    simp only [ab_ci]
    rw [b_M_areUnfit_53]
    by_cases h3 : ixI (pcD S j) a = -1
    · rw [if_pos h3, go, decide_eq_false (fun z => z.1.2.2.1 h3), if_neg (by decide)]
    rw [if_neg h3, s_M_firstIn (by omega) hS hM hj]
    simp only [ab_ci]
    rw [b_M_areUnfit_64]
    by_cases h4 : ixI (pcD S j) b = -1
    · rw [if_neg (fun z => z h4), go, decide_eq_false (fun z => z.1.2.2.2 h4), if_neg (by decide)]
    rw [if_pos h4, s_M_firstIn (by omega) hS hM hi]
    simp only [ab_ci]
    rw [b_M_areUnfit_77, s_M_firstIn (by omega) hS hM hi]
    simp only [ab_ci]
    rw [b_M_areUnfit_84]
    by_cases h5 : ixI (pcD S i) a < ixI (pcD S i) b
    · rw [if_neg (by omega), s_M_firstIn (by omega) hS hM hj]
      simp only [ab_ci]
      rw [b_M_areUnfit_93, s_M_firstIn (by omega) hS hM hj]
      simp only [ab_ci]
      rw [b_M_areUnfit_100]
      by_cases h6 : ixI (pcD S j) b < ixI (pcD S j) a
      · rw [if_neg (by omega), decide_eq_true ⟨⟨h1, h2, h3, h4⟩, h5, h6⟩, if_pos rfl]
      · rw [if_pos (by omega), go, decide_eq_false (fun z => h6 z.2.2), if_neg (by decide)]
    · rw [if_pos (by omega), go, decide_eq_false (fun z => h5 z.2.1), if_neg (by decide)]
  have inn : ∀ (m b a : Nat), a < (sW S).1 0 → b + m = (sW S).1 0 → (∀ a' b', a' < a → b' < (sW S).1 0 → tdB (pcD S i) (pcD S j) a' b' = false) → (∀ b', b' < b → tdB (pcD S i) (pcD S j) a b' = false) → ((∀ a' b', a' < a + 1 → b' < (sW S).1 0 → tdB (pcD S i) (pcD S j) a' b' = false) → at_ X d cd_M_areUnfit 2 [vR 12 0, vI (i : Int), vI (j : Int), vI ((a + 1 : Nat) : Int), vU] [] (hp D) = some (some (vI (bI (ufB (pcD S i) (pcD S j)))), hp D)) → at_ X d cd_M_areUnfit 15 [vR 12 0, vI (i : Int), vI (j : Int), vI (a : Int), vI (b : Int)] [] (hp D) = some (some (vI (bI (ufB (pcD S i) (pcD S j)))), hp D) := by
    intro m
    induction m with
    | zero =>
      intro b a ha hb h1 h2 h3
      by_cases hb16 : b < 16
      · rw [one a b (by omega) hb16, if_pos (by omega)]
        refine h3 fun a' b' c1 c2 => ?_
        by_cases e : a' = a
        · subst e; exact h2 b' (by omega)
        · exact h1 a' b' (by omega) c2
      · rw [b_M_areUnfit_15, hl 0 (by omega), if_pos (by omega), zb_s (by omega)]
        refine h3 fun a' b' c1 c2 => ?_
        by_cases e : a' = a
        · subst e; exact h2 b' (by omega)
        · exact h1 a' b' (by omega) c2
    | succ m ih =>
      intro b a ha hb h1 h2 h3
      rw [one a b (by omega) (by omega), if_neg (by omega)]
      cases hq : tdB (pcD S i) (pcD S j) a b with
      | true =>
        have e : ufB (pcD S i) (pcD S j) = true := htd.mpr ⟨a, b, ha, by omega, hq⟩
        rw [if_pos rfl, e]
        rfl
      | false =>
        rw [if_neg (by decide)]
        refine ih (b + 1) a ha (by omega) h1 (fun b' hb' => ?_) h3
        by_cases e : b' = b
        · subst e; exact hq
        · exact h2 b' (by omega)
  have out : ∀ (m a : Nat), a + m = (sW S).1 0 → (∀ a' b', a' < a → b' < (sW S).1 0 → tdB (pcD S i) (pcD S j) a' b' = false) → at_ X d cd_M_areUnfit 2 [vR 12 0, vI (i : Int), vI (j : Int), vI (a : Int), vU] [] (hp D) = some (some (vI (bI (ufB (pcD S i) (pcD S j)))), hp D) := by
    intro m
    induction m with
    | zero =>
      intro a ha h1
      have e : ufB (pcD S i) (pcD S j) = false := by
        cases hq : ufB (pcD S i) (pcD S j) with
        | false => rfl
        | true =>
          obtain ⟨a', b', c1, c2, c3⟩ := htd.mp hq
          rw [h1 a' b' (by omega) c2] at c3
          cases c3
      rw [b_M_areUnfit_2, hl 0 (by omega), if_pos (by omega), e]
      rfl
    | succ m ih =>
      intro a ha h1
      rw [b_M_areUnfit_2, hl 0 (by omega), if_neg (by omega)]
      exact inn ((sW S).1 0) 0 a (by omega) (by omega) h1 (fun b' hb => by omega) (fun h => ih (a + 1) (by omega) h)
  rw [e_M_areUnfit, b_M_areUnfit_0]
  exact out ((sW S).1 0) 0 (by omega) (fun a' b' h => by omega)
def ufI (S : St) (i : Nat) : Option Nat := ff (fun j => ufB (pcD S i) (pcD S j)) (i + 1) ((sW S).2.2.length - (i + 1))
def ufO (S : St) : Nat → Nat → Int
  | _, 0 => -1
  | i, m + 1 => match ufI S i with
    | some j => ((10 * i + j : Nat) : Int)
    | none => ufO S (i + 1) m
def f_unfit (S : St) : Int × St := (ufO S 0 (sW S).2.2.length, S)
theorem C_unfit {X : Nat × (Nat → Int)} {d : Nat} {D : DD} {S : St} (hd : 8 ≤ d) (hS : SOK S) (hC : CH D S) : cRes X d m_N_unfit [] D (f_unfit S) := by
  obtain ⟨d, rfl⟩ : ∃ e, d = e + 1 := ⟨d - 1, by omega⟩
  have h6 := hS.p6
  have inn : ∀ (m j i : Nat), i < (sW S).2.2.length → j + m = (sW S).2.2.length → at_ X d cd_N_unfit 17 [vR 11 0, vI (i : Int), vI (j : Int)] [] (hp D) = match ff (fun j => ufB (pcD S i) (pcD S j)) j m with
      | some j' => some (some (vI ((10 * i + j' : Nat) : Int)), hp D)
      | none => at_ X d cd_N_unfit 2 [vR 11 0, vI ((i + 1 : Nat) : Int), vU] [] (hp D) := by
    intro m
    induction m with
    | zero =>
      intro j i hi hj
      rw [b_N_unfit_17, hC.pn, if_pos (by omega), zb_s (by omega)]
      rfl
    | succ m ih =>
      intro j i hi hj
      rw [b_N_unfit_17, hC.pn, if_neg (by omega), s_C_areUnfit (by omega) hS hC hi (by omega)]
      simp only [ab_ci]
      rw [b_N_unfit_37, ff]
      cases hq : ufB (pcD S i) (pcD S j) with
      | true =>
        rw [if_neg (show ¬ bI true = 0 by decide), if_pos rfl, zb_w (n := 10 * (i : Int)) (by omega) (by omega), zb_w (by omega) (by omega)]
        congr 4
      | false =>
        rw [if_pos (show bI false = 0 from rfl), if_neg (by decide), zb_s (by omega)]
        exact ih (j + 1) i hi (by omega)
  have out : ∀ (m i : Nat), i + m = (sW S).2.2.length → at_ X d cd_N_unfit 2 [vR 11 0, vI (i : Int), vU] [] (hp D) = some (some (vI (ufO S i m)), hp D) := by
    intro m
    induction m with
    | zero =>
      intro i hi
      rw [b_N_unfit_2, hC.pn, if_pos (by omega)]
      rfl
    | succ m ih =>
      intro i hi
      rw [b_N_unfit_2, hC.pn, if_neg (by omega), zb_s (by omega), inn m (i + 1) i (by omega) (by omega), ufO]
      unfold ufI
      rw [show (sW S).2.2.length - (i + 1) = m by omega]
      cases ff (fun j => ufB (pcD S i) (pcD S j)) (i + 1) m with
      | none => exact ih (i + 1) (by omega)
      | some j => rfl
  unfold cRes f_unfit
  rw [e_N_unfit, b_N_unfit_0]
  exact ⟨D, out (sW S).2.2.length 0 (by omega), hC, fr.rf D⟩
theorem M_unfit {X : Nat × (Nat → Int)} {d : Nat} {D : DD} {S : St} (hd : 8 ≤ d) (hS : SOK S) (hM : MH D S) : mRes X d m_M_unfit [] D (f_unfit S) := by
  obtain ⟨d, rfl⟩ : ∃ e, d = e + 1 := ⟨d - 1, by omega⟩
  have h6 := hS.p6
  have hM := hM.th hS
  unfold mRes f_unfit
  rw [e_M_unfit, b_M_unfit_0]
  refine ⟨_, ?_, hM, th_mY D⟩
  generalize u3 D 12 0 0 0 = D at hM ⊢
  have inn : ∀ (m j i : Nat), i < (sW S).2.2.length → j + m = (sW S).2.2.length → at_ X d cd_M_unfit 23 [vR 12 0, vI (i : Int), vI (j : Int)] [] (hp D) = match ff (fun j => ufB (pcD S i) (pcD S j)) j m with
      | some j' => some (some (vI ((10 * i + j' : Nat) : Int)), hp D)
      | none => at_ X d cd_M_unfit 7 [vR 12 0, vI ((i + 1 : Nat) : Int), vU] [] (hp D) := by
    intro m
    induction m with
    | zero =>
      intro j i hi hj
      rw [b_M_unfit_23, hM.pn, if_pos (by omega), zb_s (by omega)]
      rfl
    | succ m ih =>
      intro j i hi hj
      rw [b_M_unfit_23, hM.pn, if_neg (by omega), s_M_areUnfit (by omega) hS hM hi (by omega)]
      simp only [ab_ci]
      rw [b_M_unfit_41, ff]
      cases hq : ufB (pcD S i) (pcD S j) with
      | true =>
        rw [if_neg (show ¬ bI true = 0 by decide), if_pos rfl, zb_w (n := 10 * (i : Int)) (by omega) (by omega), zb_w (by omega) (by omega)]
        congr 4
      | false =>
        rw [if_pos (show bI false = 0 from rfl), if_neg (by decide), zb_s (by omega)]
        exact ih (j + 1) i hi (by omega)
  have out : ∀ (m i : Nat), i + m = (sW S).2.2.length → at_ X d cd_M_unfit 7 [vR 12 0, vI (i : Int), vU] [] (hp D) = some (some (vI (ufO S i m)), hp D) := by
    intro m
    induction m with
    | zero =>
      intro i hi
      rw [b_M_unfit_7, hM.pn, if_pos (by omega)]
      rfl
    | succ m ih =>
      intro i hi
      rw [b_M_unfit_7, hM.pn, if_neg (by omega), zb_s (by omega), inn m (i + 1) i (by omega) (by omega), ufO]
      unfold ufI
      rw [show (sW S).2.2.length - (i + 1) = m by omega]
      cases ff (fun j => ufB (pcD S i) (pcD S j)) (i + 1) m with
      | none => exact ih (i + 1) (by omega)
      | some j => rfl
  exact out (sW S).2.2.length 0 (by omega)
end
