/-! the lore's questions of the reference; deliver, empties, triesAs -/
section
theorem s_M_worthOf {X : Nat × (Nat → Int)} {d : Nat} {D : DD} {s : Nat} {L : Nat → Nat} (hd : 1 ≤ d) (hL : LOK L) (hl : LM D L) (hs : s < 65536) : ev X d m_M_worthOf [vR 12 0, vI (s : Int)] (hp D) = some (some (vI (wrS L s : Int)), hp D) := by
  obtain ⟨d, rfl⟩ : ∃ e, d = e + 1 := ⟨d - 1, by omega⟩
  have h16 := hL.1.1
  have key : ∀ (m k : Nat), k + m = L 0 → at_ X d cd_M_worthOf 4 [vR 12 0, vI (s : Int), vI (wsU L s k : Int), vI (k : Int)] [] (hp D) = some (some (vI (wrS L s : Int)), hp D) := by
    intro m
    induction m with
    | zero =>
      intro k hk
      rw [b_M_worthOf_4, hl 0 (by omega), if_pos (by omega)]
      rw [show k = L 0 by omega]
      rfl
    | succ m ih =>
      intro k hk
      have h1 := wsU_le hL s (k := k) (by omega)
      have h2 := hL.2.2.2.2.2.1 k (by omega)
      have h3 := ih (k + 1) (by omega)
      rw [wsU] at h3
      rw [b_M_worthOf_4, hl 0 (by omega), if_neg (by omega), zb_bit (by omega) (by omega)]
      by_cases hb : s.testBit k = true
      · rw [if_pos hb] at h3
        rw [if_pos hb, if_neg (by omega), zb_w (n := 34 + (k : Int)) (by omega) (by omega), if_pos (by omega), tn (n := 34 + k) (by omega), hl (34 + k) (by omega), b_M_worthOf_37, zb_w (by omega) (by omega), zb_s (by omega), ← Int.natCast_add]
        exact h3
      · rw [if_neg hb, Nat.add_zero] at h3
        rw [if_neg hb, if_pos (by omega), b_M_worthOf_37, Int.add_zero, zb_w (by omega) (by omega), zb_s (by omega)]
        exact h3
  rw [e_M_worthOf, b_M_worthOf_0]
  exact key (L 0) 0 (by omega)
theorem s_M_bitsOf {X : Nat × (Nat → Int)} {d : Nat} {D : DD} {s : Nat} (hd : 1 ≤ d) (hs : s < 65536) : ev X d m_M_bitsOf [vI (s : Int)] (hp D) = some (some (vI (pc s : Int)), hp D) := by
  obtain ⟨d, rfl⟩ : ∃ e, d = e + 1 := ⟨d - 1, by omega⟩
  have key : ∀ (m k : Nat), k + m = 16 → at_ X d cd_M_bitsOf 4 [vI (s : Int), vI (pcU s k : Int), vI (k : Int)] [] (hp D) = some (some (vI (pc s : Int)), hp D) := by
    intro m
    induction m with
    | zero =>
      intro k hk
      rw [b_M_bitsOf_4, if_pos (by omega), show k = 16 by omega, pcU_pc]
    | succ m ih =>
      intro k hk
      have h1 : pcU s k ≤ k := by
        rw [pcU_eq]
        have := List.length_filter_le (fun t => s.testBit t) (List.range k)
        rw [List.length_range] at this
        exact this
      have h3 := ih (k + 1) (by omega)
      rw [pcU] at h3
      rw [b_M_bitsOf_4, if_neg (by omega), zb_bit (by omega) (by omega), zb_s (by omega)]
      by_cases hb : s.testBit k = true
      · rw [if_pos hb] at h3
        rw [if_pos hb, zb_w (by omega) (by omega)]
        exact h3
      · rw [if_neg hb, Nat.add_zero] at h3
        rw [if_neg hb, Int.add_zero, zb_w (by omega) (by omega)]
        exact h3
  rw [e_M_bitsOf, b_M_bitsOf_0]
  exact key 16 0 (by omega)
theorem s_M_isSet {X : Nat × (Nat → Int)} {d : Nat} {D : DD} {x : Int} {L : Nat → Nat} (hd : 2 ≤ d) (hL : LOK L) (hl : LM D L) : ev X d m_M_isSet [vR 12 0, vI x] (hp D) = some (some (vI (setI L x)), hp D) := by
  obtain ⟨d, rfl⟩ : ∃ e, d = e + 1 := ⟨d - 1, by omega⟩
  have h16 := hL.1.1
  have hp9 : 2 ^ L 0 ≤ 2 ^ 16 := p2le h16
  have hp8 : 0 < 2 ^ L 0 := Nat.pow_pos (by omega)
  rw [e_M_isSet, b_M_isSet_0, hl 0 (by omega), zb_sl (by omega)]
  unfold setI
  generalize 2 ^ L 0 = w at hp9 hp8
  rw [zb_w (by omega) (by omega), s_M_within (by omega)]
  simp only [ab_ci]
  rw [b_M_isSet_17]
  by_cases h : 0 ≤ x ∧ x < (w : Int)
  · rw [if_pos (show 0 ≤ x ∧ x ≤ (w : Int) - 1 by omega), if_pos h, if_pos (by omega)]
  · rw [if_neg (show ¬ (0 ≤ x ∧ x ≤ (w : Int) - 1) by omega), if_neg h, if_pos (by omega)]
/-- a set within another one, not the same, has fewer -/
theorem pc_lt {a b : Nat} (hb : b < 65536) (h : ∀ i, a.testBit i = true → b.testBit i = true) (hne : a ≠ b) : pc a < pc b := by
  have ha : a < 65536 := Nat.lt_pow_two_of_testBit (n := 16) a fun i hi => by
    cases hx : a.testBit i with
    | false => rfl
    | true =>
      have := bit_lt (k := 16) hb (h i hx)
      omega
  have hx : ∃ x, b.testBit x = true ∧ a.testBit x = false := by
    apply Classical.byContradiction
    intro hn
    apply hne
    apply Nat.eq_of_testBit_eq
    intro i
    cases hi : a.testBit i with
    | true => exact (h i hi).symm
    | false =>
      cases hj : b.testBit i with
      | false => rfl
      | true => exact absurd ⟨i, hj, hi⟩ hn
  obtain ⟨x, x1, x2⟩ := hx
  have h1 : (x :: els a).Nodup := List.nodup_cons.mpr ⟨(fun z => by rw [(els_mem ha).mp z] at x2; cases x2), els_nd a⟩
  have h2 : ∀ y ∈ x :: els a, y ∈ els b := by
    intro y hy
    rcases List.mem_cons.mp hy with rfl | hy
    · exact (els_mem hb).mpr x1
    · exact (els_mem hb).mpr (h y ((els_mem ha).mp hy))
  have h3 := List.Nodup.length_le_of_subset h1 h2
  rw [List.length_cons] at h3
  exact h3
theorem pc_mono {a b : Nat} (hb : b < 65536) (h : ∀ i, a.testBit i = true → b.testBit i = true) : pc a ≤ pc b := by
  by_cases e : a = b
  · subst e; exact Nat.le_refl _
  · exact Nat.le_of_lt (pc_lt hb h e)
theorem pc_bound {n k : Nat} (hk : k ≤ 16) (h : n < 2 ^ k) : pc n ≤ k := by
  have h0 : n < 65536 := Nat.lt_of_lt_of_le h (p2le (b := 16) hk)
  have h2 : ∀ y ∈ els n, y ∈ List.range k := fun y hy => List.mem_range.mpr (bit_lt h ((els_mem h0).mp hy))
  have h3 := List.Nodup.length_le_of_subset (els_nd n) h2
  rw [List.length_range] at h3
  exact h3
theorem rhU_sub {L : Nat → Nat} (s k : Nat) : ∀ i, s.testBit i = true → (rhU L s k).testBit i = true := by
  induction k with
  | zero => exact fun i h => h
  | succ k ih =>
    intro i h
    rw [rhU]
    split
    · rw [Nat.testBit_or, ih i h]; rfl
    · exact ih i h
theorem clo_step {L : Nat → Nat} (hL : LOK L) (k : Nat) : ∀ s, s < 2 ^ L 0 → (rhS L (itS L k s) = itS L k s ∨ k + pc s < pc (rhS L (itS L k s))) ∧ itS L k s < 2 ^ L 0 := by
  have h16 := hL.1.1
  have hp9 : 2 ^ L 0 ≤ 2 ^ 16 := p2le h16
  induction k with
  | zero =>
    intro s hs
    refine ⟨?_, hs⟩
    by_cases e : rhS L s = s
    · exact Or.inl e
    · refine Or.inr ?_
      have := pc_lt (Nat.lt_of_lt_of_le (rhU_lt hL (Nat.le_refl _) hs h16) hp9) (rhU_sub (L := L) s (L 0)) (fun z => e z.symm)
      show 0 + pc s < pc (rhS L s)
      unfold rhS
      omega
  | succ k ih =>
    intro s hs
    rw [itS]
    have hs' : rhS L s < 2 ^ L 0 := rhU_lt hL (Nat.le_refl _) hs h16
    obtain ⟨h1, h2⟩ := ih (rhS L s) hs'
    refine ⟨?_, h2⟩
    rcases h1 with h1 | h1
    · exact Or.inl h1
    · by_cases e : rhS L s = s
      · refine Or.inl ?_
        rw [e, itS_fix e, e]
      · have := pc_lt (Nat.lt_of_lt_of_le hs' hp9) (rhU_sub (L := L) s (L 0)) (fun z => e z.symm)
        have : pc s < pc (rhS L s) := this
        exact Or.inr (by omega)
theorem clo_fix {L : Nat → Nat} (hL : LOK L) {s : Nat} (hs : s < 2 ^ L 0) : rhS L (clo L s) = clo L s ∧ clo L s < 2 ^ L 0 := by
  obtain ⟨h1, h2⟩ := clo_step hL (L 0) s hs
  refine ⟨?_, h2⟩
  rcases h1 with h1 | h1
  · exact h1
  · have h3 : pc (rhS L (itS L (L 0) s)) ≤ L 0 := pc_bound hL.1.1 (rhU_lt hL (Nat.le_refl _) h2 hL.1.1)
    omega
theorem rhS_0 (L : Nat → Nat) : rhS L 0 = 0 := by
  have : ∀ k, rhU L 0 k = 0 := by
    intro k
    induction k with
    | zero => rfl
    | succ k ih => rw [rhU, Nat.zero_testBit, if_neg (by decide), ih]
  exact this _
theorem s_M_backOf {X : Nat × (Nat → Int)} {d : Nat} {D : DD} {s : Nat} {L : Nat → Nat} (hd : 1 ≤ d) (hL : LOK L) (hl : LM D L) (hs : s < 2 ^ L 0) : ev X d m_M_backOf [vR 12 0, vI (s : Int)] (hp D) = some (some (vI (clo L s : Int)), hp D) := by
  obtain ⟨d, rfl⟩ : ∃ e, d = e + 1 := ⟨d - 1, by omega⟩
  have h16 := hL.1.1
  have hp9 : 2 ^ L 0 ≤ 2 ^ 16 := p2le h16
  have inn : ∀ (m k s : Nat), s < 65536 → k + m = L 0 → at_ X d cd_M_backOf 14 [vR 12 0, vU, vI (rhU L s k : Int), vI (s : Int), vI (k : Int)] [] (hp D) = at_ X d cd_M_backOf 4 [vR 12 0, vU, vI (rhS L s : Int), vI (s : Int), vU] [] (hp D) := by
    intro m
    induction m with
    | zero =>
      intro k s hs hk
      rw [show k = L 0 by omega, b_M_backOf_14, hl 0 (by omega), if_pos (by omega)]
      rfl
    | succ m ih =>
      intro k s hs hk
      have h3 := ih (k + 1) s hs (by omega)
      have h4 := rhU_lt hL (s := s) (n := 16) (k := k) h16 hs (by omega)
      rw [rhU] at h3
      rw [b_M_backOf_14, hl 0 (by omega), if_neg (by omega), zb_bit (by omega) (by omega)]
      by_cases hb : s.testBit k = true
      · rw [if_pos hb] at h3
        have h5 := hL.r (t := k) (by omega)
        rw [if_pos hb, if_neg (by omega), zb_w (n := 2 + (k : Int)) (by omega) (by omega), if_pos (by omega), tn (n := 2 + k) (by omega), hl (2 + k) (by omega), b_M_backOf_49, zb_or (by omega) (by omega), zb_s (by omega)]
        exact h3
      · rw [if_neg hb] at h3
        have e0 := zb_or (n := rhU L s k) (m := 0) (by omega) (by omega)
        rw [Nat.or_zero, show ((0 : Nat) : Int) = 0 from rfl] at e0
        rw [if_neg hb, if_pos (by omega), b_M_backOf_49, e0, zb_s (by omega)]
        exact h3
  have out : ∀ (m s : Nat), s < 65536 → rhS L (itS L m s) = itS L m s → at_ X d cd_M_backOf 4 [vR 12 0, vU, vI (rhS L s : Int), vI (s : Int), vU] [] (hp D) = some (some (vI (itS L m s : Int)), hp D) := by
    intro m
    induction m with
    | zero =>
      intro s hs hf
      have hf : rhS L s = s := hf
      rw [b_M_backOf_4, hf, if_pos rfl]
      rfl
    | succ m ih =>
      intro s hs hf
      by_cases e : rhS L s = s
      · rw [b_M_backOf_4, e, if_pos rfl, itS_fix e]
      · have e2 := inn (L 0) 0 (rhS L s) (rhU_lt hL h16 hs h16) (by omega)
        rw [show ((0 : Nat) : Int) = 0 from rfl] at e2
        rw [b_M_backOf_4, if_neg (by omega)]
        exact e2.trans (ih (rhS L s) (rhU_lt hL h16 hs h16) hf)
  rw [e_M_backOf, b_M_backOf_0, b_M_backOf_4]
  by_cases e : s = 0
  · subst e
    have : clo L 0 = 0 := itS_fix (rhS_0 L) _
    rw [if_pos (by omega), this]
  · have e2 := inn (L 0) 0 s (by omega) (by omega)
    rw [show ((0 : Nat) : Int) = 0 from rfl] at e2
    rw [if_neg (by omega)]
    exact e2.trans (out (L 0) s (by omega) (clo_fix hL hs).1)
/-- a secret within a set: by any of the two ways of looking -/
theorem spU_none {L : Nat → Nat} {s t m : Nat} : spU L s t m = none ↔ ∀ j, t ≤ j → j < t + m → spi L s j = none := by
  induction m generalizing t with
  | zero => exact ⟨fun _ j h1 h2 => by omega, fun _ => rfl⟩
  | succ m ih =>
    rw [spU]
    cases h : spi L s t with
    | some u =>
      constructor
      · intro z; cases z
      · intro z
        rw [z t (Nat.le_refl _) (by omega)] at h
        cases h
    | none =>
      show spU L s (t + 1) m = none ↔ _
      rw [ih]
      constructor
      · intro z j h1 h2
        by_cases e : j = t
        · subst e; exact h
        · exact z j (by omega) (by omega)
      · intro z j h1 h2
        exact z j (by omega) (by omega)
def brB (L : Nat → Nat) (s : Nat) : Prop := spO L s ≠ none
theorem brB_iff {L : Nat → Nat} (hL : LOK L) {s : Nat} (hs : s < 65536) : spO L s = none ↔ ∀ t, t < L 0 → s.testBit t = true → L (18 + t) &&& s = 0 := by
  have h16 := hL.1.1
  unfold spO
  rw [spU_none]
  constructor
  · intro h t ht hb
    apply Nat.eq_of_testBit_eq
    intro u
    rw [Nat.zero_testBit, Nat.testBit_and]
    cases h1 : (L (18 + t)).testBit u with
    | false => rfl
    | true =>
      cases h2 : s.testBit u with
      | false => rfl
      | true =>
        have hu : u < L 0 := bit_lt (hL.2.2.1 t (by omega)) h1
        have hne : u ≠ t := fun e => by
          subst e
          rw [hL.2.2.2.2.1 u (by omega)] at h1
          cases h1
        have hsy := hL.2.2.2.1 t u (by omega) (by omega)
        by_cases hlt : t < u
        · have := h t (by omega) (by omega)
          unfold spi at this
          rw [if_pos hb, ff_none] at this
          have := this u (by omega) (by omega)
          rw [Nat.testBit_and, h1, h2] at this
          cases this
        · have := h u (by omega) (by omega)
          unfold spi at this
          rw [if_pos h2, ff_none] at this
          have := this t (by omega) (by omega)
          rw [Nat.testBit_and, ← hsy, h1, hb] at this
          cases this
  · intro h t h1 h2
    unfold spi
    by_cases hb : s.testBit t = true
    · rw [if_pos hb, ff_none]
      intro j _ _
      rw [h t (by omega) hb]
      exact Nat.zero_testBit j
    · rw [if_neg hb]
theorem s_M_isBreach {X : Nat × (Nat → Int)} {d : Nat} {D : DD} {c : Nat} {v : Cr} {L : Nat → Nat} (hd : 4 ≤ d) (hc : c ≤ 6) (hL : LOK L) (hl : LM D L) (h : MC D (mB c) v) (hv : okl 9 (cL v)) : ev X d m_M_isBreach [vR 12 0, vI (c : Int)] (hp D) = some (some (vI (if spI (spO L (bs (cL v))) = -1 then 0 else 1)), hp D) := by
  obtain ⟨d, rfl⟩ : ∃ e, d = e + 1 := ⟨d - 1, by omega⟩
  have h16 := hL.1.1
  have hs := bs_31 hv.2.1
  rw [e_M_isBreach, b_M_isBreach_0, s_M_bitsIn (by omega) hc h hv]
  simp only [ab_ci]
  rw [b_M_isBreach_5]
  generalize bs (cL v) = s at hs ⊢
  have e0 : ∀ o : Option (Nat × Nat), spI o = -1 ↔ o = none := by
    intro o
    cases o with
    | none => exact ⟨fun _ => rfl, fun _ => rfl⟩
    | some z =>
      refine ⟨fun e => ?_, fun e => by cases e⟩
      have e : ((20 * z.1 + z.2 : Nat) : Int) = -1 := e
      omega
  have key : ∀ (m k : Nat) (v1 : ab_V), k + m = L 0 → (∀ t, t < k → s.testBit t = true → L (18 + t) &&& s = 0) → at_ X d cd_M_isBreach 8 [vR 12 0, v1, vI (s : Int), vI (k : Int)] [] (hp D) = some (some (vI (if spI (spO L s) = -1 then 0 else 1)), hp D) := by
    intro m
    induction m with
    | zero =>
      intro k v1 hk hp9
      rw [b_M_isBreach_8, hl 0 (by omega), if_pos (by omega), if_pos ((e0 _).mpr ((brB_iff hL hs).mpr (fun t ht => hp9 t (by omega))))]
    | succ m ih =>
      intro k v1 hk hp9
      have h5 := hL.s (t := k) (by omega)
      rw [b_M_isBreach_8, hl 0 (by omega), if_neg (by omega), zb_bit (by omega) (by omega)]
      by_cases hb : s.testBit k = true
      · rw [if_pos hb, if_neg (by omega), zb_w (n := 18 + (k : Int)) (by omega) (by omega), if_pos (by omega), tn (n := 18 + k) (by omega), hl (18 + k) (by omega), zb_an (by omega) (by omega)]
        by_cases hz : L (18 + k) &&& s = 0
        · rw [if_pos (by omega), b_M_isBreach_43, zb_s (by omega)]
          refine ih (k + 1) vU (by omega) fun t ht hbt => ?_
          by_cases e : t = k
          · subst e; exact hz
          · exact hp9 t (by omega) hbt
        · rw [if_neg (by omega), if_neg (fun z => hz ((brB_iff hL hs).mp ((e0 _).mp z) k (by omega) hb))]
      · rw [if_neg hb, if_pos (by omega), b_M_isBreach_43, zb_s (by omega)]
        refine ih (k + 1) vU (by omega) fun t ht hbt => ?_
        by_cases e : t = k
        · subst e; exact absurd hbt hb
        · exact hp9 t (by omega) hbt
  exact key (L 0) 0 _ (by omega) (fun t ht => by omega)
end
