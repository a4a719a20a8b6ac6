/-! who is driven out: the first of the greatest; the class's foresight -/
section
/-- w is the first of those of s at which f is greatest -/
def FA (s : Nat) (f : Nat → Int) (w : Nat) : Prop := s.testBit w = true ∧ (∀ u, s.testBit u = true → f u ≤ f w) ∧ (∀ u, u < w → s.testBit u = true → f u < f w)
theorem FA_uniq {s : Nat} {f : Nat → Int} {v w : Nat} (h : FA s f v) (g : FA s f w) : v = w := by
  obtain ⟨h1, h2, h3⟩ := h
  obtain ⟨g1, g2, g3⟩ := g
  rcases Nat.lt_trichotomy v w with e | e | e
  · have := g3 v e h1
    have := h2 w g1
    omega
  · exact e
  · have := h3 w e g1
    have := g2 v h1
    omega
/-- the reference's search: k things looked at -/
def dvU (s : Nat) (f : Nat → Int) : Nat → Option Nat
  | 0 => none
  | k + 1 => if s.testBit k = true then (match dvU s f k with
    | none => some k
    | some w => if f w < f k then some k else some w) else dvU s f k
theorem dvU_ok {s : Nat} {f : Nat → Int} : ∀ k, (dvU s f k = none ∧ ∀ u, u < k → s.testBit u = false) ∨ ∃ w, dvU s f k = some w ∧ w < k ∧ s.testBit w = true ∧ (∀ u, u < k → s.testBit u = true → f u ≤ f w) ∧ (∀ u, u < w → s.testBit u = true → f u < f w) := by
  intro k
  induction k with
  | zero => exact Or.inl ⟨rfl, fun u h => by omega⟩
  | succ k ih =>
    rw [dvU]
    by_cases hb : s.testBit k = true
    · rw [if_pos hb]
      rcases ih with ⟨e, h⟩ | ⟨w, e, h1, h2, h3, h4⟩
      · rw [e]
        refine Or.inr ⟨k, rfl, by omega, hb, fun u hu hub => ?_, fun u hu hub => ?_⟩
        · by_cases e2 : u = k
          · subst e2; exact Int.le_refl _
          · rw [h u (by omega)] at hub; cases hub
        · rw [h u (by omega)] at hub; cases hub
      · rw [e]
        show (_ ∧ _) ∨ ∃ w', (if f w < f k then some k else some w) = some w' ∧ _
        by_cases hl : f w < f k
        · rw [if_pos hl]
          refine Or.inr ⟨k, rfl, by omega, hb, fun u hu hub => ?_, fun u hu hub => ?_⟩
          · by_cases e2 : u = k
            · subst e2; exact Int.le_refl _
            · have := h3 u (by omega) hub; omega
          · have := h3 u (by omega) hub; omega
        · rw [if_neg hl]
          refine Or.inr ⟨w, rfl, by omega, h2, fun u hu hub => ?_, h4⟩
          by_cases e2 : u = k
          · subst e2; omega
          · exact h3 u (by omega) hub
    · rw [if_neg hb]
      have hb' : s.testBit k = false := by simpa using hb
      rcases ih with ⟨e, h⟩ | ⟨w, e, h1, h2, h3, h4⟩
      · refine Or.inl ⟨e, fun u hu => ?_⟩
        by_cases e2 : u = k
        · subst e2; exact hb'
        · exact h u (by omega)
      · refine Or.inr ⟨w, e, by omega, h2, fun u hu hub => ?_, h4⟩
        by_cases e2 : u = k
        · subst e2; rw [hb'] at hub; cases hub
        · exact h3 u (by omega) hub
def vcN (s : Nat) (f : Nat → Int) : Nat := (dvU s f 16).getD 0
theorem vc_FA {s : Nat} {f : Nat → Int} (hs : s < 65536) (h0 : s ≠ 0) : dvU s f 16 = some (vcN s f) ∧ vcN s f < 16 ∧ FA s f (vcN s f) := by
  rcases dvU_ok (s := s) (f := f) 16 with ⟨e, h⟩ | ⟨w, e, h1, h2, h3, h4⟩
  · refine absurd ?_ h0
    apply Nat.eq_of_testBit_eq
    intro i
    rw [Nat.zero_testBit]
    by_cases hi : i < 16
    · exact h i hi
    · exact Nat.testBit_lt_two_pow (Nat.lt_of_lt_of_le hs (p2le (a := 16) (by omega)))
  · unfold vcN
    rw [e]
    exact ⟨rfl, h1, h2, fun u hu => h3 u (bit_lt (k := 16) hs hu) hu, h4⟩
/-- the lowest bit -/
theorem low_bit {n k : Nat} (h1 : n.testBit k = true) (h2 : ∀ i, i < k → n.testBit i = false) : nd n (n - 1) = 2 ^ k := by
  have e : n = 2 ^ (k + 1) * (n / 2 ^ (k + 1)) + 2 ^ k := by
    have h3 : n % 2 ^ (k + 1) = 2 ^ k := by
      apply Nat.eq_of_testBit_eq
      intro i
      rw [Nat.testBit_mod_two_pow, Nat.testBit_two_pow]
      by_cases hi : i = k
      · subst hi
        rw [h1]
        simp
      · have hik : ¬ k = i := fun z => hi z.symm
        by_cases hlt : i < k
        · rw [h2 i hlt]; simp [hik]
        · have : ¬ i < k + 1 := by omega
          simp [this, hik]
    have := Nat.div_add_mod n (2 ^ (k + 1))
    omega
  have hp9 : 0 < 2 ^ k := Nat.pow_pos (by omega)
  have hp8 : 2 ^ k < 2 ^ (k + 1) := zb_p2 (by omega)
  have e1 : n - 1 = 2 ^ (k + 1) * (n / 2 ^ (k + 1)) + (2 ^ k - 1) := by omega
  generalize n / 2 ^ (k + 1) = q at e e1
  apply Nat.eq_of_testBit_eq
  intro i
  rw [nd_bit, e1, Nat.testBit_two_pow_mul_add _ (by omega)]
  conv => lhs; rw [e]
  rw [Nat.testBit_two_pow_mul_add _ hp8, Nat.testBit_two_pow]
  by_cases hi : i < k + 1
  · rw [if_pos hi, if_pos hi, Nat.testBit_two_pow_sub_one]
    by_cases hk : k = i
    · subst hk; simp
    · simp [hk]
  · have hk : ¬ k = i := by omega
    rw [if_neg hi, if_neg hi]
    cases q.testBit (i - (k + 1)) <;> simp [hk]
theorem zb_low {n k : Nat} (hn : n < 65536) (h1 : n.testBit k = true) (h2 : ∀ i, i < k → n.testBit i = false) : b_an (n : Int) (w32 (-(n : Int))) = ((2 ^ k : Nat) : Int) := by
  have h0 : 0 < n := by
    apply Nat.pos_of_ne_zero
    intro e
    rw [e, Nat.zero_testBit] at h1
    cases h1
  rw [zb_w (by omega) (by omega)]
  have e : -(n : Int) = b_xr ((n - 1 : Nat) : Int) (-1) := by rw [zb_not (by omega)]; omega
  rw [e, zb_nd (by omega) (by omega), low_bit h1 h2]
/-- when a thing comes next, from i on -/
def nx (ts : List Nat) (i t : Nat) : Nat := (ff (fun j => decide (ts.getD j 0 = t)) i (ts.length - i)).getD ts.length
theorem nx_ge {ts : List Nat} {i t : Nat} (hi : i ≤ ts.length) : i ≤ nx ts i t ∧ nx ts i t ≤ ts.length := by
  unfold nx
  cases h : ff (fun j => decide (ts.getD j 0 = t)) i (ts.length - i) with
  | none => exact ⟨hi, Nat.le_refl _⟩
  | some w =>
    have := ff_some h
    exact ⟨this.1, by show w ≤ _; omega⟩
theorem nx_at {ts : List Nat} {i j t : Nat} (hij : i ≤ j) (hj : j < ts.length) (hge : j ≤ nx ts i t) : nx ts i t = j ↔ ts.getD j 0 = t := by
  unfold nx at hge ⊢
  cases h : ff (fun j => decide (ts.getD j 0 = t)) i (ts.length - i) with
  | none =>
    have h1 := ff_none.mp h j hij (by omega)
    constructor
    · intro e
      have e : ts.length = j := e
      omega
    · intro e
      rw [decide_eq_true e] at h1
      cases h1
  | some w =>
    obtain ⟨h1, h2, h3, h4⟩ := ff_some h
    rw [h] at hge
    have hge : j ≤ w := hge
    constructor
    · intro e
      have e : w = j := e
      subst e
      exact of_decide_eq_true h3
    · intro e
      show w = j
      apply Classical.byContradiction
      intro hne
      have := h4 j hij (by omega)
      rw [decide_eq_true e] at this
      cases this
theorem s_C_needed {X : Nat × (Nat → Int)} {d : Nat} {D : DD} {i s : Nat} {ts : List Nat} (hd : 2 ≤ d) (h40 : ts.length ≤ 40) (hts : ∀ t ∈ ts, t < 16) (hi : i < ts.length) (hs : s < 65536) (h0 : s ≠ 0) (hr : HR D ts) (hh : D 4 0 1 = (s : Int)) : ev X d m_Hearings_neededLast [vR 4 0, vI (i : Int)] (hp D) = some (some (vI ((2 ^ vcN s (fun t => (nx ts (i + 1) t : Int)) : Nat) : Int)), hp D) := by
  obtain ⟨d, rfl⟩ : ∃ e, d = e + 1 := ⟨d - 1, by omega⟩
  obtain ⟨_, v16, vfa⟩ := vc_FA (f := fun t => (nx ts (i + 1) t : Int)) hs h0
  have fin : ∀ (l j : Nat) (v3 : ab_V), l < 65536 → l ≠ 0 → i + 1 ≤ j → j ≤ ts.length → (∀ t, l.testBit t = (s.testBit t && decide (j ≤ nx ts (i + 1) t))) → (j = ts.length ∨ pc l ≤ 1) → at_ X d cd_Hearings_neededLast 44 [vR 4 0, vU, vI (l : Int), v3] [] (hp D) = some (some (vI ((2 ^ vcN s (fun t => (nx ts (i + 1) t : Int)) : Nat) : Int)), hp D) := by
    intro l j v3 hl hl0 hij hj hb hend
    -- the lowest of l
    obtain ⟨k, k1, k2⟩ : ∃ k, l.testBit k = true ∧ ∀ i, i < k → l.testBit i = false := by
      cases hq : ff (fun k => l.testBit k) 0 16 with
      | none =>
        refine absurd ?_ hl0
        apply Nat.eq_of_testBit_eq
        intro i
        rw [Nat.zero_testBit]
        by_cases hi : i < 16
        · exact ff_none.mp hq i (by omega) (by omega)
        · exact Nat.testBit_lt_two_pow (Nat.lt_of_lt_of_le hl (p2le (a := 16) (by omega)))
      | some k =>
        obtain ⟨a1, a2, a3, a4⟩ := ff_some hq
        exact ⟨k, a3, fun i hi => a4 i (by omega) hi⟩
    have kb := hb k
    rw [k1] at kb
    have kb' := kb.symm
    rw [Bool.and_eq_true, decide_eq_true_eq] at kb'
    have fa : FA s (fun t => (nx ts (i + 1) t : Int)) k := by
      have other : ∀ u, s.testBit u = true → u ≠ k → (l.testBit u = true ∧ j = ts.length) ∨ nx ts (i + 1) u < j := by
        intro u hu hne
        by_cases hlu : l.testBit u = true
        · refine Or.inl ⟨hlu, ?_⟩
          rcases hend with e | e
          · exact e
          · have h2 : 2 ≤ pc l := by
              have hsub : ∀ y ∈ [k, u], y ∈ els l := by
                intro y hy
                rcases List.mem_cons.mp hy with rfl | hy
                · exact (els_mem hl).mpr k1
                · rw [List.mem_singleton.mp hy]; exact (els_mem hl).mpr hlu
              have hnd : [k, u].Nodup := by simp; exact fun e => hne e.symm
              exact List.Nodup.length_le_of_subset hnd hsub
            omega
        · refine Or.inr ?_
          have := hb u
          rw [hu, Bool.true_and] at this
          rw [this, decide_eq_true_eq] at hlu
          omega
      refine ⟨kb'.1, fun u hu => ?_, fun u huk hu => ?_⟩
      · show (nx ts (i + 1) u : Int) ≤ (nx ts (i + 1) k : Int)
        by_cases e : u = k
        · rw [e]; exact Int.le_refl _
        · have := nx_ge (ts := ts) (i := i + 1) (t := u) (by omega)
          rcases other u hu e with o | o
          · omega
          · omega
      · show (nx ts (i + 1) u : Int) < (nx ts (i + 1) k : Int)
        rcases other u hu (by omega) with o | o
        · rw [k2 u huk] at o
          cases o.1
        · omega
    rw [b_Hearings_neededLast_44, zb_low hl k1 k2, FA_uniq fa vfa]
  have key : ∀ (m j l : Nat) (v1 : ab_V), j + m = ts.length → i + 1 ≤ j → l < 65536 → l ≠ 0 → (∀ t, l.testBit t = (s.testBit t && decide (j ≤ nx ts (i + 1) t))) → at_ X d cd_Hearings_neededLast 9 [vR 4 0, v1, vI (l : Int), vI (j : Int)] [] (hp D) = some (some (vI ((2 ^ vcN s (fun t => (nx ts (i + 1) t : Int)) : Nat) : Int)), hp D) := by
    intro m
    induction m with
    | zero =>
      intro j l v1 hj hij hl hl0 hb
      rw [b_Hearings_neededLast_9, hr.1, if_pos (by omega)]
      exact fin l j _ hl hl0 hij (by omega) hb (Or.inl (by omega))
    | succ m ih =>
      intro j l v1 hj hij hl hl0 hb
      rw [b_Hearings_neededLast_9, hr.1, if_neg (by omega), s_bitCount (by omega) hl]
      simp only [ab_ci]
      rw [b_Hearings_neededLast_21]
      by_cases hp1 : pc l ≤ 1
      · rw [if_pos (by omega)]
        exact fin l j _ hl hl0 hij (by omega) hb (Or.inr hp1)
      · have ht := hts _ (say_mem (l := ts) (k := j) (by omega))
        have h2 : 2 ^ ts.getD j 0 < 2 ^ 16 := zb_p2 ht
        rw [if_neg (by omega), if_pos (by omega), Int.toNat_natCast, hr.2 j (by omega), zb_sl (by omega), zb_nd (by omega) (by omega), zb_s (by omega)]
        refine ih (j + 1) _ vU (by omega) (by omega) (nd_lt (k := 16) hl) ?_ fun t => ?_
        · intro e
          have hsub : ∀ y ∈ els l, y ∈ [ts.getD j 0] := by
            intro y hy
            have h3 := (els_mem hl).mp hy
            have h4 : (nd l (2 ^ ts.getD j 0)).testBit y = false := by rw [e]; exact Nat.zero_testBit y
            rw [nd_bit, h3, Nat.testBit_two_pow] at h4
            simp at h4
            simp [h4]
          have := List.Nodup.length_le_of_subset (els_nd l) hsub
          exact hp1 this
        · rw [nd_bit, hb t, Nat.testBit_two_pow]
          by_cases h3 : j ≤ nx ts (i + 1) t
          · have h4 := nx_at (t := t) hij (by omega) h3
            by_cases h5 : ts.getD j 0 = t
            · have h6 := h4.mpr h5
              have : ¬ j + 1 ≤ nx ts (i + 1) t := by omega
              rw [decide_eq_true h5, decide_eq_false this]; simp
            · have h6 : nx ts (i + 1) t ≠ j := fun z => h5 (h4.mp z)
              have : j + 1 ≤ nx ts (i + 1) t := by omega
              rw [decide_eq_false h5, decide_eq_true this, decide_eq_true h3]; simp
          · have : ¬ j + 1 ≤ nx ts (i + 1) t := by omega
            simp [h3, this]
  rw [e_Hearings_neededLast, b_Hearings_neededLast_0, hh, zb_s (by omega)]
  refine key (ts.length - (i + 1)) (i + 1) s (vI (i : Int)) (by omega) (Nat.le_refl _) hs h0 fun t => ?_
  have := nx_ge (ts := ts) (i := i + 1) (t := t) (by omega)
  rw [decide_eq_true this.1, Bool.and_true]
def fsF (ts : List Nat) (n : Nat) (z : Nat × Nat) (i : Nat) : Nat × Nat := if z.1.testBit (ts.getD i 0) = true then z else ((if n ≤ pc z.1 then nd z.1 (2 ^ vcN z.1 (fun t => (nx ts (i + 1) t : Int))) else z.1) ||| 2 ^ ts.getD i 0, z.2 + 1)
def fsU (ts : List Nat) (n : Nat) : Nat → Nat → Nat × Nat → Nat × Nat
  | 0, _, z => z
  | m + 1, i, z => fsU ts n m (i + 1) (fsF ts n z i)
def fsV (ts : List Nat) (n : Nat) : Nat × Nat := fsU ts n ts.length 0 (0, 0)
theorem fsF_lt {ts : List Nat} {n i : Nat} {z : Nat × Nat} (ht : ts.getD i 0 < 16) (hz : z.1 < 65536) : (fsF ts n z i).1 < 65536 ∧ (fsF ts n z i).2 ≤ z.2 + 1 := by
  unfold fsF
  have h2 : 2 ^ ts.getD i 0 < 2 ^ 16 := zb_p2 ht
  split
  · exact ⟨hz, by omega⟩
  · refine ⟨Nat.or_lt_two_pow (n := 16) ?_ h2, Nat.le_refl _⟩
    split
    · exact nd_lt hz
    · exact hz
theorem s_C_foresight {X : Nat × (Nat → Int)} {d : Nat} {D : DD} {n : Nat} {ts : List Nat} (hd : 4 ≤ d) (h1 : 1 ≤ n) (h40 : ts.length ≤ 40) (hts : ∀ t ∈ ts, t < 16) (hr : HR D ts) : ∃ D', ev X d m_Hearings_newByForesight [vR 4 0, vI (n : Int)] (hp D) = some (some (vI ((fsV ts n).2 : Int)), hp D') ∧ fr hQ D D' := by
  obtain ⟨d, rfl⟩ : ∃ e, d = e + 1 := ⟨d - 1, by omega⟩
  have key : ∀ (m i : Nat) (D : DD) (z : Nat × Nat), i + m = ts.length → z.1 < 65536 → z.2 ≤ i → HR D ts → D 4 0 1 = (z.1 : Int) → ∃ D', at_ X d cd_Hearings_newByForesight 9 [vR 4 0, vI (n : Int), vI (z.2 : Int), vI (i : Int), vU] [] (hp D) = some (some (vI ((fsU ts n m i z).2 : Int)), hp D') ∧ fr hQ D D' := by
    intro m
    induction m with
    | zero =>
      intro i D z hi hz h2 hr hh
      rw [b_Hearings_newByForesight_9, hr.1, if_pos (by omega)]
      exact ⟨D, rfl, fr.rf D⟩
    | succ m ih =>
      intro i D z hi hz h2 hr hh
      have ht := hts _ (say_mem (l := ts) (k := i) (by omega))
      have hp9 : 2 ^ ts.getD i 0 < 2 ^ 16 := zb_p2 ht
      obtain ⟨q1, q2⟩ := fsF_lt (n := n) (z := z) ht hz
      have hand : (z.1 &&& 2 ^ ts.getD i 0 = 0) ↔ ¬ z.1.testBit (ts.getD i 0) = true := by
        constructor
        · intro e hb
          have := congrArg (fun w => Nat.testBit w (ts.getD i 0)) e
          simp only [Nat.testBit_and, Nat.testBit_two_pow_self, hb, Nat.zero_testBit] at this
          cases this
        · intro hb
          apply Nat.eq_of_testBit_eq
          intro j
          rw [Nat.testBit_and, Nat.testBit_two_pow, Nat.zero_testBit]
          by_cases e : ts.getD i 0 = j
          · subst e
            have : z.1.testBit (ts.getD i 0) = false := by simpa using hb
            rw [this]; rfl
          · rw [decide_eq_false e, Bool.and_false]
      have upd : ∀ x : Int, fr hQ D (u3 D 4 0 1 x) := fun x => (fr.rf D).u (Or.inl ⟨rfl, rfl⟩)
      rw [b_Hearings_newByForesight_9, hr.1, if_neg (by omega), if_pos (by omega), Int.toNat_natCast, hr.2 i (by omega), hh, zb_sl (by omega), zb_an (by omega) (by omega)]
      by_cases hb : z.1.testBit (ts.getD i 0) = true
      · have e : fsF ts n z i = z := by unfold fsF; rw [if_pos hb]
        have hne : ¬ (z.1 &&& 2 ^ ts.getD i 0 = 0) := fun w => (hand.mp w) hb
        rw [if_pos (by omega), b_Hearings_newByForesight_78, zb_s (by omega)]
        have := ih (i + 1) D z (by omega) hz (by omega) hr hh
        rw [fsU, e]
        exact this
      · have hz0 := hand.mpr hb
        rw [if_neg (by omega), s_bitCount (by omega) hz, zb_s (by omega)]
        simp only [ab_ci]
        rw [b_Hearings_newByForesight_47, fsU]
        by_cases hc : n ≤ pc z.1
        · have hz9 : z.1 ≠ 0 := fun e => by rw [e] at hc; have : pc 0 = 0 := rfl; omega
          obtain ⟨_, v16, _⟩ := vc_FA (f := fun t => (nx ts (i + 1) t : Int)) hz hz9
          have hv : 2 ^ vcN z.1 (fun t => (nx ts (i + 1) t : Int)) < 2 ^ 16 := zb_p2 v16
          have hnd : nd z.1 (2 ^ vcN z.1 (fun t => (nx ts (i + 1) t : Int))) < 2 ^ 16 := nd_lt hz
          have e : fsF ts n z i = (nd z.1 (2 ^ vcN z.1 (fun t => (nx ts (i + 1) t : Int))) ||| 2 ^ ts.getD i 0, z.2 + 1) := by unfold fsF; rw [if_neg hb, if_pos hc]
          rw [if_neg (by omega), s_C_needed (by omega) h40 hts (by omega) hz hz9 hr hh, hh]
          simp only [ab_ci]
          rw [b_Hearings_newByForesight_61, zb_nd (by omega) (by omega), b_Hearings_newByForesight_67, u3_eq, zb_or (by omega) (by omega), b_Hearings_newByForesight_78, zb_s (by omega)]
          rw [e] at q1 ⊢
          have f2 : fr hQ D (u3 (u3 D 4 0 1 ((nd z.1 (2 ^ vcN z.1 (fun t => (nx ts (i + 1) t : Int))) : Nat) : Int)) 4 0 1 ((nd z.1 (2 ^ vcN z.1 (fun t => (nx ts (i + 1) t : Int))) ||| 2 ^ ts.getD i 0 : Nat) : Int)) := (upd _).u (Or.inl ⟨rfl, rfl⟩)
          obtain ⟨D2, r1, r2⟩ := ih (i + 1) _ (nd z.1 (2 ^ vcN z.1 (fun t => (nx ts (i + 1) t : Int))) ||| 2 ^ ts.getD i 0, z.2 + 1) (by omega) q1 (by show z.2 + 1 ≤ i + 1; omega) (hr.fq f2) (u3_eq _ _ _ _ _)
          exact ⟨D2, r1, f2.tr r2⟩
        · have e : fsF ts n z i = (z.1 ||| 2 ^ ts.getD i 0, z.2 + 1) := by unfold fsF; rw [if_neg hb, if_neg hc]
          rw [if_pos (by omega), b_Hearings_newByForesight_67, hh, zb_or (by omega) (by omega), b_Hearings_newByForesight_78, zb_s (by omega)]
          rw [e] at q1 ⊢
          obtain ⟨D2, r1, r2⟩ := ih (i + 1) _ (z.1 ||| 2 ^ ts.getD i 0, z.2 + 1) (by omega) q1 (by show z.2 + 1 ≤ i + 1; omega) (hr.fq (upd _)) (u3_eq _ _ _ _ _)
          exact ⟨D2, r1, (upd _).tr r2⟩
  rw [e_Hearings_newByForesight, b_Hearings_newByForesight_0]
  have f1 : fr hQ D (u3 D 4 0 1 0) := (fr.rf D).u (Or.inl ⟨rfl, rfl⟩)
  obtain ⟨D2, r1, r2⟩ := key ts.length 0 (u3 D 4 0 1 0) (0, 0) (by omega) (by show 0 < 65536; omega) (Nat.le_refl _) (hr.fq f1) (u3_eq _ _ _ _ _)
  exact ⟨D2, r1, f1.tr r2⟩
def frN (ts : List Nat) (n : Nat) (law : Int) : Nat := if law = 2 then (fsV ts n).2 else (nrV (decide (law = 0)) n ts).2
theorem s_C_newOnes {X : Nat × (Nat → Int)} {d : Nat} {D : DD} {n : Nat} {ts : List Nat} {law : Int} (hd : 8 ≤ d) (h1 : 1 ≤ n) (h9 : n ≤ 9) (h40 : ts.length ≤ 40) (hts : ∀ t ∈ ts, t < 16) (hr : HR D ts) : ∃ D', ev X d m_Hearings_newOnes [vR 4 0, vI (n : Int), vI law] (hp D) = some (some (vI (frN ts n law : Int)), hp D') ∧ (law ≠ 2 → D' 4 0 1 = (bs (cL (nrV (decide (law = 0)) n ts).1) : Int)) ∧ fr hQ D D' := by
  obtain ⟨d, rfl⟩ : ∃ e, d = e + 1 := ⟨d - 1, by omega⟩
  rw [e_Hearings_newOnes, b_Hearings_newOnes_0]
  unfold frN
  by_cases l2 : law = 2
  · obtain ⟨D1, g1, g2⟩ := s_C_foresight (X := X) (d := d) (D := D) (n := n) (by omega) h1 h40 hts hr
    rw [if_neg (fun z => z l2), g1, if_pos l2]
    simp only [ab_ci]
    rw [b_Hearings_newOnes_10, b_Hearings_newOnes_27]
    exact ⟨D1, rfl, fun z => absurd l2 z, g2⟩
  · rw [if_pos l2, if_neg l2]
    by_cases l0 : law = 0
    · obtain ⟨D1, g1, g2, g3⟩ := s_C_byRule (X := X) (d := d) (D := D) (n := n) (say := true) (by omega) h1 h9 h40 hts hr
      rw [show bI true = 1 from rfl] at g1
      rw [if_neg (fun z => z l0), b_Hearings_newOnes_24, g1, decide_eq_true l0]
      simp only [ab_ci]
      rw [b_Hearings_newOnes_27]
      exact ⟨D1, rfl, fun _ => g2, g3⟩
    · obtain ⟨D1, g1, g2, g3⟩ := s_C_byRule (X := X) (d := d) (D := D) (n := n) (say := false) (by omega) h1 h9 h40 hts hr
      rw [show bI false = 0 from rfl] at g1
      rw [if_pos l0, b_Hearings_newOnes_24, g1, decide_eq_false l0]
      simp only [ab_ci]
      rw [b_Hearings_newOnes_27]
      exact ⟨D1, rfl, fun _ => g2, g3⟩
end
