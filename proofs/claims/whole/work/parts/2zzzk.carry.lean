/-! men and loads: pure -/
section
theorem pcK (n : Nat) : pc n = (kL 16).countP (fun t => n.testBit t) := by
  unfold pc els kL
  rw [← List.countP_eq_length_filter, List.range_eq_range']
theorem bit16 {x t : Nat} (h : x < 65536) (ht : x.testBit t = true) : t < 16 := bit_lt (n := x) (k := 16) h ht
def Ld (L : Nat → Nat) (e x : Nat) : Prop := x < 65536 ∧ pc x ≤ e ∧ ∀ t u, x.testBit t = true → x.testBit u = true → (L (18 + t)).testBit u = false
def ctB (ls : List Nat) (t : Nat) : Nat := ls.countP (fun x => x.testBit t)
def Cv (L : Nat → Nat) (e m o w : Nat) : Prop := ∃ ls : List Nat, ls.length = m ∧ (∀ x ∈ ls, Ld L e x) ∧ ∀ t, (o.testBit t = true → 1 ≤ ctB ls t) ∧ (w.testBit t = true → 2 ≤ ctB ls t)
/-- what is due when x was carried -/
def rO (o w x : Nat) : Nat := nd o x ||| (w &&& x)
theorem rO_bit (o w x t : Nat) : (rO o w x).testBit t = ((o.testBit t && !x.testBit t) || (w.testBit t && x.testBit t)) := by
  unfold rO
  rw [Nat.testBit_or, nd_bit, Nat.testBit_and]
theorem rO_lt {o w x : Nat} (ho : o < 65536) (hw : w < 65536) : rO o w x < 65536 := Nat.or_lt_two_pow (n := 16) (nd_lt (k := 16) ho) (Nat.lt_of_le_of_lt Nat.and_le_left hw)
theorem ctB_cons (x : Nat) (ls : List Nat) (t : Nat) : ctB (x :: ls) t = b1 (x.testBit t) + ctB ls t := cn_cons x ls _
theorem Cv_cons {L : Nat → Nat} {e m o w : Nat} : Cv L e (m + 1) o w ↔ ∃ x, Ld L e x ∧ Cv L e m (rO o w x) (nd w x) := by
  constructor
  · rintro ⟨ls, h1, h2, h3⟩
    cases ls with
    | nil => cases h1
    | cons x ls =>
      rw [List.length_cons] at h1
      refine ⟨x, h2 x List.mem_cons_self, ls, by omega, fun y hy => h2 y (List.mem_cons_of_mem _ hy), fun t => ?_⟩
      obtain ⟨g1, g2⟩ := h3 t
      rw [ctB_cons] at g1 g2
      rw [rO_bit, nd_bit]
      unfold b1 at g1 g2
      cases hx : x.testBit t <;> cases ho : o.testBit t <;> cases hw : w.testBit t <;> simp [hx, ho, hw] at g1 g2 ⊢ <;> omega
  · rintro ⟨x, hx0, ls, h1, h2, h3⟩
    refine ⟨x :: ls, by rw [List.length_cons, h1], fun y hy => ?_, fun t => ?_⟩
    · rcases List.mem_cons.mp hy with z | z
      · rw [z]; exact hx0
      · exact h2 y z
    · obtain ⟨g1, g2⟩ := h3 t
      rw [ctB_cons]
      rw [rO_bit] at g1
      rw [nd_bit] at g2
      unfold b1
      cases hx : x.testBit t <;> cases ho : o.testBit t <;> cases hw : w.testBit t <;> simp [hx, ho, hw] at g1 g2 ⊢ <;> omega
theorem bit0 {x : Nat} (h : ∀ t, x.testBit t = false) : x = 0 := Nat.eq_of_testBit_eq fun i => by rw [h i, Nat.zero_testBit]
theorem Cv_0 {L : Nat → Nat} {e o w : Nat} : Cv L e 0 o w ↔ o = 0 ∧ w = 0 := by
  constructor
  · rintro ⟨ls, h1, _, h3⟩
    have e1 : ls = [] := List.length_eq_zero_iff.mp h1
    subst e1
    refine ⟨bit0 fun t => ?_, bit0 fun t => ?_⟩
    · cases hx : o.testBit t with
      | false => rfl
      | true => have := (h3 t).1 hx; exact absurd this (by unfold ctB; rw [List.countP_nil]; omega)
    · cases hx : w.testBit t with
      | false => rfl
      | true => have := (h3 t).2 hx; exact absurd this (by unfold ctB; rw [List.countP_nil]; omega)
  · rintro ⟨rfl, rfl⟩
    exact ⟨[], rfl, (fun x h => by cases h), fun t => ⟨(fun h => by rw [Nat.zero_testBit] at h; cases h), (fun h => by rw [Nat.zero_testBit] at h; cases h)⟩⟩
theorem Cv_mono {L : Nat → Nat} {e m o w o' w' : Nat} (h : Cv L e m o w) (h1 : ∀ t, w'.testBit t = true → w.testBit t = true) (h2 : ∀ t, o'.testBit t = true → o.testBit t = true ∨ w.testBit t = true) : Cv L e m o' w' := by
  obtain ⟨ls, a1, a2, a3⟩ := h
  refine ⟨ls, a1, a2, fun t => ⟨fun z => ?_, fun z => (a3 t).2 (h1 t z)⟩⟩
  rcases h2 t z with g | g
  · exact (a3 t).1 g
  · have := (a3 t).2 g; omega
theorem Ld_sub {L : Nat → Nat} {e x y : Nat} (h : Ld L e x) (hs : ∀ t, y.testBit t = true → x.testBit t = true) (hy : y < 65536) : Ld L e y := ⟨hy, Nat.le_trans (pc_mono h.1 hs) h.2.1, fun t u h1 h2 => h.2.2 t u (hs t h1) (hs u h2)⟩
theorem ls_sum {L : Nat → Nat} {e : Nat} : ∀ ls : List Nat, (∀ x ∈ ls, Ld L e x) → sN (kL 16) (fun t => ctB ls t) ≤ ls.length * e := by
  intro ls h
  have h1 : sN (kL 16) (fun t => ctB ls t) = sN ls (fun x => pc x) := by
    have := cn_swap (kL 16) ls (fun t x => x.testBit t)
    refine Eq.trans this (sN_eq fun x _ => ?_)
    rw [pcK]
  rw [h1, ← sN_const]
  exact sN_le fun x hx => (h x hx).2.1
/-- what must be -/
theorem Cv_need {L : Nat → Nat} {e m o w : Nat} (hw : w < 65536) (ho : o < 65536) (dj : ∀ t, o.testBit t = true → w.testBit t = false) (h : Cv L e m o w) : (w ≠ 0 → 2 ≤ m) ∧ (o ≠ 0 → 1 ≤ m) ∧ pc o + 2 * pc w ≤ m * e := by
  obtain ⟨ls, a1, a2, a3⟩ := h
  have hct : ∀ t, ctB ls t ≤ m := fun t => by rw [← a1]; exact cn_len
  refine ⟨fun hne => ?_, fun hne => ?_, ?_⟩
  · obtain ⟨t, _, ht⟩ := has_bit (n := 16) hw hne
    have := (a3 t).2 ht
    have := hct t
    omega
  · obtain ⟨t, _, ht⟩ := has_bit (n := 16) ho hne
    have := (a3 t).1 ht
    have := hct t
    omega
  · have h1 := ls_sum ls a2
    rw [a1] at h1
    refine Nat.le_trans ?_ h1
    rw [pcK, pcK, cn_sN, cn_sN]
    have : 2 * sN (kL 16) (fun x => b1 (w.testBit x)) = sN (kL 16) (fun x => b1 (w.testBit x) + b1 (w.testBit x)) := by rw [sN_add]; omega
    rw [this, ← sN_add]
    refine sN_le fun t _ => ?_
    obtain ⟨g1, g2⟩ := a3 t
    unfold b1
    cases hx : o.testBit t with
    | true =>
      rw [dj t hx]
      have := g1 hx
      simp
      omega
    | false =>
      cases hy : w.testBit t with
      | true => have := g2 hy; simp; omega
      | false => simp
/-- just as many as due -/
theorem Cx_of {L : Nat → Nat} {e : Nat} : ∀ (m o w : Nat), o < 65536 → w < 65536 → (∀ t, o.testBit t = true → w.testBit t = false) → Cv L e m o w → ∃ ls : List Nat, ls.length = m ∧ (∀ x ∈ ls, Ld L e x) ∧ ∀ t, ctB ls t = b1 (o.testBit t) + 2 * b1 (w.testBit t) := by
  intro m
  induction m with
  | zero =>
    intro o w _ _ _ h
    obtain ⟨rfl, rfl⟩ := Cv_0.mp h
    exact ⟨[], rfl, (fun x h => by cases h), fun t => by rw [Nat.zero_testBit]; rfl⟩
  | succ m ih =>
    intro o w ho hw dj h
    obtain ⟨x, x1, x2⟩ := Cv_cons.mp h
    have hlt : x &&& (o ||| w) < 65536 := Nat.lt_of_le_of_lt Nat.and_le_left x1.1
    have hb : ∀ t, (x &&& (o ||| w)).testBit t = (x.testBit t && (o.testBit t || w.testBit t)) := fun t => by rw [Nat.testBit_and, Nat.testBit_or]
    obtain ⟨ls, l1, l2, l3⟩ := ih (rO o w x) (nd w x) (rO_lt ho hw) (nd_lt (k := 16) hw) (fun t => by
      rw [rO_bit, nd_bit]
      have := dj t
      cases hx : x.testBit t <;> cases h1 : o.testBit t <;> cases h2 : w.testBit t <;> simp [hx, h1, h2] at this ⊢) x2
    refine ⟨(x &&& (o ||| w)) :: ls, by rw [List.length_cons, l1], fun y hy => ?_, fun t => ?_⟩
    · rcases List.mem_cons.mp hy with z | z
      · rw [z]; exact Ld_sub x1 (fun t ht => by rw [hb] at ht; exact (Bool.and_eq_true_iff.mp ht).1) hlt
      · exact l2 y z
    · rw [ctB_cons, l3, hb, rO_bit, nd_bit]
      have := dj t
      unfold b1
      cases hx : x.testBit t <;> cases h1 : o.testBit t <;> cases h2 : w.testBit t <;> simp [hx, h1, h2] at this ⊢
theorem bor {x t u : Nat} : (x ||| 2 ^ t).testBit u = (x.testBit u || decide (t = u)) := by rw [Nat.testBit_or, Nat.testBit_two_pow]
/-- one more that is no secret with any -/
theorem Cv_easy1 {L : Nat → Nat} {e m o w t0 : Nat} (hL : LOK L) (ho : o < 65536) (hw : w < 65536) (dj : ∀ t, o.testBit t = true → w.testBit t = false) (ht : t0 < 16) (h0 : o.testBit t0 = false) (h0' : w.testBit t0 = false) (hs : ∀ t, o.testBit t = true ∨ w.testBit t = true → (L (18 + t0)).testBit t = false) (hr : pc o + 1 + 2 * pc w ≤ m * e) (h : Cv L e m o w) : Cv L e m (o ||| 2 ^ t0) w := by
  obtain ⟨ls, l1, l2, l3⟩ := Cx_of m o w ho hw dj h
  have hsum : sN ls (fun x => pc x) < ls.length * e := by
    have h1 : sN (kL 16) (fun t => ctB ls t) = sN ls (fun x => pc x) := by
      have := cn_swap (kL 16) ls (fun t x => x.testBit t)
      refine Eq.trans this (sN_eq fun x _ => ?_)
      rw [pcK]
    have h2 : sN (kL 16) (fun t => ctB ls t) = sN (kL 16) (fun t => b1 (o.testBit t) + (b1 (w.testBit t) + b1 (w.testBit t))) := sN_eq fun t _ => by rw [l3]; omega
    rw [sN_add, sN_add, ← cn_sN, ← cn_sN, ← pcK, ← pcK] at h2
    rw [l1]
    omega
  have hex : ∃ x ∈ ls, pc x < e := by
    apply Classical.byContradiction
    intro hno
    have : ls.length * e ≤ sN ls (fun x => pc x) := by
      rw [← sN_const]
      exact sN_le fun x hx => by
        apply Classical.byContradiction
        intro hz
        exact hno ⟨x, hx, by omega⟩
    omega
  obtain ⟨x, hx, hxe⟩ := hex
  obtain ⟨p, q, hpq⟩ := List.append_of_mem hx
  have hxl : ∀ t, x.testBit t = true → o.testBit t = true ∨ w.testBit t = true := fun t hxt => by
    have h1 : 1 ≤ ctB ls t := cn_pos hx hxt
    rw [l3] at h1
    unfold b1 at h1
    cases ho' : o.testBit t with
    | true => exact Or.inl rfl
    | false =>
      cases hw' : w.testBit t with
      | true => exact Or.inr rfl
      | false => rw [ho', hw'] at h1; simp at h1
  have hx0 := l2 x hx
  have h2 : 2 ^ t0 < 65536 := zb_p2 ht
  refine ⟨p ++ (x ||| 2 ^ t0) :: q, ?_, fun y hy => ?_, fun t => ?_⟩
  · rw [← l1, hpq, List.length_append, List.length_append, List.length_cons, List.length_cons]
  · rcases List.mem_append.mp hy with z | z
    · exact l2 y (by rw [hpq]; exact List.mem_append.mpr (Or.inl z))
    · rcases List.mem_cons.mp z with z | z
      · rw [z]
        refine ⟨Nat.or_lt_two_pow (n := 16) hx0.1 h2, Nat.le_trans (pc_or hx0.1 ht) hxe, fun t u a1 a2 => ?_⟩
        rw [bor] at a1 a2
        have hself := hL.2.2.2.2.1
        by_cases e1 : t0 = t
        · by_cases e2 : t0 = u
          · rw [← e1, ← e2]; exact hself t0 ht
          · rw [decide_eq_false e2, Bool.or_false] at a2
            rw [← e1]; exact hs u (hxl u a2)
        · rw [decide_eq_false e1, Bool.or_false] at a1
          by_cases e2 : t0 = u
          · rw [← e2, hL.2.2.2.1 t t0 (bit16 hx0.1 a1) ht]
            exact hs t (hxl t a1)
          · rw [decide_eq_false e2, Bool.or_false] at a2
            exact hx0.2.2 t u a1 a2
      · exact l2 y (by rw [hpq]; exact List.mem_append.mpr (Or.inr (List.mem_cons_of_mem _ z)))
  · have h3 := l3 t
    unfold ctB at h3 ⊢
    rw [hpq, List.countP_append, cn_cons] at h3
    rw [List.countP_append, cn_cons, bor, bor]
    unfold b1 at h3 ⊢
    by_cases e1 : t0 = t
    · subst e1
      rw [h0, h0'] at h3
      rw [decide_eq_true rfl, h0']
      simp at h3 ⊢
      omega
    · rw [decide_eq_false e1]
      cases ho' : o.testBit t <;> cases hw' : w.testBit t <;> cases hx' : x.testBit t <;> simp [ho', hw', hx'] at h3 ⊢ <;> omega
end
