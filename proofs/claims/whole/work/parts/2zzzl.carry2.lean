/-! men and loads: when they can carry all -/
section
theorem Cv_more {L : Nat → Nat} {e m o w o' w' : Nat} (h : Cv L e m o w) : Cv L e (m + 1) o w := by
  obtain ⟨ls, a1, a2, a3⟩ := h
  refine Cv_cons.mpr ⟨0, ⟨by omega, Nat.le_trans (Nat.le_of_eq (show pc 0 = 0 by decide)) (Nat.zero_le _), fun t u h => by rw [Nat.zero_testBit] at h; cases h⟩, ls, a1, a2, fun t => ?_⟩
  rw [rO_bit, nd_bit, Nat.zero_testBit]
  obtain ⟨g1, g2⟩ := a3 t
  cases ho : o.testBit t <;> cases hw : w.testBit t <;> simp [ho, hw] at g1 g2 ⊢ <;> omega
/-- all that are no secret with any may be left out, if there is room -/
theorem Cv_easy {L : Nat → Nat} {e m w : Nat} (hL : LOK L) (hw : w < 65536) : ∀ (l : List Nat) (o : Nat), o < 65536 → l.Nodup → (∀ t, o.testBit t = true → w.testBit t = false) → (∀ t ∈ l, t < 16 ∧ o.testBit t = true) → (∀ t ∈ l, ∀ u, o.testBit u = true ∨ w.testBit u = true → (L (18 + t)).testBit u = false) → pc o + 2 * pc w ≤ m * e → Cv L e m (nd o (bs l)) w → Cv L e m o w := by
  intro l
  induction l with
  | nil =>
    intro o ho _ _ _ _ _ h
    refine Cv_mono h (fun t z => z) (fun t z => Or.inl ?_)
    rw [nd_bit, bs_bit, decide_eq_false (by intro z; cases z), z]; rfl
  | cons a l ih =>
    intro o ho hn dj h1 h2 hr h
    obtain ⟨n1, n2⟩ := List.nodup_cons.mp hn
    obtain ⟨a1, a2⟩ := h1 a List.mem_cons_self
    have hlt : nd o (2 ^ a) < 65536 := nd_lt (k := 16) ho
    have hb : ∀ t, (nd o (2 ^ a)).testBit t = (o.testBit t && !decide (a = t)) := fun t => by rw [nd_bit, Nat.testBit_two_pow]
    have hsub : ∀ t, (nd o (2 ^ a)).testBit t = true → o.testBit t = true := fun t z => by rw [hb] at z; exact (Bool.and_eq_true_iff.mp z).1
    have hpc := pc_nd_eq ho a2 a1
    have g := ih (nd o (2 ^ a)) hlt n2 (fun t z => dj t (hsub t z)) (fun t ht => ?_) (fun t ht u hu => ?_) (by omega) ?_
    · have e1 : o = nd o (2 ^ a) ||| 2 ^ a := Nat.eq_of_testBit_eq fun t => by
        rw [bor, hb]
        by_cases e : a = t
        · rw [← e, a2, decide_eq_true rfl]; rfl
        · rw [decide_eq_false e]; cases o.testBit t <;> rfl
      rw [e1]
      refine Cv_easy1 hL hlt hw (fun t z => dj t (hsub t z)) a1 ?_ (dj a a2) (fun t ht => ?_) (by omega) g
      · rw [hb, decide_eq_true rfl]; exact Bool.and_false _
      · exact h2 a List.mem_cons_self t (ht.imp (hsub t) id)
    · obtain ⟨b1, b2⟩ := h1 t (List.mem_cons_of_mem _ ht)
      refine ⟨b1, ?_⟩
      rw [hb, b2, decide_eq_false (show ¬ a = t from fun z => n1 (by rw [z]; exact ht))]; rfl
    · exact h2 t (List.mem_cons_of_mem _ ht) u (hu.imp (hsub u) id)
    · refine Cv_mono h (fun t z => z) (fun t z => Or.inl ?_)
      rw [nd_bit, hb, bs_bit] at z
      rw [nd_bit, bs_bit]
      by_cases e : a = t
      · rw [decide_eq_true e] at z; cases o.testBit t <;> simp at z
      · by_cases e2 : t ∈ l
        · rw [decide_eq_true e2] at z; cases o.testBit t <;> cases decide (a = t) <;> simp at z
        · rw [decide_eq_false (fun y => (List.mem_cons.mp y).elim (fun q => e q.symm) e2)]
          cases ho' : o.testBit t with
          | true => rfl
          | false => rw [ho'] at z; simp at z
/-- the man who carries one of them -/
theorem Cv_pick {L : Nat → Nat} {e m o w t : Nat} (h : Cv L e (m + 1) o w) (ht : o.testBit t = true ∨ w.testBit t = true) : ∃ x, Ld L e x ∧ x.testBit t = true ∧ Cv L e m (rO o w x) (nd w x) := by
  obtain ⟨ls, a1, a2, a3⟩ := h
  have h1 : 1 ≤ ctB ls t := by
    rcases ht with z | z
    · exact (a3 t).1 z
    · have := (a3 t).2 z; omega
  obtain ⟨x, hx, hxt⟩ := cn_ex h1
  obtain ⟨p, q, hpq⟩ := List.append_of_mem hx
  refine ⟨x, a2 x hx, hxt, p ++ q, ?_, fun y hy => a2 y ?_, fun u => ?_⟩
  · rw [hpq, List.length_append, List.length_cons] at a1
    rw [List.length_append]; omega
  · rw [hpq]
    rcases List.mem_append.mp hy with z | z
    · exact List.mem_append.mpr (Or.inl z)
    · exact List.mem_append.mpr (Or.inr (List.mem_cons_of_mem _ z))
  · obtain ⟨g1, g2⟩ := a3 u
    unfold ctB at g1 g2 ⊢
    rw [hpq, List.countP_append, cn_cons] at g1 g2
    rw [List.countP_append, rO_bit, nd_bit]
    unfold b1 at g1 g2
    cases hx' : x.testBit u <;> cases ho : o.testBit u <;> cases hw : w.testBit u <;> simp [hx', ho, hw] at g1 g2 ⊢ <;> omega
def fuL (L : Nat → Nat) (e x all : Nat) : Prop := e ≤ pc x ∨ ∀ t, t < 16 → all.testBit t = true → x.testBit t = false → (L (18 + t)) &&& x ≠ 0
theorem Cv_full {L : Nat → Nat} {e m o w h0 : Nat} (hL : LOK L) (ho : o < 65536) (hw : w < 65536) (h : Cv L e (m + 1) o w) (ht : (o ||| w).testBit h0 = true) : ∃ x, Ld L e x ∧ x.testBit h0 = true ∧ (∀ t, x.testBit t = true → (o ||| w).testBit t = true) ∧ fuL L e x (o ||| w) ∧ Cv L e m (rO o w x) (nd w x) := by
  have hall : o ||| w < 65536 := Nat.or_lt_two_pow (n := 16) ho hw
  have grow : ∀ (n x : Nat), 16 - pc x = n → Ld L e x → x.testBit h0 = true → (∀ t, x.testBit t = true → (o ||| w).testBit t = true) → Cv L e m (rO o w x) (nd w x) → ∃ x, Ld L e x ∧ x.testBit h0 = true ∧ (∀ t, x.testBit t = true → (o ||| w).testBit t = true) ∧ fuL L e x (o ||| w) ∧ Cv L e m (rO o w x) (nd w x) := by
    intro n
    induction n using Nat.strongRecOn with
    | ind n ih =>
      intro x hn x1 x2 x3 x4
      by_cases c : fuL L e x (o ||| w)
      · exact ⟨x, x1, x2, x3, c, x4⟩
      · have c1 : pc x < e := by
          apply Classical.byContradiction
          intro z
          exact c (Or.inl (by omega))
        have c2 : ∃ t, t < 16 ∧ (o ||| w).testBit t = true ∧ x.testBit t = false ∧ (L (18 + t)) &&& x = 0 := by
          apply Classical.byContradiction
          intro z
          refine c (Or.inr fun t t1 t2 t3 t4 => z ⟨t, t1, t2, t3, t4⟩)
        obtain ⟨t, t1, t2, t3, t4⟩ := c2
        have hz : ∀ u, x.testBit u = true → (L (18 + t)).testBit u = false := fun u hu => by
          have := congrArg (fun n => n.testBit u) t4
          simp only [Nat.testBit_and, hu, Bool.and_true, Nat.zero_testBit] at this
          exact this
        have h2 : 2 ^ t < 65536 := zb_p2 t1
        have hxl : x ||| 2 ^ t < 65536 := Nat.or_lt_two_pow (n := 16) x1.1 h2
        have hp1 := pc_lt (a := x) (b := x ||| 2 ^ t) hxl (fun i hi => by rw [bor, hi]; rfl) (fun z => by
          have h9 : x.testBit t = (x ||| 2 ^ t).testBit t := congrArg (fun n => n.testBit t) z
          rw [bor, t3, decide_eq_true rfl] at h9
          cases h9)
        have hp2 := pc_or (s := x) (t := t) x1.1 t1
        have hp3 := pc_le (x ||| 2 ^ t)
        refine ih (16 - pc (x ||| 2 ^ t)) (by omega) (x ||| 2 ^ t) rfl ⟨hxl, by omega, fun a b ha hb => ?_⟩ (by rw [bor, x2]; rfl) (fun u hu => ?_) (Cv_mono x4 (fun u hu => ?_) (fun u hu => ?_))
        · rw [bor] at ha hb
          by_cases e1 : t = a
          · by_cases e2 : t = b
            · rw [← e1, ← e2]; exact hL.2.2.2.2.1 t t1
            · rw [decide_eq_false e2, Bool.or_false] at hb
              rw [← e1]; exact hz b hb
          · rw [decide_eq_false e1, Bool.or_false] at ha
            by_cases e2 : t = b
            · rw [← e2, hL.2.2.2.1 a t (bit16 x1.1 ha) t1]
              exact hz a ha
            · rw [decide_eq_false e2, Bool.or_false] at hb
              exact x1.2.2 a b ha hb
        · rw [bor] at hu
          by_cases e1 : t = u
          · rw [← e1]; exact t2
          · rw [decide_eq_false e1, Bool.or_false] at hu
            exact x3 u hu
        · rw [nd_bit, bor] at hu
          rw [nd_bit]
          cases hw' : w.testBit u <;> cases hx' : x.testBit u <;> simp [hw', hx'] at hu ⊢
        · rw [rO_bit, bor] at hu
          rw [rO_bit, nd_bit]
          cases hw' : w.testBit u <;> cases ho' : o.testBit u <;> cases hx' : x.testBit u <;> simp [hw', hx', ho'] at hu ⊢
  have ht' : o.testBit h0 = true ∨ w.testBit h0 = true := by
    rw [Nat.testBit_or] at ht
    exact Bool.or_eq_true_iff.mp ht
  obtain ⟨x, x1, x2, x3⟩ := Cv_pick h ht'
  have hlt : x &&& (o ||| w) < 65536 := Nat.lt_of_le_of_lt Nat.and_le_left x1.1
  have hb : ∀ t, (x &&& (o ||| w)).testBit t = (x.testBit t && (o.testBit t || w.testBit t)) := fun t => by rw [Nat.testBit_and, Nat.testBit_or]
  refine grow _ (x &&& (o ||| w)) rfl (Ld_sub x1 (fun t z => by rw [hb] at z; exact (Bool.and_eq_true_iff.mp z).1) hlt) (by rw [hb, x2]; rw [Nat.testBit_or] at ht; rw [ht]; rfl) (fun t z => by rw [Nat.testBit_and] at z; exact (Bool.and_eq_true_iff.mp z).2) (Cv_mono x3 (fun t z => ?_) (fun t z => Or.inl ?_))
  · rw [nd_bit, hb] at z
    rw [nd_bit]
    cases hw' : w.testBit t <;> cases hx' : x.testBit t <;> simp [hw', hx'] at z ⊢
  · rw [rO_bit, hb] at z
    rw [rO_bit]
    cases hw' : w.testBit t <;> cases ho' : o.testBit t <;> cases hx' : x.testBit t <;> simp [hw', hx', ho'] at z ⊢
/-- some of a set -/
theorem some_of {a : Nat} (ha : a < 65536) : ∀ n, n ≤ pc a → ∃ x, x < 65536 ∧ pc x = n ∧ ∀ t, x.testBit t = true → a.testBit t = true := by
  intro n
  induction n with
  | zero => exact fun _ => ⟨0, by omega, by decide, fun t h => by rw [Nat.zero_testBit] at h; cases h⟩
  | succ n ih =>
    intro hn
    obtain ⟨x, x1, x2, x3⟩ := ih (by omega)
    have hex : ∃ t, a.testBit t = true ∧ x.testBit t = false := by
      apply Classical.byContradiction
      intro z
      have : pc a ≤ pc x := pc_mono x1 fun t ht => by
        cases hx : x.testBit t with
        | true => rfl
        | false => exact absurd ⟨t, ht, hx⟩ z
      omega
    obtain ⟨t, t1, t2⟩ := hex
    have h16 := bit16 ha t1
    have h2 : 2 ^ t < 65536 := zb_p2 h16
    have hxl : x ||| 2 ^ t < 65536 := Nat.or_lt_two_pow (n := 16) x1 h2
    have hp1 := pc_lt (a := x) (b := x ||| 2 ^ t) hxl (fun i hi => by rw [bor, hi]; rfl) (fun z => by
      have h9 : x.testBit t = (x ||| 2 ^ t).testBit t := congrArg (fun n => n.testBit t) z
      rw [bor, t2, decide_eq_true rfl] at h9
      cases h9)
    have hp2 := pc_or (s := x) (t := t) x1 h16
    refine ⟨x ||| 2 ^ t, hxl, by omega, fun u hu => ?_⟩
    rw [bor] at hu
    by_cases e : t = u
    · rw [← e]; exact t1
    · rw [decide_eq_false e, Bool.or_false] at hu
      exact x3 u hu
theorem pc_dj {a b : Nat} (dj : ∀ t, a.testBit t = true → b.testBit t = false) : pc (a ||| b) = pc a + pc b := by
  rw [pcK, pcK, pcK, cn_sN, cn_sN, cn_sN, ← sN_add]
  refine sN_eq fun t _ => ?_
  rw [Nat.testBit_or]
  have := dj t
  unfold b1
  cases h1 : a.testBit t <;> cases h2 : b.testBit t <;> simp [h1, h2] at this ⊢
/-- no secrets: they are dealt out -/
theorem Cv_deal {L : Nat → Nat} {e : Nat} : ∀ (m o w : Nat), o < 65536 → w < 65536 → (∀ t, o.testBit t = true → w.testBit t = false) → (∀ t u, (o ||| w).testBit t = true → (o ||| w).testBit u = true → (L (18 + t)).testBit u = false) → (w ≠ 0 → 2 ≤ m) → (o ≠ 0 → 1 ≤ m) → pc o + 2 * pc w ≤ m * e → Cv L e m o w := by
  intro m
  induction m with
  | zero =>
    intro o w _ _ _ _ h1 h2 _
    refine Cv_0.mpr ⟨?_, ?_⟩
    · apply Classical.byContradiction
      intro z
      have := h2 z
      omega
    · apply Classical.byContradiction
      intro z
      have := h1 z
      omega
  | succ m ih =>
    intro o w ho hw dj hs h1 h2 hr
    rw [Nat.succ_mul m e] at hr
    have hall : o ||| w < 65536 := Nat.or_lt_two_pow (n := 16) ho hw
    have hpa := pc_dj dj
    -- the first man's load
    have step : ∀ x, x < 65536 → pc x ≤ e → (∀ t, x.testBit t = true → (o ||| w).testBit t = true) → (nd w x ≠ 0 → 2 ≤ m) → (rO o w x ≠ 0 → 1 ≤ m) → pc (rO o w x) + 2 * pc (nd w x) ≤ m * e → Cv L e (m + 1) o w := by
      intro x x1 x2 x3 x4 x5 x6
      refine Cv_cons.mpr ⟨x, ⟨x1, x2, fun t u a b => hs t u (x3 t a) (x3 u b)⟩, ih _ _ (rO_lt ho hw) (nd_lt (k := 16) hw) (fun t => ?_) (fun t u a b => ?_) x4 x5 x6⟩
      · rw [rO_bit, nd_bit]
        have := dj t
        cases hx : x.testBit t <;> cases hy : o.testBit t <;> cases hz : w.testBit t <;> simp [hx, hy, hz] at this ⊢
      · have sub : ∀ t, (rO o w x ||| nd w x).testBit t = true → (o ||| w).testBit t = true := fun t z => by
          rw [Nat.testBit_or, rO_bit, nd_bit] at z
          rw [Nat.testBit_or]
          cases hx : x.testBit t <;> cases hy : o.testBit t <;> cases hz : w.testBit t <;> simp [hx, hy, hz] at z ⊢
        exact hs t u (sub t a) (sub u b)
    -- how many are due behind it
    have left : ∀ x, x < 65536 → (∀ t, x.testBit t = true → (o ||| w).testBit t = true) → pc (rO o w x) + 2 * pc (nd w x) + pc x = pc o + 2 * pc w := by
      intro x _ x3
      rw [pcK, pcK, pcK, pcK, pcK, cn_sN, cn_sN, cn_sN, cn_sN, cn_sN]
      have e2 : ∀ f : Nat → Nat, 2 * sN (kL 16) f = sN (kL 16) (fun t => f t + f t) := fun f => by rw [sN_add]; omega
      rw [e2, e2, ← sN_add, ← sN_add, ← sN_add]
      refine sN_eq fun t _ => ?_
      rw [rO_bit, nd_bit]
      have g1 := dj t
      have g2 := x3 t
      rw [Nat.testBit_or] at g2
      unfold b1
      cases hx : x.testBit t <;> cases hy : o.testBit t <;> cases hz : w.testBit t <;> simp [hx, hy, hz] at g1 g2 ⊢
    have hpw : w ≠ 0 → 1 ≤ pc w := fun z => by
      apply Classical.byContradiction
      intro y
      exact z (pc_z hw (by omega))
    by_cases c1 : e ≤ pc w
    · obtain ⟨x, x1, x2, x3⟩ := some_of hw e c1
      have x3' : ∀ t, x.testBit t = true → (o ||| w).testBit t = true := fun t z => by rw [Nat.testBit_or, x3 t z, Bool.or_true]
      have hl := left x x1 x3'
      by_cases hm : m = 0
      · subst hm
        -- one man alone: nothing is due twice
        have hw0 : w = 0 := by
          apply Classical.byContradiction
          intro z
          have := h1 z
          omega
        have : pc w = 0 := by rw [hw0]; decide
        rw [this] at hl
        have ho0 : o = 0 := by
          have : pc o = 0 := by omega
          exact pc_z ho this
        subst hw0
        subst ho0
        exact Cv_more (o' := 0) (w' := 0) (Cv_0.mpr ⟨rfl, rfl⟩)
      refine step x x1 (by omega) x3' (fun z => ?_) (fun _ => by omega) (by omega)
      -- more than two loads are due
      apply Classical.byContradiction
      intro hm2
      have hm1 : m = 1 := by omega
      subst hm1
      have hnz : 1 ≤ pc (nd w x) := by
        apply Classical.byContradiction
        intro y
        exact z (pc_z (nd_lt (k := 16) hw) (by omega))
      have hwx : pc (nd w x) + pc x = pc w := by
        rw [pcK, pcK, pcK, cn_sN, cn_sN, cn_sN, ← sN_add]
        refine sN_eq fun t _ => ?_
        rw [nd_bit]
        have g2 := x3 t
        unfold b1
        cases hx : x.testBit t <;> cases hz : w.testBit t <;> simp [hx, hz] at g2 ⊢
      omega
    · by_cases c2 : e ≤ pc (o ||| w)
      · obtain ⟨y, y1, y2, y3⟩ := some_of ho (e - pc w) (by omega)
        have hx : ∀ t, (w ||| y).testBit t = true → (o ||| w).testBit t = true := fun t z => by
          rw [Nat.testBit_or] at z ⊢
          rcases Bool.or_eq_true_iff.mp z with z | z
          · rw [z, Bool.or_true]
          · rw [y3 t z]; rfl
        have hlt : w ||| y < 65536 := Nat.or_lt_two_pow (n := 16) hw y1
        have hl := left (w ||| y) hlt hx
        have hpx : pc (w ||| y) = e := by
          rw [pc_dj fun t z => ?_]
          · omega
          · cases hy : y.testBit t with
            | false => rfl
            | true => have := dj t (y3 t hy); rw [z] at this; cases this
        have hw0 : nd w (w ||| y) = 0 := bit0 fun t => by rw [nd_bit, Nat.testBit_or]; cases w.testBit t <;> rfl
        refine step (w ||| y) hlt (by omega) hx (fun z => absurd hw0 z) (fun z => ?_) (by omega)
        apply Classical.byContradiction
        intro hm
        have hm0 : m = 0 := by omega
        subst hm0
        have : pc (rO o w (w ||| y)) = 0 := by omega
        exact z (pc_z (rO_lt ho hw) this)
      · have hw0 : nd w (o ||| w) = 0 := bit0 fun t => by rw [nd_bit, Nat.testBit_or]; cases w.testBit t <;> cases o.testBit t <;> rfl
        have hl := left (o ||| w) hall (fun t z => z)
        rw [hw0, show pc 0 = 0 by decide] at hl
        by_cases hm : m = 0
        · subst hm
          have hw9 : w = 0 := by
            apply Classical.byContradiction
            intro z
            have := h1 z
            omega
          have : pc w = 0 := by rw [hw9]; decide
          refine step (o ||| w) hall (by omega) (fun t z => z) (fun z => absurd hw0 z) (fun z => ?_) (by rw [hw0, show pc 0 = 0 by decide]; omega)
          exact absurd (pc_z (rO_lt ho hw) (by omega)) z
        · have he : e ≤ m * e := by
            have := Nat.mul_le_mul_right e (show 1 ≤ m by omega)
            omega
          exact step (o ||| w) hall (by omega) (fun t z => z) (fun z => absurd hw0 z) (fun _ => by omega) (by rw [hw0, show pc 0 = 0 by decide]; omega)
/-- due once, and each is no secret with as many as there are men -/
theorem Cv_even {L : Nat → Nat} {e m o : Nat} (hL : LOK L) (ho : o < 65536) (hd : ∀ t, o.testBit t = true → pc ((L (18 + t)) &&& o) < m) (hr : pc o ≤ m * e) : Cv L e m o 0 := by
  have hmem : ∀ t, t ∈ els o ↔ o.testBit t = true := fun t => els_mem ho
  obtain ⟨c, c1, c2⟩ := evenC (adj := fun t u => decide (t < 16) && (decide (u < 16) && (L (18 + t)).testBit u)) (fun u v => by
    by_cases h1 : u < 16
    · by_cases h2 : v < 16
      · rw [decide_eq_true h1, decide_eq_true h2, hL.2.2.2.1 u v h1 h2]
      · rw [decide_eq_false h2, Bool.false_and, Bool.false_and, Bool.and_false]
    · rw [decide_eq_false h1, Bool.false_and, Bool.false_and, Bool.and_false]) (fun v => by
    by_cases h1 : v < 16
    · rw [hL.2.2.2.2.1 v h1, Bool.and_false, Bool.and_false]
    · rw [decide_eq_false h1, Bool.false_and]) (s := e) (els o).length (els o) m rfl (els_nd o) (fun t ht => by
    have h9 := hd t ((hmem t).mp ht)
    refine Nat.lt_of_le_of_lt ?_ h9
    rw [pcK]
    unfold els
    rw [List.countP_filter, List.range_eq_range']
    refine cn_le fun u _ z => ?_
    rw [Bool.and_eq_true, Bool.and_eq_true, Bool.and_eq_true] at z
    rw [Nat.testBit_and, z.1.2.2, z.2]; rfl) hr
  have hfl : ∀ i, ∀ t ∈ (els o).filter (fun t => decide (c t = i)), t < 16 := fun i t ht => els_lt (List.mem_filter.mp ht).1
  have hnd : ∀ i, ((els o).filter (fun t => decide (c t = i))).Nodup := fun i => List.Pairwise.filter _ (els_nd o)
  refine ⟨(kL m).map (fun i => bs ((els o).filter (fun t => decide (c t = i)))), by rw [List.length_map, kL_len], fun x hx => ?_, fun t => ⟨fun ht => ?_, fun ht => by rw [Nat.zero_testBit] at ht; cases ht⟩⟩
  · obtain ⟨i, hi, rfl⟩ := List.mem_map.mp hx
    have hi := kL_mem.mp hi
    refine ⟨bs_lt (n := 16) (hfl i), ?_, fun t u h1 h2 => ?_⟩
    · rw [pc_bs (hnd i) (hfl i), ← List.countP_eq_length_filter]
      exact c2 i hi
    · rw [bs_bit, decide_eq_true_iff] at h1 h2
      obtain ⟨a1, a2⟩ := List.mem_filter.mp h1
      obtain ⟨b1, b2⟩ := List.mem_filter.mp h2
      cases hx : (L (18 + t)).testBit u with
      | false => rfl
      | true =>
        refine absurd ((of_decide_eq_true a2).trans (of_decide_eq_true b2).symm) (c1.2 t a1 u b1 ?_)
        show (decide (t < 16) && (decide (u < 16) && (L (18 + t)).testBit u)) = true
        rw [decide_eq_true (els_lt a1), decide_eq_true (els_lt b1), hx]; rfl
  · have hm := (hmem t).mpr ht
    refine cn_pos (x := bs ((els o).filter (fun u => decide (c u = c t)))) (List.mem_map.mpr ⟨c t, kL_mem.mpr (c1.1 t hm), rfl⟩) ?_
    rw [bs_bit]
    exact decide_eq_true (List.mem_filter.mpr ⟨hm, decide_eq_true rfl⟩)
end
