/-! seeds: the least set from which all comes -/
section
theorem rhU_bit {L : Nat → Nat} {s i : Nat} (k : Nat) : (rhU L s k).testBit i = true ↔ s.testBit i = true ∨ ∃ t, t < k ∧ s.testBit t = true ∧ (L (2 + t)).testBit i = true := by
  induction k with
  | zero =>
    constructor
    · exact fun h => Or.inl h
    · rintro (h | ⟨t, h, _⟩)
      · exact h
      · omega
  | succ k ih =>
    rw [rhU]
    by_cases hb : s.testBit k = true
    · rw [if_pos hb, Nat.testBit_or, Bool.or_eq_true, ih]
      constructor
      · rintro ((h | ⟨t, h1, h2, h3⟩) | h)
        · exact Or.inl h
        · exact Or.inr ⟨t, by omega, h2, h3⟩
        · exact Or.inr ⟨k, by omega, hb, h⟩
      · rintro (h | ⟨t, h1, h2, h3⟩)
        · exact Or.inl (Or.inl h)
        · by_cases e : t = k
          · subst e; exact Or.inr h3
          · exact Or.inl (Or.inr ⟨t, by omega, h2, h3⟩)
    · rw [if_neg hb, ih]
      constructor
      · rintro (h | ⟨t, h1, h2, h3⟩)
        · exact Or.inl h
        · exact Or.inr ⟨t, by omega, h2, h3⟩
      · rintro (h | ⟨t, h1, h2, h3⟩)
        · exact Or.inl h
        · by_cases e : t = k
          · subst e; exact absurd h2 hb
          · exact Or.inr ⟨t, by omega, h2, h3⟩
theorem rhS_lin {L : Nat → Nat} {s i : Nat} : (rhS L s).testBit i = true ↔ ∃ t, s.testBit t = true ∧ (rhS L (2 ^ t)).testBit i = true := by
  unfold rhS
  rw [rhU_bit]
  constructor
  · rintro (h | ⟨t, h1, h2, h3⟩)
    · exact ⟨i, h, (rhU_bit _).mpr (Or.inl Nat.testBit_two_pow_self)⟩
    · exact ⟨t, h2, (rhU_bit _).mpr (Or.inr ⟨t, h1, Nat.testBit_two_pow_self, h3⟩)⟩
  · rintro ⟨t, h1, h2⟩
    rcases (rhU_bit _).mp h2 with h | ⟨u, g1, g2, g3⟩
    · rw [Nat.testBit_two_pow] at h
      have := of_decide_eq_true h
      subst this
      exact Or.inl h1
    · rw [Nat.testBit_two_pow] at g2
      have := of_decide_eq_true g2
      subst this
      exact Or.inr ⟨t, g1, h1, g3⟩
theorem itS_lin {L : Nat → Nat} (k : Nat) : ∀ s i, (itS L k s).testBit i = true ↔ ∃ t, s.testBit t = true ∧ (itS L k (2 ^ t)).testBit i = true := by
  induction k with
  | zero =>
    intro s i
    constructor
    · exact fun h => ⟨i, h, Nat.testBit_two_pow_self⟩
    · rintro ⟨t, h1, h2⟩
      rw [itS, Nat.testBit_two_pow] at h2
      have := of_decide_eq_true h2
      subst this
      exact h1
  | succ k ih =>
    intro s i
    rw [itS, ih]
    constructor
    · rintro ⟨u, h1, h2⟩
      obtain ⟨t, h3, h4⟩ := rhS_lin.mp h1
      exact ⟨t, h3, by rw [itS, ih]; exact ⟨u, h4, h2⟩⟩
    · rintro ⟨t, h1, h2⟩
      rw [itS, ih] at h2
      obtain ⟨u, h3, h4⟩ := h2
      exact ⟨u, rhS_lin.mpr ⟨t, h1, h3⟩, h4⟩
theorem itS_self {L : Nat → Nat} (k : Nat) : ∀ s i, s.testBit i = true → (itS L k s).testBit i = true := by
  induction k with
  | zero => exact fun s i h => h
  | succ k ih => exact fun s i h => ih _ _ (rhU_sub s _ i h)
/-- all of o comes from s -/
def cov (R : Nat → Nat) (o s : Nat) : Prop := ∀ i, o.testBit i = true → ∃ t, s.testBit t = true ∧ (R t).testBit i = true
theorem nd_0 {a b : Nat} : nd a b = 0 ↔ ∀ i, a.testBit i = true → b.testBit i = true := by
  constructor
  · intro h i hi
    have := congrArg (fun z => Nat.testBit z i) h
    simp only [nd_bit, hi, Nat.zero_testBit, Bool.true_and] at this
    simpa using this
  · intro h
    apply Nat.eq_of_testBit_eq
    intro i
    rw [nd_bit, Nat.zero_testBit]
    by_cases e : a.testBit i = true
    · rw [e, h i e]; rfl
    · have : a.testBit i = false := by simpa using e
      rw [this]; rfl
theorem cov_clo {L : Nat → Nat} {w s : Nat} : nd w (clo L s) = 0 ↔ cov (fun t => clo L (2 ^ t)) w s := by
  rw [nd_0]
  constructor
  · exact fun h i hi => (itS_lin _ s i).mp (h i hi)
  · exact fun h i hi => (itS_lin _ s i).mpr (h i hi)
def upN (R : Nat → Nat) : Nat → Nat
  | 0 => 0
  | k + 1 => upN R k ||| R k
def moN (R : Nat → Nat) (w : Nat) : Nat → Nat
  | 0 => 0
  | k + 1 => if moN R w k < pc (R k &&& w) then pc (R k &&& w) else moN R w k
def sdL (R : Nat → Nat) (w : Nat) : Nat → Nat → Nat → Option Nat
  | 0, _, o => if o = 0 then some 0 else none
  | k + 1, m, o => if o = 0 then some 0 else if nd o (upN R (k + 1)) ≠ 0 then none else if m * moN R w (k + 1) < pc o then none else match sdL R w k m o with
    | some s => some s
    | none => match sdL R w k (m - 1) (nd o (R k)) with
      | some s => some (s ||| 2 ^ k)
      | none => none
theorem upN_bit {R : Nat → Nat} {i : Nat} (k : Nat) : (upN R k).testBit i = true ↔ ∃ t, t < k ∧ (R t).testBit i = true := by
  induction k with
  | zero =>
    rw [upN, Nat.zero_testBit]
    exact ⟨fun h => (by cases h), fun ⟨t, h, _⟩ => by omega⟩
  | succ k ih =>
    rw [upN, Nat.testBit_or, Bool.or_eq_true, ih]
    constructor
    · rintro (⟨t, h1, h2⟩ | h)
      · exact ⟨t, by omega, h2⟩
      · exact ⟨k, by omega, h⟩
    · rintro ⟨t, h1, h2⟩
      by_cases e : t = k
      · subst e; exact Or.inr h2
      · exact Or.inl ⟨t, by omega, h2⟩
theorem moN_ge {R : Nat → Nat} {w t : Nat} (k : Nat) (h : t < k) : pc (R t &&& w) ≤ moN R w k := by
  induction k with
  | zero => omega
  | succ k ih =>
    rw [moN]
    by_cases e : t = k
    · subst e; split <;> omega
    · have := ih (by omega)
      split <;> omega
theorem cov_pc {R : Nat → Nat} {w o s M : Nat} (hR : ∀ t, s.testBit t = true → R t < 65536) (hs : s < 65536) (ho : o < 65536) (how : ∀ i, o.testBit i = true → w.testBit i = true) (hM : ∀ t, s.testBit t = true → pc (R t &&& w) ≤ M) (h : cov R o s) : pc o ≤ pc s * M := by
  have sub : ∀ y ∈ els o, y ∈ (els s).flatMap (fun t => els (R t &&& w)) := by
    intro y hy
    have hy := (els_mem ho).mp hy
    obtain ⟨t, h1, h2⟩ := h y hy
    refine List.mem_flatMap.mpr ⟨t, (els_mem hs).mpr h1, (els_mem (Nat.lt_of_le_of_lt Nat.and_le_left (hR t h1))).mpr ?_⟩
    rw [Nat.testBit_and, h2, how y hy]; rfl
  have h1 := List.Nodup.length_le_of_subset (els_nd o) sub
  have h2 : ∀ l : List Nat, (∀ t ∈ l, s.testBit t = true) → (l.flatMap (fun t => els (R t &&& w))).length ≤ l.length * M := by
    intro l
    induction l with
    | nil => intro _; simp
    | cons a l ih =>
      intro hl
      rw [List.flatMap_cons, List.length_append, List.length_cons, Nat.succ_mul]
      have a1 := hM a (hl a List.mem_cons_self)
      have a2 := ih fun t ht => hl t (List.mem_cons_of_mem _ ht)
      have a3 : (els (R a &&& w)).length ≤ M := a1
      omega
  exact Nat.le_trans h1 (h2 _ fun t ht => (els_mem hs).mp ht)
theorem or_add {s k : Nat} (h : s < 2 ^ k) : s ||| 2 ^ k = s + 2 ^ k := by
  have := Nat.two_pow_add_eq_or_of_lt h 1
  rw [Nat.mul_one] at this
  rw [Nat.or_comm, ← this, Nat.add_comm]
theorem ls_ok {R : Nat → Nat} {w n : Nat} (hn : n ≤ 16) (hR : ∀ t, t < n → R t < 65536) : ∀ (k m o : Nat), k ≤ n → o < 65536 → (∀ i, o.testBit i = true → w.testBit i = true) → (∀ s, sdL R w k m o = some s → s < 2 ^ k ∧ pc s ≤ m ∧ cov R o s ∧ ∀ s', s' < 2 ^ k → pc s' ≤ m → cov R o s' → s ≤ s') ∧ (sdL R w k m o = none → ∀ s', s' < 2 ^ k → pc s' ≤ m → ¬ cov R o s') := by
  have z0 : ∀ (k m : Nat), (0 : Nat) < 2 ^ k ∧ pc 0 ≤ m ∧ cov R 0 0 ∧ ∀ s', s' < 2 ^ k → pc s' ≤ m → cov R 0 s' → 0 ≤ s' := by
    intro k m
    refine ⟨Nat.two_pow_pos k, Nat.zero_le _, fun i hi => ?_, fun s' _ _ _ => Nat.zero_le _⟩
    rw [Nat.zero_testBit] at hi
    cases hi
  have bit : ∀ o : Nat, o ≠ 0 → ∃ i, o.testBit i = true := by
    intro o ho
    apply Classical.byContradiction
    intro hn
    apply ho
    apply Nat.eq_of_testBit_eq
    intro i
    rw [Nat.zero_testBit]
    cases e : o.testBit i with
    | false => rfl
    | true => exact absurd ⟨i, e⟩ hn
  intro k
  induction k with
  | zero =>
    intro m o hk ho how
    rw [sdL]
    by_cases e : o = 0
    · subst e
      rw [if_pos rfl]
      exact ⟨fun s hs => (by cases hs; exact z0 0 m), fun h => (by cases h)⟩
    · rw [if_neg e]
      refine ⟨fun s hs => (by cases hs), fun _ s' hs' _ hc => ?_⟩
      have : s' = 0 := by omega
      subst this
      obtain ⟨i, hi⟩ := bit o e
      obtain ⟨t, ht, _⟩ := hc i hi
      rw [Nat.zero_testBit] at ht
      cases ht
  | succ k ih =>
    intro m o hk ho how
    have hp9 : 2 ^ (k + 1) ≤ 2 ^ 16 := p2le (by omega)
    have hpk : 2 ^ (k + 1) = 2 ^ k + 2 ^ k := by rw [Nat.pow_succ]; omega
    have hpp := Nat.two_pow_pos k
    rw [sdL]
    by_cases e : o = 0
    · subst e
      rw [if_pos rfl]
      exact ⟨fun s hs => (by cases hs; exact z0 _ m), fun h => (by cases h)⟩
    rw [if_neg e]
    by_cases p1 : nd o (upN R (k + 1)) ≠ 0
    · rw [if_pos p1]
      refine ⟨fun s hs => (by cases hs), fun _ s' hs' _ hc => p1 (nd_0.mpr fun i hi => ?_)⟩
      obtain ⟨t, h1, h2⟩ := hc i hi
      exact (upN_bit _).mpr ⟨t, bit_lt hs' h1, h2⟩
    rw [if_neg p1]
    by_cases p2 : m * moN R w (k + 1) < pc o
    · rw [if_pos p2]
      refine ⟨fun s hs => (by cases hs), fun _ s' hs' hpc hc => ?_⟩
      have h1 := cov_pc (fun t ht => hR t (by have := bit_lt hs' ht; omega)) (Nat.lt_of_lt_of_le hs' hp9) ho how (fun t ht => moN_ge (k + 1) (bit_lt hs' ht)) hc
      have h2 := Nat.mul_le_mul_right (moN R w (k + 1)) hpc
      omega
    rw [if_neg p2]
    have hm : 1 ≤ m := by
      apply Classical.byContradiction
      intro hn
      have : m = 0 := by omega
      subst this
      obtain ⟨i, hi⟩ := bit o e
      have : 0 < pc o := List.length_pos_of_mem ((els_mem ho).mpr hi)
      omega
    obtain ⟨a1, a2⟩ := ih m o (by omega) ho how
    obtain ⟨b1, b2⟩ := ih (m - 1) (nd o (R k)) (by omega) (nd_lt (k := 16) ho) (fun i hi => how i (by rw [nd_bit] at hi; exact (Bool.and_eq_true_iff.mp hi).1))
    -- a set with the last one
    have hi_ : ∀ s', s' < 2 ^ (k + 1) → pc s' ≤ m → cov R o s' → ¬ s' < 2 ^ k → ∃ s'', s' = s'' + 2 ^ k ∧ s'' < 2 ^ k ∧ pc s'' ≤ m - 1 ∧ cov R (nd o (R k)) s'' := by
      intro s' h1 h2 h3 h4
      refine ⟨s' - 2 ^ k, by omega, by omega, ?_, ?_⟩
      · have e1 : s' = (s' - 2 ^ k) ||| 2 ^ k := by rw [or_add (by omega)]; omega
        have : pc (s' - 2 ^ k) < pc s' := by
          refine pc_lt (Nat.lt_of_lt_of_le h1 hp9) (fun i hi => ?_) (by omega)
          rw [e1, Nat.testBit_or, hi]; rfl
        omega
      · intro i hi
        rw [nd_bit, Bool.and_eq_true_iff] at hi
        obtain ⟨t, g1, g2⟩ := h3 i hi.1
        have e1 : s' = (s' - 2 ^ k) ||| 2 ^ k := by rw [or_add (by omega)]; omega
        rw [e1, Nat.testBit_or, Nat.testBit_two_pow, Bool.or_eq_true] at g1
        rcases g1 with g1 | g1
        · exact ⟨t, g1, g2⟩
        · have := of_decide_eq_true g1
          subst this
          rw [g2] at hi
          cases hi.2
    cases q : sdL R w k m o with
    | some s =>
      obtain ⟨c1, c2, c3, c4⟩ := a1 s q
      refine ⟨fun s9 h9 => ?_, fun h => (by cases h)⟩
      cases h9
      refine ⟨by omega, c2, c3, fun s' h1 h2 h3 => ?_⟩
      by_cases h4 : s' < 2 ^ k
      · exact c4 s' h4 h2 h3
      · omega
    | none =>
      have lo := a2 q
      cases q2 : sdL R w k (m - 1) (nd o (R k)) with
      | some s =>
        obtain ⟨c1, c2, c3, c4⟩ := b1 s q2
        refine ⟨fun s9 h9 => ?_, fun h => (by cases h)⟩
        cases h9
        have hs16 : s < 65536 := by have := p2le (a := k) (b := 16) (by omega); omega
        refine ⟨by rw [or_add c1]; omega, ?_, fun i hi => ?_, fun s' h1 h2 h3 => ?_⟩
        · have := pc_or hs16 (t := k) (by omega)
          omega
        · by_cases hr : (R k).testBit i = true
          · exact ⟨k, by rw [Nat.testBit_or, Nat.testBit_two_pow_self, Bool.or_true], hr⟩
          · obtain ⟨t, g1, g2⟩ := c3 i (by
              rw [nd_bit, hi]
              have : (R k).testBit i = false := by simpa using hr
              rw [this]; rfl)
            exact ⟨t, by rw [Nat.testBit_or, g1]; rfl, g2⟩
        · obtain ⟨s'', d1, d2, d3, d4⟩ := hi_ s' h1 h2 h3 (fun h4 => lo s' h4 h2 h3)
          have := c4 s'' d2 d3 d4
          rw [or_add c1]
          omega
      | none =>
        refine ⟨fun s9 h9 => (by cases h9), fun _ s' h1 h2 h3 => ?_⟩
        obtain ⟨s'', d1, d2, d3, d4⟩ := hi_ s' h1 h2 h3 (fun h4 => lo s' h4 h2 h3)
        exact b2 q2 s'' d2 d3 d4
/-- the fewest, the least of them -/
def BST (n : Nat) (R : Nat → Nat) (w b : Nat) : Prop := (b < 2 ^ n ∧ cov R w b) ∧ ∀ s, s < 2 ^ n → cov R w s → pc b < pc s ∨ (pc b = pc s ∧ b ≤ s)
theorem BST_u {n w a b : Nat} {R : Nat → Nat} (ha : BST n R w a) (hb : BST n R w b) : a = b := by
  have h1 := ha.2 b hb.1.1 hb.1.2
  have h2 := hb.2 a ha.1.1 ha.1.2
  omega
def sdU (n : Nat) (R : Nat → Nat) (w : Nat) : Nat → Nat → Nat
  | 0, _ => 2 ^ n - 1
  | m + 1, many => match sdL R w n many w with
    | some s => s
    | none => sdU n R w m (many + 1)
theorem sdU_ok {n w : Nat} {R : Nat → Nat} (hn : n ≤ 16) (hR : ∀ t, t < n → R t < 65536) (hw : w < 2 ^ n) (hr : ∀ t, (R t).testBit t = true) : ∀ (m many : Nat), many + m = n → (∀ s, s < 2 ^ n → pc s < many → ¬ cov R w s) → BST n R w (sdU n R w m many) := by
  have hp9 : 2 ^ n ≤ 2 ^ 16 := p2le hn
  intro m
  induction m with
  | zero =>
    intro many hm hlow
    have hpp := Nat.two_pow_pos n
    have full : ∀ i, (2 ^ n - 1).testBit i = decide (i < n) := fun i => Nat.testBit_two_pow_sub_one ..
    rw [sdU]
    refine ⟨⟨by omega, fun i hi => ⟨i, by rw [full]; exact decide_eq_true (bit_lt hw hi), hr i⟩⟩, fun s hs hc => ?_⟩
    by_cases e : s = 2 ^ n - 1
    · rw [e]; exact Or.inr ⟨rfl, Nat.le_refl _⟩
    · have h1 : pc s < pc (2 ^ n - 1) := pc_lt (by omega) (fun i hi => by rw [full]; exact decide_eq_true (bit_lt hs hi)) e
      have h2 : pc (2 ^ n - 1) ≤ n := pc_bound hn (by omega)
      exact absurd hc (hlow s hs (by omega))
  | succ m ih =>
    intro many hm hlow
    obtain ⟨a1, a2⟩ := ls_ok (w := w) hn hR n many w (Nat.le_refl _) (by omega) (fun i h => h)
    rw [sdU]
    cases q : sdL R w n many w with
    | some s =>
      obtain ⟨c1, c2, c3, c4⟩ := a1 s q
      refine ⟨⟨c1, c3⟩, fun s' h1 h2 => ?_⟩
      by_cases h3 : pc s' < many
      · exact absurd h2 (hlow s' h1 h3)
      · by_cases h4 : pc s' ≤ many
        · have := c4 s' h1 h4 h2
          show pc s < pc s' ∨ (pc s = pc s' ∧ s ≤ s')
          omega
        · exact Or.inl (by show pc s < pc s'; omega)
    | none =>
      refine ih (many + 1) (by omega) fun s h1 h2 => ?_
      exact a2 q s h1 (by omega)
abbrev reL (L : Nat → Nat) : Nat → Nat := fun t => clo L (2 ^ t)
end
