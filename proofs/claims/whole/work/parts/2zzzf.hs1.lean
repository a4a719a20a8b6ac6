/-! colourings: classes reached, a shift along them -/
section
def szC (V : List Nat) (c : Nat → Nat) (i : Nat) : Nat := V.countP (fun v => decide (c v = i))
def prC (V : List Nat) (adj : Nat → Nat → Bool) (k : Nat) (c : Nat → Nat) : Prop := (∀ v ∈ V, c v < k) ∧ ∀ u ∈ V, ∀ v ∈ V, adj u v = true → c u ≠ c v
def moC (V : List Nat) (adj : Nat → Nat → Bool) (c : Nat → Nat) (i j : Nat) : Prop := ∃ w ∈ V, c w = i ∧ ∀ u ∈ V, c u = j → adj w u = false
def Rx (V : List Nat) (adj : Nat → Nat → Bool) (k s : Nat) (c : Nat → Nat) (ex : Nat) : Nat → Nat → Prop
  | 0, i => i < k ∧ i ≠ ex ∧ szC V c i < s
  | n + 1, i => Rx V adj k s c ex n i ∨ (i < k ∧ i ≠ ex ∧ ∃ j, moC V adj c i j ∧ Rx V adj k s c ex n j)
def AcX (V : List Nat) (adj : Nat → Nat → Bool) (k s : Nat) (c : Nat → Nat) (ex i : Nat) : Prop := ∃ n, Rx V adj k s c ex n i
def upC (c : Nat → Nat) (w j : Nat) : Nat → Nat := fun v => if v = w then j else c v
theorem upC_e {c : Nat → Nat} {w j : Nat} : upC c w j w = j := if_pos rfl
theorem upC_n {c : Nat → Nat} {w j v : Nat} (h : v ≠ w) : upC c w j v = c v := if_neg h
theorem sz_up {V : List Nat} {c : Nat → Nat} {w j : Nat} : ∀ (_ : V.Nodup) (_ : w ∈ V) (l : Nat), szC V (upC c w j) l + b1 (decide (c w = l)) = szC V c l + b1 (decide (j = l)) := by
  unfold szC
  induction V with
  | nil => intro _ h; cases h
  | cons a V ih =>
    intro hn hw l
    obtain ⟨n1, n2⟩ := List.nodup_cons.mp hn
    rw [cn_cons, cn_cons]
    by_cases e : a = w
    · subst e
      have : V.countP (fun v => decide (upC c a j v = l)) = V.countP (fun v => decide (c v = l)) := cn_eq fun v hv => by
        have hva : v ≠ a := fun z => n1 (by rw [← z]; exact hv)
        rw [upC_n hva]
      rw [this, upC_e]
      omega
    · have hw' : w ∈ V := by rcases List.mem_cons.mp hw with z | z
                             · exact absurd z.symm e
                             · exact z
      have := ih n2 hw' l
      rw [upC_n e]
      omega
theorem b1_t {P : Prop} [Decidable P] (h : P) : b1 (decide P) = 1 := by rw [decide_eq_true h]; rfl
theorem b1_f {P : Prop} [Decidable P] (h : ¬ P) : b1 (decide P) = 0 := by rw [decide_eq_false h]; rfl
theorem Rx_lt {V : List Nat} {adj : Nat → Nat → Bool} {k s : Nat} {c : Nat → Nat} {ex : Nat} : ∀ {n i : Nat}, Rx V adj k s c ex n i → i < k ∧ i ≠ ex := by
  intro n
  induction n with
  | zero => intro i h; exact ⟨h.1, h.2.1⟩
  | succ n ih =>
    intro i h
    rcases h with h | h
    · exact ih h
    · exact ⟨h.1, h.2.1⟩
theorem AcX.lt {V : List Nat} {adj : Nat → Nat → Bool} {k s : Nat} {c : Nat → Nat} {ex i : Nat} (h : AcX V adj k s c ex i) : i < k ∧ i ≠ ex := by
  obtain ⟨n, h⟩ := h
  exact Rx_lt h
theorem AcX.st {V : List Nat} {adj : Nat → Nat → Bool} {k s : Nat} {c : Nat → Nat} {ex i j : Nat} (h1 : i < k) (h2 : i ≠ ex) (h3 : moC V adj c i j) (h : AcX V adj k s c ex j) : AcX V adj k s c ex i := by
  obtain ⟨n, h⟩ := h
  exact ⟨n + 1, Or.inr ⟨h1, h2, j, h3, h⟩⟩
theorem least {P : Nat → Prop} {n : Nat} (h : P n) : ∃ m, P m ∧ ∀ j, j < m → ¬ P j := by
  induction n using Nat.strongRecOn with
  | ind n ih =>
    by_cases c : ∃ j, j < n ∧ P j
    · obtain ⟨j, h1, h2⟩ := c
      exact ih j h1 h2
    · exact ⟨n, h, fun j hj hp9 => c ⟨j, hj, hp9⟩⟩
theorem sh_n {V : List Nat} {adj : Nat → Nat → Bool} {k s : Nat} {c : Nat → Nat} {ex : Nat} (hV : V.Nodup) (sym : ∀ u v, adj u v = adj v u) (hc : prC V adj k c) : ∀ (n i : Nat), Rx V adj k s c ex n i → (∀ m, m < n → ¬ Rx V adj k s c ex m i) → ∃ c', prC V adj k c' ∧ (szC V c' i + 1 ≤ szC V c i ∨ szC V c' i + 1 ≤ s) ∧ (∀ l, l ≠ i → szC V c' l ≤ szC V c l ∨ szC V c' l ≤ s) ∧ ∀ v ∈ V, c' v ≠ c v → (c v = i ∨ ∃ m, m < n ∧ Rx V adj k s c ex m (c v)) ∧ ∃ m, m < n ∧ Rx V adj k s c ex m (c' v) := by
  intro n
  induction n with
  | zero =>
    intro i h _
    exact ⟨c, hc, Or.inr h.2.2, fun l _ => Or.inl (Nat.le_refl _), fun v _ z => absurd rfl z⟩
  | succ n ih =>
    intro i h hmin
    rcases h with h | ⟨h1, h2, j, h3, h4⟩
    · exact absurd h (hmin n (by omega))
    have hjm : ∀ m, m < n → ¬ Rx V adj k s c ex m j := fun m hm z => hmin (m + 1) (by omega) (Or.inr ⟨h1, h2, j, h3, z⟩)
    obtain ⟨c1, g1, g2, g3, g4⟩ := ih j h4 hjm
    obtain ⟨w, w1, w2, w3⟩ := h3
    have hij : i ≠ j := fun e => hmin n (by omega) (e ▸ h4)
    have cw : c1 w = i := by
      apply Classical.byContradiction
      intro z
      rcases (g4 w w1 (by rw [w2]; exact z)).1 with e | ⟨m, m1, m2⟩
      · exact hij (w2 ▸ e)
      · rw [w2] at m2
        exact hmin m (by omega) m2
    have cj : ∀ v ∈ V, c1 v = j → c v = j := by
      intro v hv e
      apply Classical.byContradiction
      intro z
      obtain ⟨_, m, m1, m2⟩ := g4 v hv (fun y => z (y ▸ e))
      rw [e] at m2
      exact hjm m m1 m2
    have ci : ∀ v ∈ V, c1 v = i → c v = i := by
      intro v hv e
      apply Classical.byContradiction
      intro z
      obtain ⟨_, m, m1, m2⟩ := g4 v hv (fun y => z (y ▸ e))
      rw [e] at m2
      exact hmin m (by omega) m2
    have hjk := (Rx_lt h4).1
    refine ⟨upC c1 w j, ⟨fun v hv => ?_, fun u hu v hv ha => ?_⟩, ?_, fun l hl => ?_, fun v hv z => ?_⟩
    · by_cases e : v = w
      · rw [e, upC_e]; exact hjk
      · rw [upC_n e]; exact g1.1 v hv
    · by_cases eu : u = w
      · by_cases ev9 : v = w
        · rw [eu, ev9] at ha
          exact absurd rfl (g1.2 w w1 w w1 ha)
        · rw [eu, upC_e, upC_n ev9]
          intro e
          rw [eu] at ha
          rw [w3 v hv (cj v hv e.symm)] at ha
          cases ha
      · by_cases ev9 : v = w
        · rw [ev9, upC_e, upC_n eu]
          intro e
          rw [ev9, sym] at ha
          rw [w3 u hu (cj u hu e)] at ha
          cases ha
        · rw [upC_n eu, upC_n ev9]
          exact g1.2 u hu v hv ha
    · have q := sz_up (c := c1) (j := j) hV w1 i
      rw [b1_t cw, b1_f (fun e => hij e.symm)] at q
      have q2 : szC V c1 i ≤ szC V c i := cn_le fun v hv z => decide_eq_true (ci v hv (of_decide_eq_true z))
      exact Or.inl (by omega)
    · have q := sz_up (c := c1) (j := j) hV w1 l
      rw [b1_f (fun e => hl (cw ▸ e.symm))] at q
      by_cases ej : l = j
      · rw [b1_t ej.symm] at q
        rw [ej] at q ⊢
        rcases g2 with g | g
        · exact Or.inl (by omega)
        · exact Or.inr (by omega)
      · rw [b1_f (fun e => ej e.symm)] at q
        rcases g3 l ej with g | g
        · exact Or.inl (by omega)
        · exact Or.inr (by omega)
    · by_cases e : v = w
      · rw [e, upC_e]
        exact ⟨Or.inl w2, n, by omega, h4⟩
      · rw [upC_n e] at z ⊢
        obtain ⟨a1, m, m1, m2⟩ := g4 v hv z
        refine ⟨Or.inr ?_, m, by omega, m2⟩
        rcases a1 with a1 | ⟨m', m1', m2'⟩
        · exact ⟨n, by omega, a1 ▸ h4⟩
        · exact ⟨m', by omega, m2'⟩
/-- room in a class from which a small one is reached -/
theorem sh_acc {V : List Nat} {adj : Nat → Nat → Bool} {k s : Nat} {c : Nat → Nat} {ex i : Nat} (hV : V.Nodup) (sym : ∀ u v, adj u v = adj v u) (hc : prC V adj k c) (h : AcX V adj k s c ex i) : ∃ c', prC V adj k c' ∧ (szC V c' i + 1 ≤ szC V c i ∨ szC V c' i + 1 ≤ s) ∧ (∀ l, l ≠ i → szC V c' l ≤ szC V c l ∨ szC V c' l ≤ s) ∧ ∀ v ∈ V, c' v ≠ c v → AcX V adj k s c ex (c v) ∧ AcX V adj k s c ex (c' v) ∧ c' v ≠ i := by
  obtain ⟨n, h⟩ := h
  obtain ⟨m, m1, m2⟩ := least (P := fun n => Rx V adj k s c ex n i) h
  obtain ⟨c', g1, g2, g3, g4⟩ := sh_n hV sym hc m i m1 m2
  refine ⟨c', g1, g2, g3, fun v hv z => ?_⟩
  obtain ⟨a1, b, b1, b2⟩ := g4 v hv z
  refine ⟨?_, ⟨b, b2⟩, fun e => m2 b b1 (e ▸ b2)⟩
  rcases a1 with a1 | ⟨a, _, a2⟩
  · exact ⟨m, a1 ▸ m1⟩
  · exact ⟨a, a2⟩
/-- a class cut off by another one -/
theorem ex_1 {V : List Nat} {adj : Nat → Nat → Bool} {k s : Nat} {c : Nat → Nat} {U W : Nat} (hW : ¬ AcX V adj k s c U W) : ∀ (n X : Nat), Rx V adj k s c U n X → Rx V adj k s c W n X := by
  intro n
  induction n with
  | zero => exact fun X h => ⟨h.1, fun e => hW ⟨0, e ▸ h⟩, h.2.2⟩
  | succ n ih =>
    intro X h
    have hne : X ≠ W := fun e => hW ⟨n + 1, e ▸ h⟩
    rcases h with h | ⟨h1, h2, j, h3, h4⟩
    · exact Or.inl (ih X h)
    · exact Or.inr ⟨h1, hne, j, h3, ih j h4⟩
theorem ex_2 {V : List Nat} {adj : Nat → Nat → Bool} {k s : Nat} {c : Nat → Nat} {U : Nat} : ∀ (n j : Nat), Rx V adj k s c k n j → AcX V adj k s c U j ∨ ∃ m, m ≤ n ∧ Rx V adj k s c k m U := by
  intro n
  induction n with
  | zero =>
    intro j h
    by_cases e : j = U
    · exact Or.inr ⟨0, by omega, e ▸ h⟩
    · exact Or.inl ⟨0, h.1, e, h.2.2⟩
  | succ n ih =>
    intro j h
    by_cases e : j = U
    · exact Or.inr ⟨n + 1, by omega, e ▸ h⟩
    rcases h with h | ⟨h1, h2, l, h3, h4⟩
    · rcases ih j h with g | ⟨m, m1, m2⟩
      · exact Or.inl g
      · exact Or.inr ⟨m, by omega, m2⟩
    · rcases ih l h4 with g | ⟨m, m1, m2⟩
      · exact Or.inl (g.st h1 e h3)
      · exact Or.inr ⟨m, by omega, m2⟩
theorem ex_3 {V : List Nat} {adj : Nat → Nat → Bool} {k s : Nat} {c : Nat → Nat} {U W : Nat} (hW : ¬ AcX V adj k s c U W) (hUW : U ≠ W) : ∀ n, Rx V adj k s c k n U → AcX V adj k s c W U := by
  intro n
  induction n using Nat.strongRecOn with
  | ind n ih =>
    intro h
    cases n with
    | zero => exact ⟨0, h.1, hUW, h.2.2⟩
    | succ n =>
      rcases h with h | ⟨h1, h2, j, h3, h4⟩
      · exact ih n (by omega) h
      · rcases ex_2 (U := U) n j h4 with ⟨m, g⟩ | ⟨m, m1, m2⟩
        · exact AcX.st h1 hUW h3 ⟨m, ex_1 hW m j g⟩
        · exact ih m (by omega) m2
end
