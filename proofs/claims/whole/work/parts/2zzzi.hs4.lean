/-! colourings as even as can be (Hajnal and Szemeredi; the way of Kierstead and Kostochka) -/
section
theorem AcX_k {V : List Nat} {adj : Nat → Nat → Bool} {k s : Nat} {c : Nat → Nat} {W : Nat} : ∀ (n i : Nat), Rx V adj k s c W n i → Rx V adj k s c k n i := by
  intro n
  induction n with
  | zero => exact fun i h => ⟨h.1, Nat.ne_of_lt h.1, h.2.2⟩
  | succ n ih =>
    intro i h
    rcases h with h | ⟨h1, h2, j, h3, h4⟩
    · exact Or.inl (ih i h)
    · exact Or.inr ⟨h1, Nat.ne_of_lt h1, j, h3, ih j h4⟩
theorem getD_inj {l : List Nat} (hn : l.Nodup) : ∀ i j, i < l.length → j < l.length → l.getD i 0 = l.getD j 0 → i = j := by
  induction l with
  | nil => intro i j h; exact absurd h (Nat.not_lt_zero _)
  | cons a l ih =>
    obtain ⟨n1, n2⟩ := List.nodup_cons.mp hn
    intro i j hi hj e
    cases i with
    | zero =>
      cases j with
      | zero => rfl
      | succ j =>
        rw [List.getD_cons_zero, List.getD_cons_succ] at e
        rw [List.length_cons] at hj
        exact absurd (e ▸ say_mem (l := l) (k := j) (by omega)) n1
    | succ i =>
      cases j with
      | zero =>
        rw [List.getD_cons_zero, List.getD_cons_succ] at e
        rw [List.length_cons] at hi
        exact absurd (e ▸ say_mem (l := l) (k := i) (by omega)) n1
      | succ j =>
        rw [List.getD_cons_succ, List.getD_cons_succ] at e
        rw [List.length_cons] at hi hj
        rw [ih n2 i j (by omega) (by omega) e]
theorem mem_getD {l : List Nat} {x : Nat} (h : x ∈ l) : ∃ j, j < l.length ∧ l.getD j 0 = x := by
  induction l with
  | nil => cases h
  | cons a l ih =>
    rcases List.mem_cons.mp h with e | e
    · exact ⟨0, by rw [List.length_cons]; omega, by rw [List.getD_cons_zero, e]⟩
    · obtain ⟨j, j1, j2⟩ := ih e
      exact ⟨j + 1, by rw [List.length_cons]; omega, by rw [List.getD_cons_succ, j2]⟩
/-- A kept, B coloured anew -/
theorem rebld {V : List Nat} {adj : Nat → Nat → Bool} {k q : Nat} {a pA : Nat → Bool} {cA g : Nat → Nat} (hq : (kL k).countP (fun i => !a i) = q) (hA : ∀ v ∈ V, pA v = true → cA v < k ∧ a (cA v) = true) (hAp : ∀ u ∈ V, ∀ v ∈ V, pA u = true → pA v = true → adj u v = true → cA u ≠ cA v) (hg : prC (V.filter (fun v => !pA v)) adj q g) : ∃ (c : Nat → Nat) (f : Nat → Nat), prC V adj k c ∧ (∀ v ∈ V, pA v = true → c v = cA v) ∧ (∀ v ∈ V, pA v = false → a (c v) = false) ∧ (∀ i, a i = true → szC V c i = V.countP (fun v => pA v && decide (cA v = i))) ∧ (∀ j, j < q → f j < k ∧ a (f j) = false) ∧ (∀ i, i < k → a i = false → ∃ j, j < q ∧ f j = i ∧ szC V c i = szC (V.filter (fun v => !pA v)) g j) ∧ ∀ i j, i < q → j < q → f i = f j → i = j := by
  have hlen : ((kL k).filter (fun i => !a i)).length = q := by rw [← List.countP_eq_length_filter, hq]
  have hnd : ((kL k).filter (fun i => !a i)).Nodup := List.Pairwise.filter _ (kL_nd k)
  have hf : ∀ j, j < q → ((kL k).filter (fun i => !a i)).getD j 0 < k ∧ a (((kL k).filter (fun i => !a i)).getD j 0) = false := by
    intro j hj
    have := List.mem_filter.mp (say_mem (l := (kL k).filter (fun i => !a i)) (k := j) (by omega))
    refine ⟨kL_mem.mp this.1, ?_⟩
    have h2 := this.2
    cases hx : a (((kL k).filter (fun i => !a i)).getD j 0) with
    | false => rfl
    | true => rw [hx] at h2; cases h2
  have hinj : ∀ i j, i < q → j < q → ((kL k).filter (fun i => !a i)).getD i 0 = ((kL k).filter (fun i => !a i)).getD j 0 → i = j := fun i j hi hj e => getD_inj hnd i j (by omega) (by omega) e
  have hsur : ∀ i, i < k → a i = false → ∃ j, j < q ∧ ((kL k).filter (fun i => !a i)).getD j 0 = i := by
    intro i hi ha
    obtain ⟨j, j1, j2⟩ := mem_getD ((List.mem_filter (p := fun i => !a i)).mpr ⟨kL_mem.mpr hi, (by rw [ha]; rfl : (!a i) = true)⟩)
    exact ⟨j, by omega, j2⟩
  have gf : ∀ v ∈ V, pA v = false → v ∈ V.filter (fun v => !pA v) := fun v hv h => List.mem_filter.mpr ⟨hv, by rw [h]; rfl⟩
  refine ⟨fun v => if pA v = true then cA v else ((kL k).filter (fun i => !a i)).getD (g v) 0, fun j => ((kL k).filter (fun i => !a i)).getD j 0, ⟨fun v hv => ?_, fun u hu v hv ha => ?_⟩, fun v hv h => if_pos h, fun v hv h => ?_, fun i hi => ?_, hf, fun i hi ha => ?_, hinj⟩
  · show (if pA v = true then cA v else _) < k
    by_cases h : pA v = true
    · rw [if_pos h]; exact (hA v hv h).1
    · rw [if_neg h]
      rw [Bool.not_eq_true] at h
      exact (hf _ (hg.1 v (gf v hv h))).1
  · show (if pA u = true then cA u else _) ≠ (if pA v = true then cA v else _)
    by_cases h1 : pA u = true
    · rw [if_pos h1]
      by_cases h2 : pA v = true
      · rw [if_pos h2]; exact hAp u hu v hv h1 h2 ha
      · rw [if_neg h2]
        rw [Bool.not_eq_true] at h2
        intro e
        have h3 := (hA u hu h1).2
        rw [e, (hf _ (hg.1 v (gf v hv h2))).2] at h3
        cases h3
    · rw [if_neg h1]
      rw [Bool.not_eq_true] at h1
      by_cases h2 : pA v = true
      · rw [if_pos h2]
        intro e
        have h3 := (hA v hv h2).2
        rw [← e, (hf _ (hg.1 u (gf u hu h1))).2] at h3
        cases h3
      · rw [if_neg h2]
        rw [Bool.not_eq_true] at h2
        intro e
        exact hg.2 u (gf u hu h1) v (gf v hv h2) ha (hinj _ _ (hg.1 u (gf u hu h1)) (hg.1 v (gf v hv h2)) e)
  · show a (if pA v = true then cA v else _) = false
    rw [if_neg (by rw [h]; exact Bool.false_ne_true)]
    exact (hf _ (hg.1 v (gf v hv h))).2
  · refine cn_eq fun v hv => ?_
    show decide ((if pA v = true then cA v else _) = i) = _
    by_cases h : pA v = true
    · rw [if_pos h, h, Bool.true_and]
    · rw [if_neg h]
      rw [Bool.not_eq_true] at h
      rw [h, Bool.false_and, decide_eq_false]
      intro e
      have h3 := (hf _ (hg.1 v (gf v hv h))).2
      rw [e, hi] at h3
      cases h3
  · obtain ⟨j, j1, j2⟩ := hsur i hi ha
    refine ⟨j, j1, j2, ?_⟩
    unfold szC
    rw [List.countP_filter]
    refine cn_eq fun v hv => ?_
    show decide ((if pA v = true then cA v else _) = i) = _
    by_cases h : pA v = true
    · rw [if_pos h, h]
      rw [decide_eq_false (fun e => by have h3 := (hA v hv h).2; rw [e, ha] at h3; cases h3)]
      exact (Bool.and_false _).symm
    · rw [if_neg h]
      rw [Bool.not_eq_true] at h
      rw [h]
      have hgv := hg.1 v (gf v hv h)
      by_cases e : g v = j
      · rw [e, j2, decide_eq_true rfl, decide_eq_true rfl]; rfl
      · rw [decide_eq_false e, decide_eq_false (fun z => e (hinj _ _ hgv j1 (z.trans j2.symm)))]; rfl
/-- a colour that is free for one vertex -/
theorem freeC {V : List Nat} {adj : Nat → Nat → Bool} {k : Nat} {c : Nat → Nat} {v : Nat} (hc : ∀ u ∈ V, c u < k) (h : V.countP (adj v) < k) : ∃ i, i < k ∧ ∀ u ∈ V, c u = i → adj v u = false := by
  apply Classical.byContradiction
  intro hno
  have h1 : ∀ i, i < k → 1 ≤ V.countP (fun u => adj v u && decide (c u = i)) := by
    intro i hi
    apply Classical.byContradiction
    intro hz
    refine hno ⟨i, hi, fun u hu e => ?_⟩
    cases hx : adj v u with
    | false => rfl
    | true => exact absurd (cn_pos hu (by rw [hx, decide_eq_true e]; rfl)) hz
  have h2 : V.countP (fun u => adj v u && true) = sN (kL k) (fun i => if true = true then V.countP (fun u => adj v u && decide (c u = i)) else 0) := cn_class hc (adj v) (fun _ => true)
  have h3 : V.countP (fun u => adj v u && true) = V.countP (adj v) := cn_eq fun u _ => Bool.and_true _
  have h4 : (kL k).countP (fun _ => true) * 1 ≤ sN (kL k) (fun i => if true = true then V.countP (fun u => adj v u && decide (c u = i)) else 0) := sN_if (a := fun _ => true) fun i hi _ => h1 i (kL_mem.mp hi)
  have h5 : (kL k).countP (fun _ => true) = k := by rw [List.countP_eq_length.mpr (fun _ _ => rfl), kL_len]
  omega
theorem szV {V : List Nat} {k : Nat} {c : Nat → Nat} (hc : ∀ u ∈ V, c u < k) (a : Nat → Bool) : V.countP (fun v => a (c v)) = sN (kL k) (fun i => if a i = true then szC V c i else 0) := by
  have h1 := cn_class hc (fun _ => true) a
  have h2 : V.countP (fun v => true && a (c v)) = V.countP (fun v => a (c v)) := cn_eq fun v _ => Bool.true_and _
  rw [← h2, h1]
  refine sN_eq fun i _ => ?_
  have h3 : V.countP (fun v => true && decide (c v = i)) = szC V c i := cn_eq fun v _ => Bool.true_and _
  rw [h3]
end
