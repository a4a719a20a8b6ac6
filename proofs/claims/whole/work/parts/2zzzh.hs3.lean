/-! colourings: the counting -/
section
def nbC (V : List Nat) (adj : Nat → Nat → Bool) (c : Nat → Nat) (v i : Nat) : Nat := V.countP (fun u => adj v u && decide (c u = i))
def dBC (V : List Nat) (adj : Nat → Nat → Bool) (c : Nat → Nat) (a : Nat → Bool) (v : Nat) : Nat := V.countP (fun u => adj v u && !a (c u))
theorem deg_s {V : List Nat} {adj : Nat → Nat → Bool} {k : Nat} {c : Nat → Nat} {a : Nat → Bool} (hc : prC V adj k c) (v : Nat) : V.countP (adj v) = sN (kL k) (fun i => if a i = true then nbC V adj c v i else 0) + dBC V adj c a v := by
  rw [cn_split V (adj v) (fun u => a (c u)), cn_class hc.1 (adj v) a]
  rfl
theorem cn_k {k : Nat} (a : Nat → Bool) : (kL k).countP a + (kL k).countP (fun i => !a i) = k := by
  have h := cn_split (kL k) (fun _ => true) a
  have h1 : (kL k).countP (fun _ => true) = k := by
    rw [List.countP_eq_length.mpr (fun _ _ => rfl), kL_len]
  have h2 : (kL k).countP (fun x => true && a x) = (kL k).countP a := cn_eq fun x _ => Bool.true_and _
  have h3 : (kL k).countP (fun x => true && !a x) = (kL k).countP (fun i => !a i) := cn_eq fun x _ => Bool.true_and _
  omega
/-- not many neighbours within B -/
theorem dB_y {V : List Nat} {adj : Nat → Nat → Bool} {k : Nat} {c : Nat → Nat} {a e : Nat → Bool} {v : Nat} (hc : prC V adj k c) (hd : V.countP (adj v) < k) (hn : ∀ i, i < k → a i = true → e i = true → 1 ≤ nbC V adj c v i) : dBC V adj c a v + 1 ≤ (kL k).countP (fun i => !a i) + (kL k).countP (fun i => a i && !e i) := by
  have h1 := deg_s (a := a) hc v
  have h2 : (kL k).countP (fun i => a i && e i) * 1 ≤ sN (kL k) (fun i => if (a i && e i) = true then nbC V adj c v i else 0) := sN_if fun i hi z => by
    rw [Bool.and_eq_true] at z
    exact hn i (kL_mem.mp hi) z.1 z.2
  have h3 : sN (kL k) (fun i => if (a i && e i) = true then nbC V adj c v i else 0) ≤ sN (kL k) (fun i => if a i = true then nbC V adj c v i else 0) := sN_le fun i _ => by
    cases a i <;> cases e i <;> simp
  have h4 := cn_split (kL k) a e
  have h5 := cn_k (k := k) a
  omega
/-- classes with just one neighbour -/
theorem sy_y {V : List Nat} {adj : Nat → Nat → Bool} {k : Nat} {c : Nat → Nat} {a a' : Nat → Bool} {v : Nat} (hc : prC V adj k c) (hd : V.countP (adj v) < k) (ha : ∀ i, a' i = true → a i = true) (hn : ∀ i, i < k → a i = true → 1 ≤ nbC V adj c v i) : (kL k).countP a' + 1 + dBC V adj c a v ≤ (kL k).countP (fun i => a' i && decide (nbC V adj c v i = 1)) + (kL k).countP (fun i => !a i) := by
  have h1 := deg_s (a := a) hc v
  have h2 : (kL k).countP a + (kL k).countP (fun i => a' i && !decide (nbC V adj c v i = 1)) ≤ sN (kL k) (fun i => if a i = true then nbC V adj c v i else 0) := by
    rw [cn_sN, cn_sN, ← sN_add]
    refine sN_le fun i hi => ?_
    unfold b1
    by_cases c1 : a i = true
    · have hp9 := hn i (kL_mem.mp hi) c1
      rw [if_pos c1, if_pos c1]
      by_cases c2 : (a' i && !decide (nbC V adj c v i = 1)) = true
      · rw [if_pos c2]
        rw [Bool.and_eq_true, Bool.not_eq_true', decide_eq_false_iff_not] at c2
        have := c2.2
        omega
      · rw [if_neg c2]; omega
    · rw [if_neg c1, if_neg c1, if_neg (fun z => c1 (ha i (Bool.and_eq_true_iff.mp z).1))]
      omega
  have h4 := cn_split (kL k) a' (fun i => decide (nbC V adj c v i = 1))
  have h5 := cn_k (k := k) a
  omega
theorem sum_if {V : List Nat} {P : Nat → Bool} {R : Nat → Nat → Bool} : sN V (fun x => if P x = true then V.countP (R x) else 0) = sN V (fun u => V.countP (fun x => P x && R x u)) := by
  rw [← cn_swap V V (fun x u => P x && R x u)]
  refine sN_eq fun x _ => ?_
  by_cases h : P x = true
  · rw [if_pos h]
    exact cn_eq fun u _ => by rw [h, Bool.true_and]
  · rw [if_neg h]
    rw [Bool.not_eq_true] at h
    exact (cn_0 fun u _ => by rw [h, Bool.false_and]).symm
/-- a class in A' none of whose lone neighbours can move: A' is larger than B -/
theorem lem3 {V : List Nat} {adj : Nat → Nat → Bool} {k s t q : Nat} {c : Nat → Nat} {a : Nat → Bool} {W : Nat} (hV : V.Nodup) (sym : ∀ u v, adj u v = adj v u) (hW : szC V c W ≤ s) (hB : q * s + 1 ≤ V.countP (fun v => !a (c v))) (h1 : ∀ y ∈ V, a (c y) = false → 1 ≤ nbC V adj c y W) (h2 : ∀ z ∈ V, c z = W → (∃ y ∈ V, a (c y) = false ∧ nbC V adj c y W = 1 ∧ adj y z = true) → dBC V adj c a z ≤ q) (h3 : ∀ x ∈ V, c x = W → dBC V adj c a x ≤ q + t) : q + 1 ≤ t := by
  have hS : ∀ z, dcP (∃ y ∈ V, a (c y) = false ∧ nbC V adj c y W = 1 ∧ adj y z = true) = true ↔ _ := fun z => dcP_iff
  generalize hs : (fun z => dcP (∃ y ∈ V, a (c y) = false ∧ nbC V adj c y W = 1 ∧ adj y z = true)) = S
  have hS : ∀ z, S z = true ↔ ∃ y ∈ V, a (c y) = false ∧ nbC V adj c y W = 1 ∧ adj y z = true := fun z => by rw [← hs]; exact dcP_iff
  have e1 : sN V (fun x => if (decide (c x = W) && S x) = true then dBC V adj c a x else 0) ≤ V.countP (fun x => decide (c x = W) && S x) * q := sN_ifle fun x hx z => by
    rw [Bool.and_eq_true, decide_eq_true_iff] at z
    exact h2 x hx z.1 ((hS x).mp z.2)
  have e2 : sN V (fun x => if (decide (c x = W) && !S x) = true then dBC V adj c a x else 0) ≤ V.countP (fun x => decide (c x = W) && !S x) * (q + t) := sN_ifle fun x hx z => by
    rw [Bool.and_eq_true, decide_eq_true_iff] at z
    exact h3 x hx z.1
  unfold dBC at e1 e2
  rw [sum_if (R := fun x u => adj x u && !a (c u))] at e1 e2
  have e3 : V.countP (fun v => !a (c v)) * 2 ≤ sN V (fun u => V.countP (fun x => (decide (c x = W) && !S x) && (adj x u && !a (c u))) + (V.countP (fun x => (decide (c x = W) && S x) && (adj x u && !a (c u))) + V.countP (fun x => (decide (c x = W) && S x) && (adj x u && !a (c u))))) := by
    refine Nat.le_trans (sN_if (a := fun v => !a (c v)) (f := fun u => V.countP (fun x => (decide (c x = W) && !S x) && (adj x u && !a (c u))) + (V.countP (fun x => (decide (c x = W) && S x) && (adj x u && !a (c u))) + V.countP (fun x => (decide (c x = W) && S x) && (adj x u && !a (c u))))) (m := 2) fun u hu hb => ?_) (sN_le fun u _ => by
      cases (!a (c u)) <;> simp)
    have hb' : a (c u) = false := by cases hx : a (c u) with
                                     | false => rfl
                                     | true => rw [hx] at hb; cases hb
    have en : nbC V adj c u W = V.countP (fun x => (decide (c x = W) && S x) && (adj x u && !a (c u))) + V.countP (fun x => (decide (c x = W) && !S x) && (adj x u && !a (c u))) := by
      unfold nbC
      rw [cn_split V (fun x => adj u x && decide (c x = W)) S]
      congr 1
      · exact cn_eq fun x _ => by rw [hb', sym u x]; cases adj x u <;> cases decide (c x = W) <;> cases S x <;> rfl
      · exact cn_eq fun x _ => by rw [hb', sym u x]; cases adj x u <;> cases decide (c x = W) <;> cases S x <;> rfl
    have hn := h1 u hu hb'
    by_cases c2 : 1 ≤ V.countP (fun x => (decide (c x = W) && S x) && (adj x u && !a (c u)))
    · omega
    · by_cases c3 : nbC V adj c u W = 1
      · obtain ⟨x, hx, px⟩ := cn_ex (show 1 ≤ V.countP (fun x => (decide (c x = W) && !S x) && (adj x u && !a (c u))) by omega)
        rw [Bool.and_eq_true, Bool.and_eq_true, Bool.and_eq_true] at px
        have : S x = true := (hS x).mpr ⟨u, hu, hb', c3, by rw [sym]; exact px.2.1⟩
        rw [this] at px
        exact absurd px.1.2 (by decide)
      · omega
  rw [sN_add, sN_add] at e3
  have e4 := cn_split V (fun x => decide (c x = W)) S
  unfold szC at hW
  generalize V.countP (fun x => decide (c x = W) && S x) = σ at e1 e4
  generalize V.countP (fun x => decide (c x = W) && !S x) = δ at e2 e4
  generalize V.countP (fun v => !a (c v)) = B at hB e3
  apply Classical.byContradiction
  intro hno
  have m1 : δ * (q + t) ≤ δ * (q + q) := Nat.mul_le_mul_left _ (by omega)
  have m2 : (δ + σ) * q ≤ s * q := Nat.mul_le_mul_right _ (by omega)
  rw [Nat.mul_add] at m1
  rw [Nat.add_mul] at m2
  have m3 : s * q = q * s := Nat.mul_comm _ _
  rw [Nat.mul_add] at e2
  rw [Nat.mul_add] at m1
  omega
/-- a maximal set without neighbours -/
theorem indep {adj : Nat → Nat → Bool} (sym : ∀ u v, adj u v = adj v u) : ∀ L : List Nat, L.Nodup → ∃ I : List Nat, I.Nodup ∧ (∀ x ∈ I, x ∈ L) ∧ (∀ x ∈ I, ∀ y ∈ I, x ≠ y → adj x y = false) ∧ ∀ v ∈ L, v ∈ I ∨ ∃ y ∈ I, adj y v = true := by
  intro L
  induction L with
  | nil => exact fun _ => ⟨[], List.nodup_nil, fun x h => h, (fun x h => by cases h), fun v h => by cases h⟩
  | cons a L ih =>
    intro hn
    obtain ⟨n1, n2⟩ := List.nodup_cons.mp hn
    obtain ⟨I, i1, i2, i3, i4⟩ := ih n2
    by_cases h : ∃ y ∈ I, adj y a = true
    · refine ⟨I, i1, fun x hx => List.mem_cons_of_mem _ (i2 x hx), i3, fun v hv => ?_⟩
      rcases List.mem_cons.mp hv with e | e
      · rw [e]; exact Or.inr h
      · exact i4 v e
    · have h' : ∀ y ∈ I, adj y a = false := fun y hy => by
        cases hx : adj y a with
        | false => rfl
        | true => exact absurd ⟨y, hy, hx⟩ h
      refine ⟨a :: I, List.nodup_cons.mpr ⟨fun z => n1 (i2 a z), i1⟩, fun x hx => ?_, fun x hx y hy hxy => ?_, fun v hv => ?_⟩
      · rcases List.mem_cons.mp hx with e | e
        · rw [e]; exact List.mem_cons_self
        · exact List.mem_cons_of_mem _ (i2 x e)
      · rcases List.mem_cons.mp hx with e | e
        · rcases List.mem_cons.mp hy with f | f
          · exact absurd (e.trans f.symm) hxy
          · rw [e, sym]; exact h' y f
        · rcases List.mem_cons.mp hy with f | f
          · rw [f]; exact h' x e
          · exact i3 x e y f hxy
      · rcases List.mem_cons.mp hv with e | e
        · rw [e]; exact Or.inl List.mem_cons_self
        · rcases i4 v e with g | ⟨y, g1, g2⟩
          · exact Or.inl (List.mem_cons_of_mem _ g)
          · exact Or.inr ⟨y, List.mem_cons_of_mem _ g1, g2⟩
/-- one with two lone neighbours that are apart -/
theorem two_solo {V : List Nat} {adj : Nat → Nat → Bool} {k s t q : Nat} {c : Nat → Nat} {a a' : Nat → Bool} (hV : V.Nodup) (sym : ∀ u v, adj u v = adj v u) (hc : prC V adj k c) (ht : (kL k).countP a' = t) (hs : ∀ i, a' i = true → szC V c i ≤ s) (htq : q + 1 ≤ t) (hB : q * s + 1 ≤ V.countP (fun v => !a (c v))) (h1 : ∀ y ∈ V, a (c y) = false → dBC V adj c a y + 1 ≤ q) (h2 : ∀ y ∈ V, a (c y) = false → t + 1 + dBC V adj c a y ≤ (kL k).countP (fun i => a' i && decide (nbC V adj c y i = 1)) + q) : ∃ z ∈ V, ∃ y ∈ V, ∃ y' ∈ V, a' (c z) = true ∧ a (c y) = false ∧ a (c y') = false ∧ y ≠ y' ∧ adj y y' = false ∧ adj y z = true ∧ adj y' z = true ∧ nbC V adj c y (c z) = 1 ∧ nbC V adj c y' (c z) = 1 := by
  have hBn : (V.filter (fun v => !a (c v))).Nodup := List.Pairwise.filter _ hV
  obtain ⟨I, i1, i2, i3, i4⟩ := indep sym (V.filter (fun v => !a (c v))) hBn
  have iV : ∀ y ∈ I, y ∈ V ∧ a (c y) = false := fun y hy => by
    have := List.mem_filter.mp (i2 y hy)
    refine ⟨this.1, ?_⟩
    cases hx : a (c y) with
    | false => rfl
    | true => have h9 := this.2; rw [hx] at h9; cases h9
  -- I is large
  have e1 : q * s + 1 ≤ sN I (fun y => dBC V adj c a y + 1) := by
    have h3 : (V.filter (fun v => !a (c v))).length * 1 ≤ sN (V.filter (fun v => !a (c v))) (fun v => I.countP (fun y => decide (y = v) || adj y v)) := by
      rw [← sN_const]
      refine sN_le fun v hv => ?_
      rcases i4 v hv with g | ⟨y, g1, g2⟩
      · exact cn_pos g (by rw [decide_eq_true rfl, Bool.true_or])
      · exact cn_pos g1 (by rw [g2, Bool.or_true])
    rw [← cn_swap I _ (fun y v => decide (y = v) || adj y v), ← List.countP_eq_length_filter] at h3
    refine Nat.le_trans (by omega) (Nat.le_trans h3 (sN_le fun y hy => ?_))
    rw [List.countP_filter, cn_split V _ (fun v => decide (y = v))]
    have a1 : V.countP (fun x => ((decide (y = x) || adj y x) && !a (c x)) && decide (y = x)) ≤ 1 := Nat.le_trans (cn_le fun x _ z => (Bool.and_eq_true_iff.mp z).2) (Nat.le_of_eq (cn_eq1 hV (iV y hy).1))
    have a2 : V.countP (fun x => ((decide (y = x) || adj y x) && !a (c x)) && !decide (y = x)) ≤ dBC V adj c a y := cn_le fun x _ z => by
      cases h5 : decide (y = x) <;> cases h6 : adj y x <;> cases h7 : a (c x) <;> simp [h5, h6, h7] at z ⊢
    omega
  have e2 : sN I (fun y => dBC V adj c a y + 1) ≤ I.length * q := by
    rw [← sN_const]
    exact sN_le fun y hy => h1 y (iV y hy).1 (iV y hy).2
  have e3 : s ≤ I.length := by
    apply Classical.byContradiction
    intro hno
    have : I.length * q ≤ s * q := Nat.mul_le_mul_right _ (by omega)
    rw [Nat.mul_comm s q] at this
    omega
  have e4 : I.length * t + sN I (fun y => dBC V adj c a y + 1) ≤ sN I (fun y => (kL k).countP (fun i => a' i && decide (nbC V adj c y i = 1))) + I.length * q := by
    rw [← sN_const, ← sN_const, ← sN_add, ← sN_add]
    refine sN_le fun y hy => ?_
    have := h2 y (iV y hy).1 (iV y hy).2
    omega
  have e5 : t * s + 1 ≤ sN I (fun y => (kL k).countP (fun i => a' i && decide (nbC V adj c y i = 1))) := by
    obtain ⟨r, hr⟩ : ∃ r, t = q + r := ⟨t - q, by omega⟩
    have m1 : s * r ≤ I.length * r := Nat.mul_le_mul_right _ e3
    subst hr
    rw [Nat.mul_add] at e4
    rw [Nat.add_mul, Nat.mul_comm r s]
    omega
  -- the vertices of A'
  have e6 : sN I (fun y => (kL k).countP (fun i => a' i && decide (nbC V adj c y i = 1))) = sN (V.filter (fun v => a' (c v))) (fun z => I.countP (fun y => adj y z && decide (nbC V adj c y (c z) = 1))) := by
    rw [← cn_swap I (V.filter (fun v => a' (c v))) (fun y z => adj y z && decide (nbC V adj c y (c z) = 1))]
    refine sN_eq fun y _ => ?_
    rw [List.countP_filter]
    have g := cn_class hc.1 (adj y) (fun i => a' i && decide (nbC V adj c y i = 1))
    have g2 : V.countP (fun z => (adj y z && decide (nbC V adj c y (c z) = 1)) && a' (c z)) = V.countP (fun v => adj y v && (a' (c v) && decide (nbC V adj c y (c v) = 1))) := cn_eq fun z _ => by
      cases adj y z <;> cases a' (c z) <;> cases decide (nbC V adj c y (c z) = 1) <;> rfl
    rw [g2, g, cn_sN]
    refine sN_eq fun i _ => ?_
    unfold b1
    by_cases c1 : (a' i && decide (nbC V adj c y i = 1)) = true
    · rw [if_pos c1, if_pos c1]
      exact (of_decide_eq_true (Bool.and_eq_true_iff.mp c1).2).symm
    · rw [if_neg c1, if_neg c1]
  have e7 : (V.filter (fun v => a' (c v))).length ≤ t * s := by
    rw [← List.countP_eq_length_filter]
    have g := cn_class hc.1 (fun _ => true) a'
    have g2 : V.countP (fun v => a' (c v)) = V.countP (fun v => true && a' (c v)) := cn_eq fun v _ => (Bool.true_and _).symm
    rw [g2, g, ← ht]
    refine sN_ifle fun i _ hi => ?_
    have g3 : V.countP (fun v => true && decide (c v = i)) = szC V c i := cn_eq fun v _ => Bool.true_and _
    rw [g3]
    exact hs i hi
  obtain ⟨z, hz, h2z⟩ := sN_pig (l := V.filter (fun v => a' (c v))) (f := fun z => I.countP (fun y => adj y z && decide (nbC V adj c y (c z) = 1))) (by omega)
  obtain ⟨y, hy, y', hy', hyy, p1, p2⟩ := cn_two i1 h2z
  rw [Bool.and_eq_true, decide_eq_true_iff] at p1 p2
  have hz' := List.mem_filter.mp hz
  exact ⟨z, hz'.1, y, (iV y hy).1, y', (iV y' hy').1, hz'.2, (iV y hy).2, (iV y' hy').2, hyy, i3 y hy y' hy' hyy, p1.1, p2.1, p1.2, p2.2⟩
end
