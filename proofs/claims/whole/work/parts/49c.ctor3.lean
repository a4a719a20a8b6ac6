/-! what the constructors make -/
section
def okd (r : Option dR) : Bool := match r with
  | some (none, _) => true
  | _ => false
def gtd (r : Option dR) : dH := match r with
  | some r => r.2
  | none => ([], [], [])
theorem okd_eq : ∀ r : Option dR, okd r = true → r = some (none, gtd r)
  | none, h => by cases h
  | some (some _, _), h => by cases h
  | some (none, _), _ => rfl
def rN : Option dR := evd 8 m_N_init [vR 11 0] ([(11, 0)], [], [])
theorem rN_ok : rN = some (none, gtd rN) := okd_eq rN (by decide +kernel)
def rM : Option dR := evd 8 m_M_init [vR 12 0] ((gtd rN).1 ++ [(12, 0)], (gtd rN).2)
theorem rM_ok : rM = some (none, gtd rM) := okd_eq rM (by decide +kernel)
theorem dM_al : (gtd rM).1 = al0 := by decide +kernel
theorem dN_12 : (gtd rN).1.elem (12, ab_cnt (gtd rN).1 12) = false ∧ ab_cnt (gtd rN).1 12 = 0 ∧ frq 12 0 (gtd rN).2.1 = true ∧ frq 12 0 (gtd rN).2.2 = true := by decide +kernel
def lRd : List ((Nat × Nat × Nat) × (Nat × Nat)) := [((12, 0, 39), (42, 0)), ((12, 0, 38), (41, 0)), ((12, 0, 37), (40, 0)), ((12, 0, 35), (39, 0)), ((12, 0, 34), (38, 0)), ((12, 0, 32), (37, 0)), ((12, 0, 31), (36, 0)), ((12, 0, 30), (35, 0)), ((12, 0, 29), (34, 0)), ((12, 0, 28), (33, 0)), ((12, 0, 26), (32, 0)), ((12, 0, 23), (31, 0)), ((12, 0, 22), (30, 0)), ((12, 0, 20), (29, 0)), ((12, 0, 19), (28, 0)), ((12, 0, 16), (27, 0)), ((12, 0, 15), (26, 0)), ((12, 0, 4), (25, 0)), ((12, 0, 3), (24, 0)), ((12, 0, 2), (23, 0)), ((12, 0, 1), (22, 0)), ((21, 0, 3), (8, 3)), ((8, 3, 0), (62, 3)), ((21, 0, 2), (8, 2)), ((8, 2, 0), (62, 2)), ((21, 0, 1), (8, 1)), ((8, 1, 0), (62, 1)), ((21, 0, 0), (8, 0)), ((8, 0, 0), (62, 0)), ((20, 0, 1), (10, 2)), ((10, 2, 2), (6, 2)), ((6, 2, 5), (60, 2)), ((6, 2, 4), (59, 2)), ((6, 2, 3), (58, 2)), ((6, 2, 2), (57, 2)), ((6, 2, 1), (56, 2)), ((10, 2, 1), (2, 3)), ((46, 3, 5), (3, 29)), ((3, 29, 6), (47, 29)), ((46, 3, 4), (3, 28)), ((3, 28, 6), (47, 28)), ((46, 3, 3), (3, 27)), ((3, 27, 6), (47, 27)), ((46, 3, 2), (3, 26)), ((3, 26, 6), (47, 26)), ((46, 3, 1), (3, 25)), ((3, 25, 6), (47, 25)), ((46, 3, 0), (3, 24)), ((3, 24, 6), (47, 24)), ((2, 3, 0), (46, 3)), ((10, 2, 0), (5, 3)), ((5, 3, 8), (55, 3)), ((5, 3, 7), (54, 3)), ((5, 3, 6), (53, 3)), ((5, 3, 5), (52, 3)), ((5, 3, 4), (51, 3)), ((20, 0, 0), (10, 1)), ((10, 1, 2), (6, 1)), ((6, 1, 5), (60, 1)), ((6, 1, 4), (59, 1)), ((6, 1, 3), (58, 1)), ((6, 1, 2), (57, 1)), ((6, 1, 1), (56, 1)), ((10, 1, 1), (2, 2)), ((46, 2, 5), (3, 23)), ((3, 23, 6), (47, 23)), ((46, 2, 4), (3, 22)), ((3, 22, 6), (47, 22)), ((46, 2, 3), (3, 21)), ((3, 21, 6), (47, 21)), ((46, 2, 2), (3, 20)), ((3, 20, 6), (47, 20)), ((46, 2, 1), (3, 19)), ((3, 19, 6), (47, 19)), ((46, 2, 0), (3, 18)), ((3, 18, 6), (47, 18)), ((2, 2, 0), (46, 2)), ((10, 1, 0), (5, 2)), ((5, 2, 8), (55, 2)), ((5, 2, 7), (54, 2)), ((5, 2, 6), (53, 2)), ((5, 2, 5), (52, 2)), ((5, 2, 4), (51, 2)), ((11, 0, 11), (0, 0)), ((0, 0, 4), (44, 0)), ((0, 0, 3), (43, 0)), ((0, 0, 2), (3, 17)), ((3, 17, 6), (47, 17)), ((0, 0, 1), (3, 16)), ((3, 16, 6), (47, 16)), ((0, 0, 0), (3, 15)), ((3, 15, 6), (47, 15)), ((11, 0, 10), (1, 0)), ((1, 0, 0), (45, 0)), ((11, 0, 9), (9, 0)), ((9, 0, 2), (65, 0)), ((9, 0, 1), (64, 0)), ((9, 0, 0), (63, 0)), ((11, 0, 8), (4, 0)), ((4, 0, 7), (50, 0)), ((4, 0, 6), (49, 0)), ((4, 0, 5), (3, 14)), ((3, 14, 6), (47, 14)), ((4, 0, 4), (3, 13)), ((3, 13, 6), (47, 13)), ((4, 0, 3), (3, 12)), ((3, 12, 6), (47, 12)), ((4, 0, 0), (48, 0)), ((11, 0, 7), (2, 1)), ((46, 1, 5), (3, 11)), ((3, 11, 6), (47, 11)), ((46, 1, 4), (3, 10)), ((3, 10, 6), (47, 10)), ((46, 1, 3), (3, 9)), ((3, 9, 6), (47, 9)), ((46, 1, 2), (3, 8)), ((3, 8, 6), (47, 8)), ((46, 1, 1), (3, 7)), ((3, 7, 6), (47, 7)), ((46, 1, 0), (3, 6)), ((3, 6, 6), (47, 6)), ((2, 1, 0), (46, 1)), ((11, 0, 6), (21, 0)), ((11, 0, 5), (20, 0)), ((11, 0, 4), (6, 0)), ((11, 0, 3), (2, 0)), ((11, 0, 2), (5, 1)), ((11, 0, 1), (10, 0)), ((10, 0, 2), (6, 0)), ((6, 0, 5), (60, 0)), ((6, 0, 4), (59, 0)), ((6, 0, 3), (58, 0)), ((6, 0, 2), (57, 0)), ((6, 0, 1), (56, 0)), ((10, 0, 1), (2, 0)), ((46, 0, 5), (3, 5)), ((3, 5, 6), (47, 5)), ((46, 0, 4), (3, 4)), ((3, 4, 6), (47, 4)), ((46, 0, 3), (3, 3)), ((3, 3, 6), (47, 3)), ((46, 0, 2), (3, 2)), ((3, 2, 6), (47, 2)), ((46, 0, 1), (3, 1)), ((3, 1, 6), (47, 1)), ((46, 0, 0), (3, 0)), ((3, 0, 6), (47, 0)), ((2, 0, 0), (46, 0)), ((10, 0, 0), (5, 1)), ((5, 1, 8), (55, 1)), ((5, 1, 7), (54, 1)), ((5, 1, 6), (53, 1)), ((5, 1, 5), (52, 1)), ((5, 1, 4), (51, 1)), ((11, 0, 0), (7, 0)), ((7, 0, 4), (61, 0)), ((7, 0, 0), (5, 0)), ((5, 0, 8), (55, 0)), ((5, 0, 7), (54, 0)), ((5, 0, 6), (53, 0)), ((5, 0, 5), (52, 0)), ((5, 0, 4), (51, 0))]
def lDd : List ((Nat × Nat × Nat) × Int) := [((22, 0, 1), 9), ((40, 0, 3), -1), ((40, 0, 2), -1), ((40, 0, 1), -1), ((40, 0, 0), -1), ((12, 0, 14), -1), ((3, 29, 0), 1), ((3, 28, 0), 1), ((3, 27, 0), 1), ((3, 26, 0), 1), ((3, 25, 0), 1), ((3, 24, 0), 1), ((5, 3, 1), 9), ((3, 23, 0), 1), ((3, 22, 0), 1), ((3, 21, 0), 1), ((3, 20, 0), 1), ((3, 19, 0), 1), ((3, 18, 0), 1), ((5, 2, 1), 9), ((3, 17, 0), 1), ((3, 16, 0), 1), ((3, 15, 0), 1), ((3, 14, 0), 1), ((3, 13, 0), 1), ((3, 12, 0), 1), ((3, 11, 0), 1), ((3, 10, 0), 1), ((3, 9, 0), 1), ((3, 8, 0), 1), ((3, 7, 0), 1), ((3, 6, 0), 1), ((3, 5, 0), 1), ((3, 4, 0), 1), ((3, 3, 0), 1), ((3, 2, 0), 1), ((3, 1, 0), 1), ((3, 0, 0), 1), ((5, 1, 1), 9), ((7, 0, 2), -1), ((5, 0, 1), 9)]
theorem dM_R0 : (gtd rM).2.1 = lRd := by decide +kernel
theorem dM_D0 : (gtd rM).2.2 = lDd := by decide +kernel
/-- places: alike where something was made -/
theorem dM_R1 : (lRd.all fun z => decide (R0 z.1.1 z.1.2.1 z.1.2.2 = some z.2)) = true := by decide +kernel
theorem dM_R2 : (al0.all fun q => (List.range 40).all fun k => (R0 q.1 q.2 k).isNone || lRd.any fun z => Nat.beq z.1.1 q.1 && (Nat.beq z.1.2.1 q.2 && Nat.beq z.1.2.2 k)) = true := by decide +kernel
def nzK : List (Nat × Nat × Nat) := (List.range 30).map (fun i => (3, i, 0)) ++ ((List.range 4).map (fun i => (5, i, 1)) ++ ([(7, 0, 2), (12, 0, 14), (22, 0, 1)] ++ (List.range 4).map (fun k => (40, 0, k))))
theorem dM_D1 : (lDd.all fun z => decide (z.2 = D00 z.1.1 z.1.2.1 z.1.2.2)) = true := by decide +kernel
theorem dM_D2 : (nzK.all fun q => lDd.any fun z => decide (z.1 = q)) = true := by decide +kernel
theorem D00_nz {t i k : Nat} (h : D00 t i k ≠ 0) : (t, i, k) ∈ nzK := by
  unfold nzK
  rw [List.mem_append, List.mem_append, List.mem_append, List.mem_map, List.mem_map, List.mem_map]
  unfold D00 at h
  by_cases c1 : t = 3 ∧ k = 0 ∧ i < 30
  · obtain ⟨rfl, rfl, c⟩ := c1
    exact Or.inl ⟨i, List.mem_range.mpr c, rfl⟩
  rw [if_neg c1] at h
  by_cases c2 : t = 5 ∧ k = 1 ∧ i < 4
  · obtain ⟨rfl, rfl, c⟩ := c2
    exact Or.inr (Or.inl ⟨i, List.mem_range.mpr c, rfl⟩)
  rw [if_neg c2] at h
  by_cases c3 : t = 7 ∧ i = 0 ∧ k = 2
  · obtain ⟨rfl, rfl, rfl⟩ := c3
    exact Or.inr (Or.inr (Or.inl (by decide)))
  rw [if_neg c3] at h
  by_cases c4 : t = 12 ∧ i = 0 ∧ k = 14
  · obtain ⟨rfl, rfl, rfl⟩ := c4
    exact Or.inr (Or.inr (Or.inl (by decide)))
  rw [if_neg c4] at h
  by_cases c5 : t = 22 ∧ i = 0 ∧ k = 1
  · obtain ⟨rfl, rfl, rfl⟩ := c5
    exact Or.inr (Or.inr (Or.inl (by decide)))
  rw [if_neg c5] at h
  by_cases c6 : t = 40 ∧ i = 0 ∧ k < 4
  · obtain ⟨rfl, rfl, c⟩ := c6
    exact Or.inr (Or.inr (Or.inr ⟨k, List.mem_range.mpr c, rfl⟩))
  rw [if_neg c6] at h
  exact absurd rfl h
theorem zD_of {f : Nat → Nat → Nat → Int} : ∀ (l : List ((Nat × Nat × Nat) × Int)), (∀ z ∈ l, z.2 = f z.1.1 z.1.2.1 z.1.2.2) → ∀ t i k, ((∃ z ∈ l, z.1 = (t, i, k)) → zD l t i k = f t i k) ∧ ((¬ ∃ z ∈ l, z.1 = (t, i, k)) → zD l t i k = 0)
  | [], _, t, i, k => ⟨(fun ⟨z, hz, _⟩ => by cases hz), fun _ => rfl⟩
  | z :: l, h, t, i, k => by
    obtain ⟨g1, g2⟩ := zD_of l (fun w hw => h w (List.mem_cons_of_mem _ hw)) t i k
    show ((∃ w ∈ z :: l, w.1 = (t, i, k)) → u3 (zD l) z.1.1 z.1.2.1 z.1.2.2 z.2 t i k = f t i k) ∧ ((¬ ∃ w ∈ z :: l, w.1 = (t, i, k)) → u3 (zD l) z.1.1 z.1.2.1 z.1.2.2 z.2 t i k = 0)
    unfold u3
    by_cases c : t = z.1.1 ∧ i = z.1.2.1 ∧ k = z.1.2.2
    · rw [if_pos c]
      refine ⟨fun _ => ?_, fun hno => absurd ⟨z, List.mem_cons_self, ?_⟩ hno⟩
      · rw [c.1, c.2.1, c.2.2]; exact h z List.mem_cons_self
      · rw [c.1, c.2.1, c.2.2]
    · rw [if_neg c]
      refine ⟨fun ⟨w, hw, e⟩ => g1 ?_, fun hno => g2 fun ⟨w, hw, e⟩ => hno ⟨w, List.mem_cons_of_mem _ hw, e⟩⟩
      rcases List.mem_cons.mp hw with z1 | z1
      · subst z1
        exact absurd (by rw [e]; exact ⟨rfl, rfl, rfl⟩) c
      · exact ⟨w, z1, e⟩
theorem zR_of {f : Nat → Nat → Nat → Option (Nat × Nat)} : ∀ (l : List ((Nat × Nat × Nat) × (Nat × Nat))), (∀ z ∈ l, f z.1.1 z.1.2.1 z.1.2.2 = some z.2) → ∀ t i k, ((∃ z ∈ l, z.1 = (t, i, k)) → zR l t i k = f t i k) ∧ ((¬ ∃ z ∈ l, z.1 = (t, i, k)) → zR l t i k = none)
  | [], _, t, i, k => ⟨(fun ⟨z, hz, _⟩ => by cases hz), fun _ => rfl⟩
  | z :: l, h, t, i, k => by
    obtain ⟨g1, g2⟩ := zR_of l (fun w hw => h w (List.mem_cons_of_mem _ hw)) t i k
    show ((∃ w ∈ z :: l, w.1 = (t, i, k)) → u3 (zR l) z.1.1 z.1.2.1 z.1.2.2 (some z.2) t i k = f t i k) ∧ ((¬ ∃ w ∈ z :: l, w.1 = (t, i, k)) → u3 (zR l) z.1.1 z.1.2.1 z.1.2.2 (some z.2) t i k = none)
    unfold u3
    by_cases c : t = z.1.1 ∧ i = z.1.2.1 ∧ k = z.1.2.2
    · rw [if_pos c]
      refine ⟨fun _ => ?_, fun hno => absurd ⟨z, List.mem_cons_self, ?_⟩ hno⟩
      · rw [c.1, c.2.1, c.2.2]; exact (h z List.mem_cons_self).symm
      · rw [c.1, c.2.1, c.2.2]
    · rw [if_neg c]
      refine ⟨fun ⟨w, hw, e⟩ => g1 ?_, fun hno => g2 fun ⟨w, hw, e⟩ => hno ⟨w, List.mem_cons_of_mem _ hw, e⟩⟩
      rcases List.mem_cons.mp hw with z1 | z1
      · subst z1
        exact absurd (by rw [e]; exact ⟨rfl, rfl, rfl⟩) c
      · exact ⟨w, z1, e⟩
/-- places: alike where something was made -/
theorem dM_R {q : Nat × Nat} (hq : q ∈ al0) {k : Nat} (hk : k < 40) : zR (gtd rM).2.1 q.1 q.2 k = R0 q.1 q.2 k := by
  rw [dM_R0]
  obtain ⟨g1, g2⟩ := zR_of lRd (fun z hz => of_decide_eq_true (List.all_eq_true.mp dM_R1 z hz)) q.1 q.2 k
  by_cases c : ∃ z ∈ lRd, z.1 = (q.1, q.2, k)
  · exact g1 c
  · rw [g2 c]
    have h9 := List.all_eq_true.mp (List.all_eq_true.mp dM_R2 q hq) k (List.mem_range.mpr hk)
    rw [Bool.or_eq_true] at h9
    rcases h9 with z | z
    · cases hr : R0 q.1 q.2 k with
      | none => rfl
      | some w => rw [hr] at z; cases z
    · obtain ⟨w, w1, w2⟩ := List.any_eq_true.mp z
      rw [Bool.and_eq_true, Bool.and_eq_true] at w2
      refine absurd ⟨w, w1, ?_⟩ c
      have e1 := Nat.eq_of_beq_eq_true w2.1
      have e2 := Nat.eq_of_beq_eq_true w2.2.1
      have e3 := Nat.eq_of_beq_eq_true w2.2.2
      rw [← e1, ← e2, ← e3]
theorem dM_D : zD (gtd rM).2.2 = D00 := by
  rw [dM_D0]
  funext t i k
  obtain ⟨g1, g2⟩ := zD_of lDd (fun z hz => of_decide_eq_true (List.all_eq_true.mp dM_D1 z hz)) t i k
  by_cases c : ∃ z ∈ lDd, z.1 = (t, i, k)
  · exact g1 c
  · rw [g2 c]
    apply Classical.byContradiction
    intro h
    have h9 := List.all_eq_true.mp dM_D2 (t, i, k) (D00_nz fun z => h z.symm)
    obtain ⟨z, z1, z2⟩ := List.any_eq_true.mp h9
    exact c ⟨z, z1, of_decide_eq_true z2⟩
end
