section
def lw_good : List Cond := lw_tbl.filter goodWord
def st_len : List Nat := ab_txs.map List.length
def st_byt : List (List Int32) := ab_txs.map (fun l => l.map (fun n => Int32.ofNat n))
/-- what lies outside the world: the script, the texts, words that the kit's lists don't carry -/
def ST (sa : Nat → Nat) (A : Nat → Prop) (X : Nat × (Nat → Int)) (U : State) : Prop :=
  (va_X (sa 1000) X.1 (fun j => Int32.ofInt (X.2 j)) U U.heap ∧ sa 1000 < U.heap.size ∧ ¬ A (sa 1000) ∧ (∀ j, in32 (X.2 j)) ∧ X.1 < 2147483648) ∧
  (∀ own i y hst, Cond.methodLinkNest own i y hst ∈ lw_tbl → va_Nw (.methodLinkNest own i y hst) U) ∧
  (∀ C, Cond.arrayOver (.object C) ∈ lw_tbl → va_AO C U) ∧
  (∃ adV, vk_S 7 st_len st_byt sa adV A U U.heap) ∧
  (∀ j, j < 7 → ∃ tx, vk_R (ab_so j).1 (ab_so j).2 tx (sa j) U) ∧
  va_Z "java/lang/String" "COMPACT_STRINGS" "Z" (.int 1) A U U.heap ∧ va_Zq "jdk/internal/util/Preconditions" "SIOOBE_FORMATTER" "Ljava/util/function/BiFunction;" A U U.heap
theorem ST.go {sa : Nat → Nat} {A : Nat → Prop} {X : Nat × (Nat → Int)} {s U : State} {H : Heap} {locs : List Loc} (h : ST sa A X s) (hW : s.WarmedH U.vm) (hS : va_S A s.heap H locs) (hU : U.heap = H) : ST sa A X U := by
  obtain ⟨⟨a1, a2, a3, a4, a5⟩, b, c, ⟨adV, d⟩, e, f⟩ := h
  have hq : ∀ a : Nat, a < s.heap.size → ¬ A a → U.heap[a]? = s.heap[a]? := by rw [hU]; exact hS.2.1
  refine ⟨⟨(a1.kept (hq _ a2 a3)).moved hW.alike, Nat.lt_of_lt_of_le a2 (by rw [hU]; exact hS.1), a3, a4, a5⟩, fun own i y hst hm => (b own i y hst hm).warmM hW, fun C hm => (c C hm).moved hW.alike, ⟨adV, (d.kept hq).moved hW.alike⟩, fun j hj => ?_, (f.1.kept hq).moved hW.alike, (f.2.kept hq).moved hW.alike⟩
  obtain ⟨tx, ht⟩ := e j hj
  exact ⟨tx, ht.warm hW⟩
theorem ST.calling {sa : Nat → Nat} {A : Nat → Prop} {X : Nat × (Nat → Int)} {U : State} {g : JFrame} {mk : MethodId} {a : Array Value} (h : ST sa A X U) : ST sa A X (U.calling g mk a) := by
  obtain ⟨⟨a1, a2, a3, a4, a5⟩, b, c, ⟨adV, d⟩, e, f⟩ := h
  have hv : U.vm.Alike (U.calling g mk a).vm := Vm.Alike.refl U.vm
  refine ⟨⟨a1.moved hv, a2, a3, a4, a5⟩, fun own i y hst hm => (b own i y hst hm).same rfl rfl, fun C hm => (c C hm).moved hv, ⟨adV, d.moved hv⟩, fun j hj => ?_, f.1.moved hv, f.2.moved hv⟩
  obtain ⟨tx, ht⟩ := e j hj
  exact ⟨tx, ht.same rfl⟩
/-- a point of a run: the world, what is outside, the locals, the stack -/
def INV (s : State) (G : va_G) (sa : Nat → Nat) (A : Nat → Prop) (nL : Nat) (ac : List (Nat × ClassId)) (h : ab_H) (L S : List ab_V) (H : Heap) (locs : List Loc) (ls : Array Slot) : Prop :=
  WD G ac h A s H ∧ va_S A s.heap H locs ∧ LH ls nL (cv sa ac h.1) L ∧ (∀ v ∈ L, v = vU ∨ okv h.1 v) ∧ ∀ v ∈ S, okv h.1 v
theorem i1_some {α : Type} {S : List ab_V} {f : Int → List ab_V → Option α} {r : α} (h : ab_i1 S f = some r) : ∃ x S', S = vI x :: S' ∧ f x S' = some r := by
  unfold ab_i1 at h
  split at h
  · exact ⟨_, _, rfl, h⟩
  · cases h
theorem l1_some {α : Type} {S : List ab_V} {f : Int → List ab_V → Option α} {r : α} (h : ab_l1 S f = some r) : ∃ x S', S = vL x :: S' ∧ f x S' = some r := by
  unfold ab_l1 at h
  split at h
  · exact ⟨_, _, rfl, h⟩
  · cases h
theorem r1_some {α : Type} {S : List ab_V} {f : Nat → Nat → List ab_V → Option α} {r : α} (h : ab_r1 S f = some r) : ∃ t i S', S = vR t i :: S' ∧ f t i S' = some r := by
  unfold ab_r1 at h
  split at h
  · rename_i q S'
    exact ⟨q.1, q.2, S', rfl, h⟩
  · cases h
theorem s1_some {α : Type} {S : List ab_V} {f : Nat → List ab_V → Option α} {r : α} (h : ab_s1 S f = some r) : ∃ j S', S = vS j :: S' ∧ f j S' = some r := by
  unfold ab_s1 at h
  split at h
  · exact ⟨_, _, rfl, h⟩
  · cases h
theorem c1_some {α : Type} {S : List ab_V} {f : ab_V → List ab_V → Option α} {r : α} (h : ab_c1 S f = some r) : ∃ v S', S = v :: S' ∧ f v S' = some r ∧ ((∃ x, v = vI x) ∨ ∃ t i, v = vR t i) := by
  unfold ab_c1 at h
  split at h
  · exact ⟨_, _, rfl, h, Or.inl ⟨_, rfl⟩⟩
  · rename_i q S'
    exact ⟨_, _, rfl, h, Or.inr ⟨q.1, q.2, rfl⟩⟩
  · cases h
theorem lo_some {α : Type} {L : List ab_V} {i : Nat} {f : ab_V → Option α} {r : α} (h : ab_lo L i f = some r) : ∃ v, L[i]? = some v ∧ f v = some r := by
  unfold ab_lo at h
  split at h
  · rename_i v hv
    exact ⟨v, hv, h⟩
  · cases h
theorem ite_some {α : Type} {c : Prop} [Decidable c] {a : Option α} {r : α} (h : (if c then a else none) = some r) : c ∧ a = some r := by
  split at h
  · rename_i hc
    exact ⟨hc, h⟩
  · cases h
theorem eti_some {α : Type} {c : Prop} [Decidable c] {a : Option α} {r : α} (h : (if c then none else a) = some r) : ¬ c ∧ a = some r := by
  split at h
  · cases h
  · rename_i hc
    exact ⟨hc, h⟩
theorem beq_some {α : Type} {b : Bool} {a : Option α} {r : α} (h : (match b with | true => a | false => none) = some r) : b = true ∧ a = some r := by
  cases b
  · cases h
  · exact ⟨rfl, h⟩
theorem cv_cat {sa : Nat → Nat} {ac : List (Nat × ClassId)} {al : List (Nat × Nat)} {v : ab_V} (h : (∃ x, v = vI x) ∨ ∃ t i, v = vR t i) : (cv sa ac al v).category = 1 := by
  rcases h with ⟨x, rfl⟩ | ⟨t, i, rfl⟩ <;> rfl
/-- a store of category 1 -/
theorem LH.st {ls : Array Slot} {nL : Nat} {f : ab_V → Value} {L : List ab_V} (h : LH ls nL f L) {i : Nat} {v : ab_V} (hi : i < nL) (hf : ∀ w, (f w).category = 2 → ∃ x, w = vL x) {ls' : Array Slot} (hs : lv_has ls' nL ((i, f v) :: (lvo f L).filter (fun q => !(q.1 == i) && !(q.1 + 1 == i && q.2.category == 2)))) : LH ls' nL f (ab_st L i v) := by
  have hL := h.1
  have key : ∀ (M : List ab_V), M.length = nL → (∀ j w, M[j]? = some w → w ≠ vU → (j = i ∧ w = v) ∨ (j ≠ i ∧ L[j]? = some w ∧ (j + 1 = i → ∀ x, w ≠ vL x))) → LH ls' nL f M := by
    intro M hM hk
    refine LH.of hM hs fun j w e1 e2 => ?_
    rcases hk j w e1 e2 with ⟨rfl, rfl⟩ | ⟨g1, g2, g3⟩
    · exact List.mem_cons_self
    · refine List.mem_cons_of_mem _ (List.mem_filter.mpr ⟨lvo_mem.mpr ⟨w, g2, e2, rfl⟩, ?_⟩)
      have g4 : (j == i) = false := by simpa using g1
      show (!(j == i) && !(j + 1 == i && (f w).category == 2)) = true
      rw [g4]
      by_cases g5 : j + 1 = i
      · have g6 : ¬ (f w).category = 2 := fun e => by
          obtain ⟨x, hx⟩ := hf w e
          exact g3 g5 x hx
        simp [g6]
      · simp [g5]
  unfold ab_st
  split
  · refine key _ (by rw [List.length_set]; exact hL) fun j w e1 e2 => ?_
    by_cases hj : j = 0
    · subst hj
      rw [List.getElem?_set_self (by omega)] at e1
      cases e1
      exact Or.inl ⟨rfl, rfl⟩
    · rw [List.getElem?_set_ne (Ne.symm hj)] at e1
      exact Or.inr ⟨hj, e1, fun e => absurd e (by omega)⟩
  · rename_i k
    split
    · rename_i y hy
      refine key _ (by rw [List.length_set, List.length_set]; exact hL) fun j w e1 e2 => ?_
      by_cases hj : j = k + 1
      · subst hj
        rw [List.getElem?_set_self (by rw [List.length_set]; omega)] at e1
        cases e1
        exact Or.inl ⟨rfl, rfl⟩
      · rw [List.getElem?_set_ne (Ne.symm hj)] at e1
        by_cases hj2 : j = k
        · subst hj2
          rw [List.getElem?_set_self (by omega)] at e1
          cases e1
          exact absurd rfl e2
        · rw [List.getElem?_set_ne (Ne.symm hj2)] at e1
          exact Or.inr ⟨hj, e1, fun e => absurd e (by omega)⟩
    · rename_i hy
      refine key _ (by rw [List.length_set]; exact hL) fun j w e1 e2 => ?_
      by_cases hj : j = k + 1
      · subst hj
        rw [List.getElem?_set_self (by omega)] at e1
        cases e1
        exact Or.inl ⟨rfl, rfl⟩
      · rw [List.getElem?_set_ne (Ne.symm hj)] at e1
        refine Or.inr ⟨hj, e1, fun e x hx => ?_⟩
        have : j = k := by omega
        subst this
        subst hx
        exact hy x e1
end
