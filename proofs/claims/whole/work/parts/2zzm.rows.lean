/-! rows ahead: the best one, whichever order they come in -/
section
def lxl (a b : List Nat) : Prop := ∃ k, k < a.length ∧ k < b.length ∧ (∀ j, j < k → a.getD j 0 = b.getD j 0) ∧ a.getD k 0 < b.getD k 0
theorem lxl_asym {a b : List Nat} (h : lxl a b) (g : lxl b a) : False := by
  obtain ⟨k, _, _, k1, k2⟩ := h
  obtain ⟨m, _, _, m1, m2⟩ := g
  rcases Nat.lt_trichotomy k m with e | e | e
  · have := m1 k e; omega
  · subst e; omega
  · have := k1 m e; omega
def sbR (val : List Nat → Nat) (b r : List Nat) : List Nat := if val b < val r ∨ (val b = val r ∧ r.length < b.length) then r else b
def leR (val : List Nat → Nat) (b r : List Nat) : Prop := val r < val b ∨ (val b = val r ∧ (b.length < r.length ∨ (b.length = r.length ∧ (b = r ∨ lxl b r))))
theorem leR_rf (val : List Nat → Nat) (b : List Nat) : leR val b b := Or.inr ⟨rfl, Or.inr ⟨rfl, Or.inl rfl⟩⟩
theorem leR_asym {val : List Nat → Nat} {a b : List Nat} (h : leR val a b) (g : leR val b a) : a = b := by
  rcases h with h | ⟨h1, h2⟩
  · rcases g with g | ⟨g1, g2⟩
    · omega
    · omega
  · rcases g with g | ⟨g1, g2⟩
    · omega
    · rcases h2 with h2 | ⟨h2, h3⟩
      · rcases g2 with g2 | ⟨g2, _⟩ <;> omega
      · rcases g2 with g2 | ⟨g2, g3⟩
        · omega
        · rcases h3 with h3 | h3
          · exact h3
          · rcases g3 with g3 | g3
            · exact g3.symm
            · exact absurd g3 (fun z => lxl_asym h3 z)
/-- rows of one length come in their order -/
def inO (a b : List Nat) : Prop := a.length = b.length → lxl a b
theorem fold_best {val : List Nat → Nat} : ∀ (l : List (List Nat)) (b : List Nat) (P : List Nat → Prop), P b → (∀ r, P r → leR val b r) → (∀ p, P p → ∀ r ∈ l, inO p r) → l.Pairwise inO → (P (l.foldl (sbR val) b) ∨ l.foldl (sbR val) b ∈ l) ∧ ∀ r, P r ∨ r ∈ l → leR val (l.foldl (sbR val) b) r := by
  intro l
  induction l with
  | nil =>
    intro b P h1 h2 _ _
    refine ⟨Or.inl h1, fun r hr => ?_⟩
    rcases hr with hr | hr
    · exact h2 r hr
    · cases hr
  | cons x l ih =>
    intro b P h1 h2 h3 h4
    obtain ⟨h5, h6⟩ := List.pairwise_cons.mp h4
    rw [List.foldl_cons]
    have hx : (P (sbR val b x) ∨ sbR val b x = x) ∧ ∀ r, (P r ∨ r = x) → leR val (sbR val b x) r := by
      unfold sbR
      split
      · rename_i c
        refine ⟨Or.inr rfl, fun r hr => ?_⟩
        rcases hr with hr | hr
        · have := h2 r hr
          rcases this with g | ⟨g1, g2⟩
          · rcases c with c | c
            · exact Or.inl (by omega)
            · exact Or.inl (by omega)
          · rcases c with c | c
            · exact Or.inl (by omega)
            · refine Or.inr ⟨by omega, Or.inl ?_⟩
              rcases g2 with g2 | g2 <;> omega
        · rw [hr]; exact leR_rf val x
      · rename_i c
        refine ⟨Or.inl h1, fun r hr => ?_⟩
        rcases hr with hr | hr
        · exact h2 r hr
        · subst hr
          by_cases c1 : val r < val b
          · exact Or.inl c1
          · have e : val b = val r := by
              apply Classical.byContradiction
              intro hne
              exact c (Or.inl (by omega))
            refine Or.inr ⟨e, ?_⟩
            by_cases c2 : b.length < r.length
            · exact Or.inl c2
            · have el : b.length = r.length := by
                apply Classical.byContradiction
                intro hne
                exact c (Or.inr ⟨e, by omega⟩)
              exact Or.inr ⟨el, Or.inr (h3 b h1 r List.mem_cons_self el)⟩
    obtain ⟨g1, g2⟩ := ih (sbR val b x) (fun r => P r ∨ r = x) hx.1 hx.2 (fun p hp9 r hr => by
      rcases hp9 with z | z
      · exact h3 p z r (List.mem_cons_of_mem _ hr)
      · rw [z]; exact h5 r hr) h6
    refine ⟨?_, fun r hr => g2 r ?_⟩
    · rcases g1 with (g1 | g1) | g1
      · exact Or.inl g1
      · exact Or.inr (by rw [g1]; exact List.mem_cons_self)
      · exact Or.inr (List.mem_cons_of_mem _ g1)
    · rcases hr with hr | hr
      · exact Or.inl (Or.inl hr)
      · rcases List.mem_cons.mp hr with z | z
        · exact Or.inl (Or.inr z)
        · exact Or.inr z
/-- rows from ts on, the shorter one first: ok says what may follow -/
def prL (ok : List Nat → Nat → Bool) (n : Nat) : Nat → Nat → List Nat → List (List Nat)
  | 0, _, ts => [ts]
  | f + 1, left, ts => ts :: (List.range' 0 n).flatMap (fun t => if (left.testBit t && ok ts t) = true then prL ok n f (nd left (2 ^ t)) (ts ++ [t]) else [])
/-- rows of just m more -/
def lvL (n : Nat) : Nat → Nat → List Nat → List (List Nat)
  | 0, _, ts => [ts]
  | m + 1, left, ts => (List.range' 0 n).flatMap (fun t => if left.testBit t = true then lvL n m (nd left (2 ^ t)) (ts ++ [t]) else [])
theorem prL_ext {ok : List Nat → Nat → Bool} {n : Nat} : ∀ (f left : Nat) (ts r : List Nat), r ∈ prL ok n f left ts → ∃ r', r = ts ++ r' := by
  intro f
  induction f with
  | zero =>
    intro left ts r h
    rw [prL] at h
    exact ⟨[], by rw [List.mem_singleton.mp h, List.append_nil]⟩
  | succ f ih =>
    intro left ts r h
    rw [prL] at h
    rcases List.mem_cons.mp h with h | h
    · exact ⟨[], by rw [h, List.append_nil]⟩
    · obtain ⟨t, _, h2⟩ := List.mem_flatMap.mp h
      split at h2
      · obtain ⟨r', e⟩ := ih _ _ _ h2
        exact ⟨t :: r', by rw [e, List.append_assoc]; rfl⟩
      · cases h2
theorem lxl_kids {ts a b : List Nat} {t u : Nat} (h : t < u) : lxl (ts ++ t :: a) (ts ++ u :: b) := by
  refine ⟨ts.length, by simp, by simp, fun j hj => ?_, ?_⟩
  · rw [getD_app, if_pos hj, getD_app, if_pos hj]
  · rw [getD_app, if_neg (by omega), getD_app, if_neg (by omega), Nat.sub_self]
    exact h
theorem prL_ord {ok : List Nat → Nat → Bool} {n : Nat} : ∀ (f left : Nat) (ts : List Nat), (prL ok n f left ts).Pairwise inO := by
  intro f
  induction f with
  | zero =>
    intro left ts
    rw [prL]
    exact List.pairwise_singleton ..
  | succ f ih =>
    intro left ts
    rw [prL]
    refine List.pairwise_cons.mpr ⟨fun r hr => ?_, ?_⟩
    · obtain ⟨t, _, h2⟩ := List.mem_flatMap.mp hr
      split at h2
      · obtain ⟨r', e⟩ := prL_ext _ _ _ _ h2
        intro el
        rw [e] at el
        simp at el
      · cases h2
    · refine List.pairwise_flatMap.mpr ⟨fun t _ => ?_, ?_⟩
      · split
        · exact ih _ _
        · exact List.Pairwise.nil
      · refine List.Pairwise.imp (fun {t u} htu x hx y hy => ?_) (List.pairwise_lt_range' (s := 0) (n := n))
        split at hx
        · split at hy
          · obtain ⟨a, ea⟩ := prL_ext _ _ _ _ hx
            obtain ⟨b, eb⟩ := prL_ext _ _ _ _ hy
            intro _
            rw [ea, eb, List.append_assoc, List.append_assoc]
            exact lxl_kids htu
          · cases hy
        · cases hx
theorem lvL_ext {n : Nat} : ∀ (m left : Nat) (ts r : List Nat), r ∈ lvL n m left ts → ∃ r', r = ts ++ r' ∧ r'.length = m := by
  intro m
  induction m with
  | zero =>
    intro left ts r h
    rw [lvL] at h
    exact ⟨[], by rw [List.mem_singleton.mp h, List.append_nil], rfl⟩
  | succ m ih =>
    intro left ts r h
    rw [lvL] at h
    obtain ⟨t, _, h2⟩ := List.mem_flatMap.mp h
    split at h2
    · obtain ⟨r', e, el⟩ := ih _ _ _ h2
      exact ⟨t :: r', by rw [e, List.append_assoc]; rfl, by rw [List.length_cons, el]⟩
    · cases h2
theorem lvL_ord {n : Nat} : ∀ (m left : Nat) (ts : List Nat), (lvL n m left ts).Pairwise inO := by
  intro m
  induction m with
  | zero =>
    intro left ts
    rw [lvL]
    exact List.pairwise_singleton ..
  | succ m ih =>
    intro left ts
    rw [lvL]
    refine List.pairwise_flatMap.mpr ⟨fun t _ => ?_, ?_⟩
    · split
      · exact ih _ _
      · exact List.Pairwise.nil
    · refine List.Pairwise.imp (fun {t u} htu x hx y hy => ?_) (List.pairwise_lt_range' (s := 0) (n := n))
      split at hx
      · split at hy
        · obtain ⟨a, ea, _⟩ := lvL_ext _ _ _ _ hx
          obtain ⟨b, eb, _⟩ := lvL_ext _ _ _ _ hy
          intro _
          rw [ea, eb, List.append_assoc, List.append_assoc]
          exact lxl_kids htu
        · cases hy
      · cases hx
end
