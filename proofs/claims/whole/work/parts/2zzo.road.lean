/-! road: a row with a thing that he has no more does as one without it -/
section
def syV (L : Nat → Nat) (v : Cr) (r : List Nat) : Cr := r.foldl (fun v t => if t ∈ cL v then sayV L v t else v) v
theorem syV_s (L : Nat → Nat) (v : Cr) (r : List Nat) (t : Nat) : syV L v (r ++ [t]) = if t ∈ cL (syV L v r) then sayV L (syV L v r) t else syV L v r := by
  unfold syV
  rw [List.foldl_append, List.foldl_cons, List.foldl_nil]
def okS (L : Nat → Nat) (v : Cr) (ts : List Nat) (t : Nat) : Bool := decide (t ∈ cL (syV L v ts))
theorem prL_self {ok : List Nat → Nat → Bool} {n f left : Nat} {ts : List Nat} : ts ∈ prL ok n f left ts := by
  cases f with
  | zero => rw [prL]; exact List.mem_singleton.mpr rfl
  | succ f => rw [prL]; exact List.mem_cons_self
theorem prL_sub {ok : List Nat → Nat → Bool} {n : Nat} : ∀ (f left : Nat) (ts r : List Nat), r ∈ prL ok n f left ts → r ∈ prL (fun _ _ => true) n f left ts := by
  intro f
  induction f with
  | zero => exact fun left ts r h => h
  | succ f ih =>
    intro left ts r h
    rw [prL] at h ⊢
    rcases List.mem_cons.mp h with h | h
    · rw [h]; exact List.mem_cons_self
    · obtain ⟨t, h1, h2⟩ := List.mem_flatMap.mp h
      refine List.mem_cons_of_mem _ (List.mem_flatMap.mpr ⟨t, h1, ?_⟩)
      by_cases c : (left.testBit t && ok ts t) = true
      · rw [if_pos c] at h2
        rw [if_pos (by rw [(Bool.and_eq_true_iff.mp c).1]; rfl)]
        exact ih _ _ _ h2
      · rw [if_neg c] at h2
        cases h2
theorem prL_red {L : Nat → Nat} {v : Cr} {n : Nat} : ∀ (f left : Nat) (ts r : List Nat), r ∈ prL (fun _ _ => true) n f left ts → ∀ (f' left' : Nat) (ts' : List Nat), f ≤ f' → (∀ t, left.testBit t = true → left'.testBit t = true) → syV L v ts' = syV L v ts → (ts' = ts ∨ ts'.length < ts.length) → ∃ s ∈ prL (okS L v) n f' left' ts', syV L v s = syV L v r ∧ (s = r ∨ s.length < r.length) := by
  intro f
  induction f with
  | zero =>
    intro left ts r h f' left' ts' _ _ e q
    rw [prL] at h
    have := List.mem_singleton.mp h
    subst this
    exact ⟨ts', prL_self, e, q⟩
  | succ f ih =>
    intro left ts r h f' left' ts' hf hl e q
    rw [prL] at h
    rcases List.mem_cons.mp h with h | h
    · subst h
      exact ⟨ts', prL_self, e, q⟩
    · obtain ⟨t, h1, h2⟩ := List.mem_flatMap.mp h
      by_cases c : left.testBit t = true
      · rw [if_pos (by rw [c]; rfl)] at h2
        by_cases ht : t ∈ cL (syV L v ts')
        · obtain ⟨g, rfl⟩ : ∃ g, f' = g + 1 := ⟨f' - 1, by omega⟩
          obtain ⟨s, s1, s2, s3⟩ := ih (nd left (2 ^ t)) (ts ++ [t]) r h2 g (nd left' (2 ^ t)) (ts' ++ [t]) (by omega) (fun u hu => by
            rw [nd_bit, Bool.and_eq_true_iff] at hu ⊢
            exact ⟨hl u hu.1, hu.2⟩) (by rw [syV_s, syV_s, e]) (by
            rcases q with q | q
            · exact Or.inl (by rw [q])
            · exact Or.inr (by rw [List.length_append, List.length_append]; omega))
          refine ⟨s, ?_, s2, s3⟩
          rw [prL]
          refine List.mem_cons_of_mem _ (List.mem_flatMap.mpr ⟨t, h1, ?_⟩)
          rw [if_pos (by rw [hl t c, Bool.true_and]; exact decide_eq_true ht)]
          exact s1
        · refine ih (nd left (2 ^ t)) (ts ++ [t]) r h2 f' left' ts' (by omega) (fun u hu => by
            rw [nd_bit, Bool.and_eq_true_iff] at hu
            exact hl u hu.1) (by rw [syV_s, ← e, if_neg ht]) (Or.inr ?_)
          rw [List.length_append, List.length_singleton]
          rcases q with q | q
          · rw [q]; omega
          · omega
      · rw [if_neg (fun z => c (Bool.and_eq_true_iff.mp z).1)] at h2
        cases h2
theorem bs_say {L : Nat → Nat} {v : Cr} {g : Cr → Nat} {n left q : Nat} : bsR (fun r => g (syV L v r)) (prL (okS L v) n q left []) = bsR (fun r => g (syV L v r)) (rfL n left q) := by
  obtain ⟨l, el⟩ := prL_hd (ok := okS L v) (n := n) (f := q) (left := left)
  obtain ⟨m, em⟩ := rfL_hd (n := n) (left := left) (q := q)
  have ho := prL_ord (ok := okS L v) (n := n) q left []
  have hm := rfL_ord n left q
  have up : ∀ r, r ∈ [] :: l → r ∈ [] :: m := fun r hr => by
    rw [← el] at hr
    rw [← em]
    exact rfL_mem.mpr (prL_sub _ _ _ _ hr)
  have dn : ∀ r, r ∈ [] :: m → ∃ s ∈ [] :: l, g (syV L v s) = g (syV L v r) ∧ (s = r ∨ s.length < r.length) := fun r hr => by
    rw [← em] at hr
    obtain ⟨s, s1, s2, s3⟩ := prL_red (L := L) (v := v) q left [] r (rfL_mem.mp hr) q left [] (Nat.le_refl _) (fun _ h => h) rfl (Or.inl rfl)
    rw [el] at s1
    exact ⟨s, s1, by rw [s2], s3⟩
  rw [el] at ho
  rw [em] at hm
  rw [el, em]
  exact bsR_eq ho hm up dn
end
