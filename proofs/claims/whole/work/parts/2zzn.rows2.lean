/-! rows ahead: the same rows -/
section
theorem pr_lv {n : Nat} : ∀ (f left : Nat) (ts r : List Nat), r ∈ prL (fun _ _ => true) n f left ts ↔ ∃ m, m ≤ f ∧ r ∈ lvL n m left ts := by
  intro f
  induction f with
  | zero =>
    intro left ts r
    rw [prL]
    constructor
    · exact fun h => ⟨0, Nat.le_refl _, h⟩
    · rintro ⟨m, h1, h2⟩
      have : m = 0 := by omega
      subst this
      exact h2
  | succ f ih =>
    intro left ts r
    rw [prL, List.mem_cons]
    constructor
    · rintro (h | h)
      · exact ⟨0, Nat.zero_le _, by rw [lvL, h]; exact List.mem_singleton.mpr rfl⟩
      · obtain ⟨t, h1, h2⟩ := List.mem_flatMap.mp h
        by_cases c : left.testBit t = true
        · rw [if_pos (by rw [c]; rfl)] at h2
          obtain ⟨m, m1, m2⟩ := (ih _ _ _).mp h2
          refine ⟨m + 1, by omega, ?_⟩
          rw [lvL]
          exact List.mem_flatMap.mpr ⟨t, h1, by rw [if_pos c]; exact m2⟩
        · rw [if_neg (fun z => c (Bool.and_eq_true_iff.mp z).1)] at h2
          cases h2
    · rintro ⟨m, m1, m2⟩
      cases m with
      | zero =>
        rw [lvL] at m2
        exact Or.inl (List.mem_singleton.mp m2)
      | succ m =>
        rw [lvL] at m2
        obtain ⟨t, h1, h2⟩ := List.mem_flatMap.mp m2
        by_cases c : left.testBit t = true
        · rw [if_pos c] at h2
          exact Or.inr (List.mem_flatMap.mpr ⟨t, h1, by rw [if_pos (by rw [c]; rfl)]; exact (ih _ _ _).mpr ⟨m, by omega, h2⟩⟩)
        · rw [if_neg c] at h2
          cases h2
/-- all rows of the reference, the short ones first -/
def rfL (n left q : Nat) : List (List Nat) := (List.range' 0 (q + 1)).flatMap (fun m => lvL n m left [])
theorem rfL_ord (n left q : Nat) : (rfL n left q).Pairwise inO := by
  unfold rfL
  refine List.pairwise_flatMap.mpr ⟨fun m _ => lvL_ord _ _ _, ?_⟩
  refine List.Pairwise.imp (fun {t u} htu x hx y hy => ?_) (List.pairwise_lt_range' (s := 0) (n := q + 1))
  obtain ⟨a, ea, la⟩ := lvL_ext _ _ _ _ hx
  obtain ⟨b, eb, lb⟩ := lvL_ext _ _ _ _ hy
  intro el
  rw [ea, eb, List.nil_append, List.nil_append, la, lb] at el
  omega
theorem rfL_mem {n left q : Nat} {r : List Nat} : r ∈ rfL n left q ↔ r ∈ prL (fun _ _ => true) n q left [] := by
  unfold rfL
  rw [List.mem_flatMap, pr_lv]
  constructor
  · rintro ⟨m, h1, h2⟩
    have := List.mem_range'_1.mp h1
    exact ⟨m, by omega, h2⟩
  · rintro ⟨m, h1, h2⟩
    exact ⟨m, List.mem_range'_1.mpr (by omega), h2⟩
/-- the best of a list that begins with the empty row -/
def bsR (val : List Nat → Nat) (l : List (List Nat)) : List Nat := l.foldl (sbR val) []
theorem sbR_0 (val : List Nat → Nat) (b : List Nat) : sbR val b b = b := by
  unfold sbR
  split <;> rfl
theorem bsR_ok {val : List Nat → Nat} {l : List (List Nat)} (ho : ([] :: l).Pairwise inO) : bsR val ([] :: l) ∈ [] :: l ∧ ∀ r ∈ [] :: l, leR val (bsR val ([] :: l)) r := by
  obtain ⟨o1, o2⟩ := List.pairwise_cons.mp ho
  obtain ⟨h1, h2⟩ := fold_best (val := val) l [] (fun r => r = []) rfl (fun r hr => by rw [hr]; exact leR_rf val []) (fun p hp9 r hr => by rw [hp9]; exact o1 r hr) o2
  have e : bsR val ([] :: l) = l.foldl (sbR val) [] := by
    unfold bsR
    rw [List.foldl_cons, sbR_0]
  rw [e]
  refine ⟨?_, fun r hr => h2 r (List.mem_cons.mp hr)⟩
  rcases h1 with h1 | h1
  · rw [h1]; exact List.mem_cons_self
  · exact List.mem_cons_of_mem _ h1
/-- two lists, each of whose rows is in the other one or is beaten there by a shorter row as good -/
theorem bsR_eq {val : List Nat → Nat} {l m : List (List Nat)} (hl : ([] :: l).Pairwise inO) (hm : ([] :: m).Pairwise inO) (h1 : ∀ r ∈ [] :: l, r ∈ [] :: m) (h2 : ∀ r ∈ [] :: m, ∃ s ∈ [] :: l, val s = val r ∧ (s = r ∨ s.length < r.length)) : bsR val ([] :: l) = bsR val ([] :: m) := by
  obtain ⟨a1, a2⟩ := bsR_ok (val := val) hl
  obtain ⟨b1, b2⟩ := bsR_ok (val := val) hm
  have g : ∀ r ∈ [] :: m, leR val (bsR val ([] :: l)) r := by
    intro r hr
    obtain ⟨s, s1, s2, s3⟩ := h2 r hr
    have := a2 s s1
    rcases s3 with s3 | s3
    · rw [← s3]; exact this
    · rcases this with w | ⟨w1, w2⟩
      · exact Or.inl (by omega)
      · refine Or.inr ⟨by omega, Or.inl ?_⟩
        rcases w2 with w2 | w2 <;> omega
  exact leR_asym (g _ b1) (b2 _ (h1 _ a1))
theorem prL_hd {ok : List Nat → Nat → Bool} {n f left : Nat} : ∃ l, prL ok n f left [] = [] :: l := by
  cases f with
  | zero => exact ⟨[], rfl⟩
  | succ f => exact ⟨_, by rw [prL]⟩
theorem rfL_hd {n left q : Nat} : ∃ l, rfL n left q = [] :: l := by
  unfold rfL
  rw [List.range'_succ, List.flatMap_cons]
  exact ⟨_, rfl⟩
/-- questions: the rows are the same -/
theorem bs_ask {val : List Nat → Nat} {n left q : Nat} : bsR val (prL (fun _ _ => true) n q left []) = bsR val (rfL n left q) := by
  obtain ⟨l, el⟩ := prL_hd (ok := fun _ _ => true) (n := n) (f := q) (left := left)
  obtain ⟨m, em⟩ := rfL_hd (n := n) (left := left) (q := q)
  have ho := prL_ord (ok := fun _ _ => true) (n := n) q left []
  have hm := rfL_ord n left q
  have mem : ∀ r, r ∈ [] :: m ↔ r ∈ [] :: l := fun r => by rw [← em, ← el]; exact rfL_mem
  rw [el] at ho
  rw [em] at hm
  rw [el, em]
  exact bsR_eq ho hm (fun r hr => (mem r).mpr hr) (fun r hr => ⟨r, (mem r).mp hr, rfl, Or.inl rfl⟩)
end
