/-! joined: what is laid, pure -/
section
/-- the first n of b stand in a from i on -/
def sam (a : List Nat) (i : Nat) (b : List Nat) (n : Nat) : Bool := (List.range n).all (fun k => decide (a.getD (i + k) 0 = b.getD k 0))
theorem sam_iff {a b : List Nat} {i n : Nat} : sam a i b n = true ↔ ∀ k, k < n → a.getD (i + k) 0 = b.getD k 0 := by
  unfold sam
  rw [List.all_eq_true]
  constructor
  · exact fun h k hk => of_decide_eq_true (h k (List.mem_range.mpr hk))
  · exact fun h k hk => decide_eq_true (h k (List.mem_range.mp hk))
theorem sam_f {a b : List Nat} {i n k : Nat} (hk : k < n) (h : a.getD (i + k) 0 ≠ b.getD k 0) : sam a i b n = false := by
  cases q : sam a i b n with
  | false => rfl
  | true => exact absurd (sam_iff.mp q k hk) h
/-- how much is shared: at most m -/
def shU (a b : List Nat) : Nat → Nat
  | 0 => 0
  | s + 1 => if sam a (a.length - (s + 1)) b (s + 1) = true then s + 1 else shU a b s
theorem shU_le (a b : List Nat) (m : Nat) : shU a b m ≤ m := by
  induction m with
  | zero => exact Nat.le_refl _
  | succ m ih =>
    rw [shU]
    split
    · exact Nat.le_refl _
    · omega
theorem shU_cut {a b : List Nat} {c : Nat} (m : Nat) (h : ∀ s, c < s → s ≤ m → sam a (a.length - s) b s = false) : shU a b m = shU a b (min m c) := by
  induction m with
  | zero => rw [Nat.zero_min]
  | succ m ih =>
    by_cases e : m + 1 ≤ c
    · rw [Nat.min_eq_left e]
    · rw [shU, h (m + 1) (by omega) (Nat.le_refl _), if_neg (by decide), ih fun s h1 h2 => h s h1 (by omega), Nat.min_eq_right (by omega : c ≤ m), Nat.min_eq_right (by omega : c ≤ m + 1)]
theorem shU_cg {a a' b : List Nat} (m : Nat) (h : ∀ s, s ≤ m → sam a (a.length - s) b s = sam a' (a'.length - s) b s) : shU a b m = shU a' b m := by
  induction m with
  | zero => rfl
  | succ m ih => rw [shU, shU, h (m + 1) (Nat.le_refl _), ih fun s hs => h s (by omega)]
def shr (a b : List Nat) : Nat := shU a b (min b.length a.length)
theorem shr_le (a b : List Nat) : shr a b ≤ b.length ∧ shr a b ≤ a.length := by
  have := shU_le a b (min b.length a.length)
  unfold shr
  omega
def lay (row b : List Nat) : List Nat := row ++ b.drop (shr row b)
theorem lay_len (row b : List Nat) : (lay row b).length = row.length + (b.length - shr row b) := by unfold lay; rw [List.length_append, List.length_drop]
theorem shU_ok {a b : List Nat} (m : Nat) : sam a (a.length - shU a b m) b (shU a b m) = true := by
  induction m with
  | zero => exact sam_iff.mpr fun k hk => by rw [shU] at hk; omega
  | succ m ih =>
    rw [shU]
    split
    · rename_i h; exact h
    · exact ih
theorem getD_app {l r : List Nat} {k : Nat} : (l ++ r).getD k 0 = if k < l.length then l.getD k 0 else r.getD (k - l.length) 0 := by
  rw [List.getD_eq_getElem?_getD]
  by_cases h : k < l.length
  · rw [if_pos h, List.getElem?_append_left h, List.getD_eq_getElem?_getD]
  · rw [if_neg h, List.getElem?_append_right (by omega), List.getD_eq_getElem?_getD]
theorem getD_drop {l : List Nat} {k i : Nat} : (l.drop i).getD k 0 = l.getD (i + k) 0 := by
  rw [List.getD_eq_getElem?_getD, List.getElem?_drop, List.getD_eq_getElem?_getD]
/-- the laid row ends with the piece -/
theorem lay_end {row b : List Nat} {k : Nat} (hk : k < b.length) : b.length ≤ (lay row b).length ∧ (lay row b).getD ((lay row b).length - b.length + k) 0 = b.getD k 0 := by
  obtain ⟨h1, h2⟩ := shr_le row b
  have hl := lay_len row b
  refine ⟨by omega, ?_⟩
  have e : (lay row b).length - b.length = row.length - shr row b := by omega
  rw [e]
  unfold lay
  rw [getD_app]
  by_cases h : k < shr row b
  · rw [if_pos (by omega)]
    have := sam_iff.mp (shU_ok (a := row) (b := b) (min b.length row.length)) k h
    exact this
  · rw [if_neg (by omega), getD_drop]
    congr 1
    omega
/-- one in another -/
def inB (a b : List Nat) : Bool := (List.range (b.length + 1)).any (fun i => decide (i + a.length ≤ b.length) && sam b i a a.length)
theorem inB_iff {a b : List Nat} : inB a b = true ↔ ∃ i, i + a.length ≤ b.length ∧ sam b i a a.length = true := by
  unfold inB
  rw [List.any_eq_true]
  constructor
  · rintro ⟨i, _, h⟩
    rw [Bool.and_eq_true_iff] at h
    exact ⟨i, of_decide_eq_true h.1, h.2⟩
  · rintro ⟨i, h1, h2⟩
    exact ⟨i, List.mem_range.mpr (by omega), by rw [Bool.and_eq_true_iff]; exact ⟨decide_eq_true h1, h2⟩⟩
def smB (P : Nat → List Nat) (p q : Nat) : Bool := decide ((P p).length < (P q).length) || (decide ((P p).length = (P q).length) && decide (q < p))
def wiB (P : Nat → List Nat) (n p : Nat) : Bool := (List.range n).any (fun q => smB P p q && inB (P p) (P q))
theorem wiB_iff {P : Nat → List Nat} {n p : Nat} : wiB P n p = true ↔ ∃ q, q < n ∧ smB P p q = true ∧ inB (P p) (P q) = true := by
  unfold wiB
  rw [List.any_eq_true]
  constructor
  · rintro ⟨q, h1, h2⟩
    rw [Bool.and_eq_true_iff] at h2
    exact ⟨q, List.mem_range.mp h1, h2⟩
  · rintro ⟨q, h1, h2⟩
    exact ⟨q, List.mem_range.mpr h1, by rw [Bool.and_eq_true_iff]; exact h2⟩
/-- with no piece in another, only the latest piece is shared with -/
theorem shr_last {P : Nat → List Nat} {n p q : Nat} {row : List Nat} (hp9 : p < n) (hq : q < n) (hne : p ≠ q) (wp : wiB P n p = false) (wq : wiB P n q = false) (h1 : 1 ≤ (P p).length) (hlen : (P p).length ≤ row.length) (hend : ∀ k, k < (P p).length → row.getD (row.length - (P p).length + k) 0 = (P p).getD k 0) : shr row (P q) = shU (P p) (P q) (min (P p).length (P q).length) := by
  -- no share of all of p
  have no : ∀ s, (P p).length ≤ s → s ≤ (P q).length → ¬ (∀ k, k < (P p).length → (P p).getD k 0 = (P q).getD (s - (P p).length + k) 0) := by
    intro s hs1 hs2 hk
    have hin : inB (P p) (P q) = true := inB_iff.mpr ⟨s - (P p).length, by omega, sam_iff.mpr fun k h => (hk k h).symm⟩
    by_cases e : (P p).length < (P q).length
    · have : wiB P n p = true := wiB_iff.mpr ⟨q, hq, by unfold smB; rw [decide_eq_true e]; rfl, hin⟩
      rw [wp] at this
      cases this
    · have el : (P p).length = (P q).length := by omega
      have es : s - (P p).length = 0 := by omega
      by_cases lt : q < p
      · have : wiB P n p = true := wiB_iff.mpr ⟨q, hq, by unfold smB; rw [decide_eq_true el, decide_eq_true lt, Bool.and_self, Bool.or_true], hin⟩
        rw [wp] at this
        cases this
      · have hin2 : inB (P q) (P p) = true := inB_iff.mpr ⟨0, by omega, sam_iff.mpr fun k h => by
          have := hk k (by omega)
          rw [es] at this
          rw [Nat.zero_add] at this ⊢
          exact this⟩
        have : wiB P n q = true := wiB_iff.mpr ⟨p, hp9, by unfold smB; rw [decide_eq_true el.symm, decide_eq_true (show p < q by omega), Bool.and_self, Bool.or_true], hin2⟩
        rw [wq] at this
        cases this
  unfold shr
  rw [shU_cut (a := row) (c := (P p).length - 1) _ (fun s hs1 hs2 => ?_), shU_cut (a := P p) (c := (P p).length - 1) _ (fun s hs1 hs2 => ?_)]
  · have e : min (min (P q).length row.length) ((P p).length - 1) = min (min (P p).length (P q).length) ((P p).length - 1) := by omega
    rw [e]
    refine shU_cg _ fun s hs => ?_
    have hsl : s ≤ (P p).length := by omega
    cases h2 : sam (P p) ((P p).length - s) (P q) s with
    | true =>
      refine sam_iff.mpr fun k hk => ?_
      have := hend ((P p).length - s + k) (by omega)
      rw [← sam_iff.mp h2 k hk, ← this]
      congr 1
      omega
    | false =>
      cases h3 : sam row (row.length - s) (P q) s with
      | false => rfl
      | true =>
        have : sam (P p) ((P p).length - s) (P q) s = true := sam_iff.mpr fun k hk => by
          have := hend ((P p).length - s + k) (by omega)
          rw [← sam_iff.mp h3 k hk, ← this]
          congr 1
          omega
        rw [h2] at this
        cases this
  · cases h2 : sam (P p) ((P p).length - s) (P q) s with
    | false => rfl
    | true =>
      refine absurd (fun k hk => ?_) (no s (by omega) (by omega))
      have := sam_iff.mp h2 k (by omega)
      have e1 : (P p).length - s + k = k := by omega
      have e2 : s - (P p).length + k = k := by omega
      rw [e1] at this
      rw [e2]
      exact this
  · cases h2 : sam row (row.length - s) (P q) s with
    | false => rfl
    | true =>
      refine absurd (fun k hk => ?_) (no s (by omega) (by omega))
      rw [← hend k hk, ← sam_iff.mp h2 (s - (P p).length + k) (by omega)]
      congr 1
      omega
-- the search
def ltU (a b : List Nat) : Nat → Nat → Bool
  | 0, _ => false
  | m + 1, k => if a.getD k 0 = b.getD k 0 then ltU a b m (k + 1) else decide (a.getD k 0 < b.getD k 0)
def bet (row : List Nat) (o : Option (List Nat)) : Option (List Nat) := match o with
  | none => some row
  | some b => if row.length < b.length ∨ (row.length = b.length ∧ ltU row b row.length 0 = true) then some row else some b
def jn (P : Nat → List Nat) (n : Nat) : Nat → Nat → List Nat → Option (List Nat) → Option (List Nat)
  | 0, _, row, o => bet row o
  | f + 1, left, row, o => if left = 0 then bet row o else (List.range' 0 n).foldl (fun o p => if left.testBit p = true then jn P n f (nd left (2 ^ p)) (lay row (P p)) o else o) o
theorem jn_long {P : Nat → List Nat} {n : Nat} {b : List Nat} : ∀ (f left : Nat) (row : List Nat), b.length < row.length → jn P n f left row (some b) = some b := by
  have hb : ∀ row : List Nat, b.length < row.length → bet row (some b) = some b := by
    intro row h
    unfold bet
    simp only []
    rw [if_neg (by omega)]
  intro f
  induction f with
  | zero => exact fun left row h => hb row h
  | succ f ih =>
    intro left row h
    rw [jn]
    split
    · exact hb row h
    · generalize List.range' 0 n = l
      induction l with
      | nil => rfl
      | cons p l ihl =>
        rw [List.foldl_cons]
        have e : (if left.testBit p = true then jn P n f (nd left (2 ^ p)) (lay row (P p)) (some b) else some b) = some b := by
          split
          · exact ih _ _ (by rw [lay_len]; omega)
          · rfl
        rw [e]
        exact ihl
def smU (P : Nat → List Nat) (left : Nat) : Nat → Nat
  | 0 => 0
  | k + 1 => smU P left k + (if left.testBit k = true then (P k).length else 0)
theorem smU_nd {P : Nat → List Nat} {left p : Nat} (hp9 : left.testBit p = true) (k : Nat) : smU P (nd left (2 ^ p)) k + (if p < k then (P p).length else 0) = smU P left k := by
  induction k with
  | zero => rw [smU, smU, if_neg (by omega)]
  | succ k ih =>
    rw [smU, smU, nd_bit, Nat.testBit_two_pow]
    by_cases e : p = k
    · subst e
      have a : (left.testBit p && !decide (p = p)) = false := by rw [decide_eq_true rfl, Bool.not_true, Bool.and_false]
      rw [a, if_neg (show ¬ (false = true) by decide), if_pos (show p < p + 1 by omega), if_pos hp9]
      rw [if_neg (show ¬ p < p by omega)] at ih
      omega
    · have a : (left.testBit k && !decide (p = k)) = left.testBit k := by rw [decide_eq_false e, Bool.not_false, Bool.and_true]
      rw [a]
      by_cases lt : p < k
      · rw [if_pos lt] at ih
        rw [if_pos (show p < k + 1 by omega)]
        omega
      · rw [if_neg lt] at ih
        rw [if_neg (show ¬ p < k + 1 by omega)]
        omega
def duU (P : Nat → List Nat) (n : Nat) : Nat → Nat
  | 0 => 0
  | k + 1 => if wiB P n k = true then duU P n k else duU P n k ||| 2 ^ k
theorem duU_bit {P : Nat → List Nat} {n p : Nat} (k : Nat) : (duU P n k).testBit p = true ↔ p < k ∧ wiB P n p = false := by
  induction k with
  | zero =>
    rw [duU, Nat.zero_testBit]
    exact ⟨fun h => (by cases h), fun h => by omega⟩
  | succ k ih =>
    rw [duU]
    by_cases w : wiB P n k = true
    · rw [if_pos w, ih]
      constructor
      · exact fun h => ⟨by omega, h.2⟩
      · rintro ⟨h1, h2⟩
        have : p ≠ k := fun z => by rw [z, w] at h2; cases h2
        exact ⟨by omega, h2⟩
    · rw [if_neg w, Nat.testBit_or, Nat.testBit_two_pow, Bool.or_eq_true, ih]
      constructor
      · rintro (h | h)
        · exact ⟨by omega, h.2⟩
        · have := of_decide_eq_true h
          subst this
          exact ⟨by omega, by simpa using w⟩
      · rintro ⟨h1, h2⟩
        by_cases e : k = p
        · exact Or.inr (decide_eq_true e)
        · exact Or.inl ⟨by omega, h2⟩
end
