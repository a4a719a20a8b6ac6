/-! lore: tokens, pure -/
section
def rnF (T : List Nat) (P : Nat → Bool) (n : Nat) : Nat → Nat → Nat
  | 0, p => p
  | f + 1, p => if p < n ∧ P (T.getD p 0) = true then rnF T P n f (p + 1) else p
def rnT (T : List Nat) (P : Nat → Bool) (n p : Nat) : Nat := rnF T P n (n - p) p
theorem rnT_y {T : List Nat} {P : Nat → Bool} {n p : Nat} (h : p < n) (hP : P (T.getD p 0) = true) : rnT T P n p = rnT T P n (p + 1) := by
  unfold rnT
  rw [show n - p = (n - (p + 1)) + 1 by omega, rnF, if_pos ⟨h, hP⟩]
theorem rnT_n {T : List Nat} {P : Nat → Bool} {n p : Nat} (h : ¬ (p < n ∧ P (T.getD p 0) = true)) : rnT T P n p = p := by
  unfold rnT
  cases n - p with
  | zero => rfl
  | succ f => rw [rnF, if_neg h]
theorem rnT_b {T : List Nat} {P : Nat → Bool} {n : Nat} : ∀ (m p : Nat), n - p = m → p ≤ n → p ≤ rnT T P n p ∧ rnT T P n p ≤ n := by
  intro m
  induction m with
  | zero =>
    intro p h1 h2
    rw [rnT_n (by omega)]
    omega
  | succ m ih =>
    intro p h1 h2
    by_cases h : p < n ∧ P (T.getD p 0) = true
    · rw [rnT_y h.1 h.2]
      have := ih (p + 1) (by omega) (by omega)
      omega
    · rw [rnT_n h]
      omega
def blk (b : Nat) : Bool := decide (b = 10 ∨ b = 32)
def sml (b : Nat) : Bool := decide (97 ≤ b ∧ b ≤ 122)
def dig (b : Nat) : Bool := decide (48 ≤ b ∧ b ≤ 57)
def wdP (T : List Nat) (s e : Nat) (W : List Nat) : Prop := e - s = W.length ∧ ∀ k, k < W.length → T.getD (s + k) 0 = W.getD k 0
def wdB (T : List Nat) (s e : Nat) (W : List Nat) : Bool := decide (e - s = W.length) && (List.range' 0 W.length).all (fun k => decide (T.getD (s + k) 0 = W.getD k 0))
theorem wdB_iff {T : List Nat} {s e : Nat} {W : List Nat} : wdB T s e W = true ↔ wdP T s e W := by
  unfold wdB wdP
  rw [Bool.and_eq_true, decide_eq_true_iff, List.all_eq_true]
  refine and_congr Iff.rfl ⟨fun h k hk => of_decide_eq_true (h k (List.mem_range'_1.mpr (by omega))), fun h k hk => decide_eq_true (h k (by have := List.mem_range'_1.mp hk; omega))⟩
def keyT (T : List Nat) (s e : Nat) : Nat := if wdB T s e (ab_tx 1) = true then 0 else if wdB T s e (ab_tx 2) = true then 1 else if wdB T s e (ab_tx 3) = true then 2 else if wdB T s e (ab_tx 4) = true then 3 else if wdB T s e (ab_tx 5) = true then 4 else if wdB T s e (ab_tx 6) = true then 5 else 6
theorem keyT_le {T : List Nat} {s e : Nat} : keyT T s e ≤ 6 := by
  unfold keyT
  repeat' split
  all_goals omega
def nvT (T : List Nat) (s : Nat) : Nat → Nat
  | 0 => 0
  | k + 1 => 10 * nvT T s k + (T.getD (s + k) 0 - 48)
/-- a token read from p: where it begins, where it ends, its kind (0..5 words, 6 another word, 7 number, 8 sign, 9 end, 10 none), its number -/
def tS (T : List Nat) (n p : Nat) : Nat := rnT T blk n p
def tE (T : List Nat) (n p : Nat) : Nat := if n ≤ tS T n p then tS T n p else if sml (T.getD (tS T n p) 0) = true then rnT T sml n (tS T n p) else if dig (T.getD (tS T n p) 0) = true then rnT T dig n (tS T n p) else tS T n p + 1
def tK (T : List Nat) (n p : Nat) : Nat := if n ≤ tS T n p then 9 else if sml (T.getD (tS T n p) 0) = true then keyT T (tS T n p) (tE T n p) else if dig (T.getD (tS T n p) 0) = true then (if tE T n p - tS T n p ≤ 3 then 7 else 10) else if T.getD (tS T n p) 0 = 59 then 8 else 10
def tN (T : List Nat) (n p : Nat) : Nat := nvT T (tS T n p) (if tE T n p - tS T n p ≤ 3 then tE T n p - tS T n p else 3)
theorem tS_b {T : List Nat} {n p : Nat} (h : p ≤ n) : p ≤ tS T n p ∧ tS T n p ≤ n := rnT_b _ p rfl h
theorem tE_b {T : List Nat} {n p : Nat} (h : p ≤ n) : tS T n p ≤ tE T n p ∧ tE T n p ≤ n := by
  have h1 := tS_b (T := T) h
  unfold tE
  split
  · omega
  · split
    · exact rnT_b _ _ rfl h1.2
    · split
      · exact rnT_b _ _ rfl h1.2
      · omega
theorem tE_lt {T : List Nat} {n p : Nat} (h : p ≤ n) (hk : tK T n p ≠ 9) : tS T n p < tE T n p ∧ tS T n p < n := by
  have h1 := tS_b (T := T) h
  have h2 : ¬ n ≤ tS T n p := fun z => hk (by unfold tK; rw [if_pos z])
  refine ⟨?_, by omega⟩
  unfold tE
  rw [if_neg h2]
  split
  · rename_i h3
    rw [rnT_y (by omega) h3]
    have := rnT_b (T := T) (P := sml) (n := n) _ (tS T n p + 1) rfl (by omega)
    omega
  · split
    · rename_i h3
      rw [rnT_y (by omega) h3]
      have := rnT_b (T := T) (P := dig) (n := n) _ (tS T n p + 1) rfl (by omega)
      omega
    · omega
theorem tK_9 {T : List Nat} {n p : Nat} (h : n ≤ p) (h' : p ≤ n) : tK T n p = 9 := by
  have := tS_b (T := T) h'
  unfold tK
  rw [if_pos (by omega)]
theorem nvT_lt {T : List Nat} {s : Nat} : ∀ k, (∀ j, j < k → dig (T.getD (s + j) 0) = true) → nvT T s k < 10 ^ k := by
  intro k
  induction k with
  | zero => exact fun _ => Nat.zero_lt_one
  | succ k ih =>
    intro h
    have h1 := ih fun j hj => h j (by omega)
    have h2 := of_decide_eq_true (h k (by omega))
    rw [nvT, Nat.pow_succ]
    omega
/-- all of a run are of its kind -/
theorem rnT_all {T : List Nat} {P : Nat → Bool} {n : Nat} : ∀ (m p : Nat), n - p = m → p ≤ n → ∀ j, p ≤ j → j < rnT T P n p → P (T.getD j 0) = true := by
  intro m
  induction m with
  | zero =>
    intro p h1 h2 j h3 h4
    rw [rnT_n (by omega)] at h4
    omega
  | succ m ih =>
    intro p h1 h2 j h3 h4
    by_cases h : p < n ∧ P (T.getD p 0) = true
    · rw [rnT_y h.1 h.2] at h4
      by_cases e : j = p
      · rw [e]; exact h.2
      · exact ih (p + 1) (by omega) (by omega) j (by omega) h4
    · rw [rnT_n h] at h4
      omega
theorem tN_lt {T : List Nat} {n p : Nat} (h : p ≤ n) (hk : tK T n p = 7) : tN T n p < 1000 := by
  have h1 := tS_b (T := T) h
  have h2 : ¬ n ≤ tS T n p := fun z => by unfold tK at hk; rw [if_pos z] at hk; omega
  unfold tK at hk
  rw [if_neg h2] at hk
  by_cases c1 : sml (T.getD (tS T n p) 0) = true
  · rw [if_pos c1] at hk
    have := keyT_le (T := T) (s := tS T n p) (e := tE T n p)
    omega
  · rw [if_neg c1] at hk
    by_cases c2 : dig (T.getD (tS T n p) 0) = true
    · rw [if_pos c2] at hk
      by_cases c3 : tE T n p - tS T n p ≤ 3
      · unfold tN
        rw [if_pos c3]
        have e : tE T n p = rnT T dig n (tS T n p) := by unfold tE; rw [if_neg h2, if_neg c1, if_pos c2]
        have := nvT_lt (T := T) (s := tS T n p) (tE T n p - tS T n p) (fun j hj => rnT_all _ _ rfl h1.2 _ (by omega) (by rw [← e]; omega))
        have : 10 ^ (tE T n p - tS T n p) ≤ 10 ^ 3 := Nat.pow_le_pow_right (by omega) c3
        omega
      · rw [if_neg c3] at hk
        omega
    · rw [if_neg c2] at hk
      split at hk <;> omega
end
