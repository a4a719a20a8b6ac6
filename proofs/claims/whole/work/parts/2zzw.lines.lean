/-! lore: lines, pure -/
section
abbrev Er : Type := Nat × Nat
def upL (L : Nat → Nat) (k x : Nat) : Nat → Nat := fun j => if j = k then x else L j
theorem upL_e {L : Nat → Nat} {k x : Nat} : upL L k x k = x := if_pos rfl
theorem upL_n {L : Nat → Nat} {k x j : Nat} (h : j ≠ k) : upL L k x j = L j := if_neg h
def bnE {α β : Type} (a : Er ⊕ α) (f : α → Er ⊕ β) : Er ⊕ β := match a with
  | .inl e => .inl e
  | .inr x => f x
def numP (T : List Nat) (n lo hi : Nat) (un : Int) (q : Nat) : Er ⊕ Nat := if tK T n q = 10 then .inl (1, tS T n q) else if tK T n q ≠ 7 then .inl (2, tS T n q) else if tN T n q < lo ∨ hi ≤ tN T n q ∨ (tN T n q : Int) = un then .inl (3, tS T n q) else .inr (tN T n q)
def sgnP (T : List Nat) (n q : Nat) : Er ⊕ Nat := if tK T n q = 10 then .inl (1, tS T n q) else if tK T n q ≠ 8 then .inl (2, tS T n q) else .inr (tE T n q)
def thL (L : Nat → Nat) (x : Nat) : Nat → Nat := fun k => if k = 0 then x else if 34 ≤ k ∧ k < 50 then 1 else L k
abbrev BdR : Type := Er ⊕ ((Nat → Nat) × Nat)
def bThings (T : List Nat) (n : Nat) (L : Nat → Nat) (q : Nat) : BdR := if 0 < L 0 then .inl (4, tS T n q) else bnE (numP T n 1 17 (-1) (tE T n q)) fun x => .inr (thL L x, tE T n (tE T n q))
def bMind (T : List Nat) (n : Nat) (L : Nat → Nat) (q : Nat) : BdR := bnE (numP T n 1 10 (-1) (tE T n q)) fun x => .inr (upL L 1 x, tE T n (tE T n q))
def prL_ (L : Nat → Nat) (sec : Bool) (a b : Nat) : Nat → Nat := if sec = true then upL (upL L (18 + a) (L (18 + a) ||| 2 ^ b)) (18 + b) (L (18 + b) ||| 2 ^ a) else upL L (2 + a) (L (2 + a) ||| 2 ^ b)
def bPair (T : List Nat) (n : Nat) (L : Nat → Nat) (sec : Bool) (q : Nat) : BdR := bnE (numP T n 0 (L 0) (-1) (tE T n q)) fun a => bnE (numP T n 0 (L 0) (a : Int) (tE T n (tE T n q))) fun b => .inr (prL_ L sec a b, tE T n (tE T n (tE T n q)))
def bWorth (T : List Nat) (n : Nat) (L : Nat → Nat) (q : Nat) : BdR := bnE (numP T n 0 (L 0) (-1) (tE T n q)) fun t => bnE (numP T n 0 100 (-1) (tE T n (tE T n q))) fun x => .inr (upL L (34 + t) x, tE T n (tE T n (tE T n q)))
def innL (L : Nat → Nat) (i k : Nat) : Nat → Nat := upL (upL L (51 + i) k) 50 (i + 1)
def innB (T : List Nat) (n i : Nat) : Nat → Nat → (Nat → Nat) → Nat → BdR
  | 0, _, _, q => .inl (4, tS T n q)
  | f + 1, k, L, q => if tK T n q ≠ 7 then .inr (innL L i k, q) else bnE (numP T n 0 (L 0) (-1) q) fun x => if k = 9 then .inl (4, tS T n q) else innB T n i f (k + 1) (upL L (61 + 9 * i + k) x) (tE T n q)
def bInn (T : List Nat) (n : Nat) (L : Nat → Nat) (q : Nat) : BdR := if 10 ≤ L 50 then .inl (4, tS T n q) else innB T n (L 50) 10 0 L (tE T n q)
def bdP (T : List Nat) (n : Nat) (L : Nat → Nat) (q : Nat) : BdR := if tK T n q = 10 then .inl (1, tS T n q) else if 5 < tK T n q ∨ (tK T n q ≠ 0 ∧ L 0 = 0) then .inl (2, tS T n q) else if tK T n q = 0 then bThings T n L q else if tK T n q = 1 then bMind T n L q else if tK T n q = 2 then bPair T n L false q else if tK T n q = 3 then bPair T n L true q else if tK T n q = 4 then bWorth T n L q else bInn T n L q
def lnP (T : List Nat) (n : Nat) (L : Nat → Nat) (q : Nat) : BdR := bnE (bdP T n L q) fun z => bnE (sgnP T n z.2) fun e => .inr (z.1, e)
def prsP (T : List Nat) (n : Nat) : Nat → (Nat → Nat) → Nat → Er ⊕ (Nat → Nat)
  | 0, L, _ => .inr L
  | f + 1, L, q => if tK T n q = 9 then .inr L else bnE (lnP T n L q) fun z => prsP T n f (upL z.1 151 (L 151 + 1)) z.2
def L00 : Nat → Nat := fun k => if k = 1 then 9 else 0
/-- what holds of a lore while it is read -/
def okP (L : Nat → Nat) : Prop := LOK L ∧ ∀ i, L 50 ≤ i → i < 10 → L (51 + i) = 0
theorem numP_r {T : List Nat} {n lo hi q x : Nat} {un : Int} (h : numP T n lo hi un q = .inr x) : tK T n q = 7 ∧ x = tN T n q ∧ lo ≤ x ∧ x < hi ∧ (x : Int) ≠ un := by
  unfold numP at h
  by_cases c1 : tK T n q = 10
  · rw [if_pos c1] at h; cases h
  rw [if_neg c1] at h
  by_cases c2 : tK T n q = 7
  · rw [if_neg (fun z => z c2)] at h
    by_cases c3 : tN T n q < lo ∨ hi ≤ tN T n q ∨ (tN T n q : Int) = un
    · rw [if_pos c3] at h; cases h
    · rw [if_neg c3] at h
      cases h
      exact ⟨c2, rfl, by omega, by omega, fun z => c3 (Or.inr (Or.inr z))⟩
  · rw [if_pos c2] at h; cases h
theorem sgnP_r {T : List Nat} {n q e : Nat} (h : sgnP T n q = .inr e) : tK T n q = 8 ∧ e = tE T n q := by
  unfold sgnP at h
  by_cases c1 : tK T n q = 10
  · rw [if_pos c1] at h; cases h
  rw [if_neg c1] at h
  by_cases c2 : tK T n q = 8
  · rw [if_neg (fun z => z c2)] at h
    cases h
    exact ⟨c2, rfl⟩
  · rw [if_pos c2] at h; cases h
theorem numP_l {T : List Nat} {n lo hi q : Nat} {un : Int} {e : Er} (h : numP T n lo hi un q = .inl e) : e.1 ≠ 0 ∧ e.1 ≤ 4 ∧ e.2 = tS T n q := by
  unfold numP at h
  by_cases c1 : tK T n q = 10
  · rw [if_pos c1] at h; cases h; exact ⟨Nat.succ_ne_zero 0, (by show 1 ≤ 4; omega), rfl⟩
  rw [if_neg c1] at h
  by_cases c2 : tK T n q ≠ 7
  · rw [if_pos c2] at h; cases h; exact ⟨Nat.succ_ne_zero 1, (by show 2 ≤ 4; omega), rfl⟩
  · rw [if_neg c2] at h
    split at h
    · cases h; exact ⟨Nat.succ_ne_zero 2, (by show 3 ≤ 4; omega), rfl⟩
    · cases h
theorem bnE_r {α β : Type} {a : Er ⊕ α} {f : α → Er ⊕ β} {z : β} (h : bnE a f = .inr z) : ∃ x, a = .inr x ∧ f x = .inr z := by
  cases a with
  | inl e => cases h
  | inr x => exact ⟨x, rfl, h⟩
theorem bnE_l {α β : Type} {a : Er ⊕ α} {f : α → Er ⊕ β} {z : Er} (h : bnE a f = .inl z) : a = .inl z ∨ ∃ x, a = .inr x ∧ f x = .inl z := by
  cases a with
  | inl e => cases h; exact Or.inl rfl
  | inr x => exact Or.inr ⟨x, rfl, h⟩
theorem lor_b {x t L0 : Nat} (h : x < 2 ^ L0) (ht : t < L0) : x ||| 2 ^ t < 2 ^ L0 := Nat.or_lt_two_pow h (Nat.pow_lt_pow_right (by omega) ht)
theorem okP_th {L : Nat → Nat} {x : Nat} (h : okP L) (h0 : L 0 = 0) (h1 : 1 ≤ x) (h2 : x < 17) : okP (thL L x) := by
  obtain ⟨⟨⟨a1, a2, a3, a4, a5⟩, b, c, e, f, g, i, j⟩, k⟩ := h
  have en : ∀ k, k ≠ 0 → ¬ (34 ≤ k ∧ k < 50) → thL L x k = L k := fun k k1 k2 => by unfold thL; rw [if_neg k1, if_neg k2]
  have e0 : thL L x 0 = x := rfl
  have h2x : 2 ^ L 0 ≤ 2 ^ x := by rw [h0]; exact p2le (by omega)
  refine ⟨⟨⟨by omega, ?_, ?_, ?_, ?_⟩, fun t ht => ?_, fun t ht => ?_, fun t u ht hu => ?_, fun t ht => ?_, fun t ht => ?_, fun i' hi => ?_, fun i' k' hi hk => ?_⟩, fun i' hi h10 => ?_⟩
  · rw [en 1 (by omega) (by omega)]; exact a2
  · rw [en 1 (by omega) (by omega)]; exact a3
  · rw [en 50 (by omega) (by omega)]; exact a4
  · rw [en 151 (by omega) (by omega)]; exact a5
  · rw [en _ (by omega) (by omega), e0]; have := b t ht; omega
  · rw [en _ (by omega) (by omega), e0]; have := c t ht; omega
  · rw [en _ (by omega) (by omega), en _ (by omega) (by omega)]; exact e t u ht hu
  · rw [en _ (by omega) (by omega)]; exact f t ht
  · unfold thL; rw [if_neg (by omega), if_pos (by omega)]; omega
  · rw [en _ (by omega) (by omega)]; exact i i' hi
  · rw [en _ (by omega) (by omega)] at hk
    have := j i' k' hi hk
    omega
  · rw [en _ (by omega) (by omega)] at hi
    rw [en _ (by omega) (by omega)]; exact k i' hi h10
theorem okP_mi {L : Nat → Nat} {x : Nat} (h : okP L) (h1 : 1 ≤ x) (h2 : x < 10) : okP (upL L 1 x) := by
  obtain ⟨⟨⟨a1, a2, a3, a4, a5⟩, b, c, e, f, g, i, j⟩, k⟩ := h
  have en : ∀ k, k ≠ 1 → upL L 1 x k = L k := fun k k1 => upL_n k1
  refine ⟨⟨⟨?_, ?_, ?_, ?_, ?_⟩, fun t ht => ?_, fun t ht => ?_, fun t u ht hu => ?_, fun t ht => ?_, fun t ht => ?_, fun i' hi => ?_, fun i' k' hi hk => ?_⟩, fun i' hi h10 => ?_⟩
  · rw [en 0 (by omega)]; exact a1
  · rw [upL_e]; exact h1
  · rw [upL_e]; omega
  · rw [en 50 (by omega)]; exact a4
  · rw [en 151 (by omega)]; exact a5
  · rw [en _ (by omega), en 0 (by omega)]; exact b t ht
  · rw [en _ (by omega), en 0 (by omega)]; exact c t ht
  · rw [en _ (by omega), en _ (by omega)]; exact e t u ht hu
  · rw [en _ (by omega)]; exact f t ht
  · rw [en _ (by omega)]; exact g t ht
  · rw [en _ (by omega)]; exact i i' hi
  · rw [en _ (by omega)] at hk
    rw [en _ (by omega), en 0 (by omega)]; exact j i' k' hi hk
  · rw [en _ (by omega)] at hi
    rw [en _ (by omega)]; exact k i' hi h10
theorem okP_li {L : Nat → Nat} {x : Nat} (h : okP L) (h1 : x ≤ 500) : okP (upL L 151 x) := by
  obtain ⟨⟨⟨a1, a2, a3, a4, a5⟩, b, c, e, f, g, i, j⟩, k⟩ := h
  have en : ∀ k, k ≠ 151 → upL L 151 x k = L k := fun k k1 => upL_n k1
  refine ⟨⟨⟨?_, ?_, ?_, ?_, ?_⟩, fun t ht => ?_, fun t ht => ?_, fun t u ht hu => ?_, fun t ht => ?_, fun t ht => ?_, fun i' hi => ?_, fun i' k' hi hk => ?_⟩, fun i' hi h10 => ?_⟩
  · rw [en 0 (by omega)]; exact a1
  · rw [en 1 (by omega)]; exact a2
  · rw [en 1 (by omega)]; exact a3
  · rw [en 50 (by omega)]; exact a4
  · rw [upL_e]; exact h1
  · rw [en _ (by omega), en 0 (by omega)]; exact b t ht
  · rw [en _ (by omega), en 0 (by omega)]; exact c t ht
  · rw [en _ (by omega), en _ (by omega)]; exact e t u ht hu
  · rw [en _ (by omega)]; exact f t ht
  · rw [en _ (by omega)]; exact g t ht
  · rw [en _ (by omega)]; exact i i' hi
  · rw [en _ (by omega)] at hk
    have := i i' hi
    rw [en _ (by omega), en 0 (by omega)]; exact j i' k' hi hk
  · rw [en _ (by omega)] at hi
    rw [en _ (by omega)]; exact k i' hi h10
theorem okP_wo {L : Nat → Nat} {t' x : Nat} (h : okP L) (h1 : t' < L 0) (h2 : x < 100) : okP (upL L (34 + t') x) := by
  obtain ⟨⟨⟨a1, a2, a3, a4, a5⟩, b, c, e, f, g, i, j⟩, k⟩ := h
  have en : ∀ k, k ≠ 34 + t' → upL L (34 + t') x k = L k := fun k k1 => upL_n k1
  refine ⟨⟨⟨?_, ?_, ?_, ?_, ?_⟩, fun t ht => ?_, fun t ht => ?_, fun t u ht hu => ?_, fun t ht => ?_, fun t ht => ?_, fun i' hi => ?_, fun i' k' hi hk => ?_⟩, fun i' hi h10 => ?_⟩
  · rw [en 0 (by omega)]; exact a1
  · rw [en 1 (by omega)]; exact a2
  · rw [en 1 (by omega)]; exact a3
  · rw [en 50 (by omega)]; exact a4
  · rw [en 151 (by omega)]; exact a5
  · rw [en _ (by omega), en 0 (by omega)]; exact b t ht
  · rw [en _ (by omega), en 0 (by omega)]; exact c t ht
  · rw [en _ (by omega), en _ (by omega)]; exact e t u ht hu
  · rw [en _ (by omega)]; exact f t ht
  · by_cases et : t = t'
    · rw [et, upL_e]; omega
    · rw [en _ (by omega)]; exact g t ht
  · rw [en _ (by omega)]; exact i i' hi
  · rw [en _ (by omega)] at hk
    rw [en _ (by omega), en 0 (by omega)]; exact j i' k' hi hk
  · rw [en _ (by omega)] at hi
    rw [en _ (by omega)]; exact k i' hi h10
theorem okP_rh {L : Nat → Nat} {a' b' : Nat} (h : okP L) (h1 : a' < L 0) (h2 : b' < L 0) : okP (upL L (2 + a') (L (2 + a') ||| 2 ^ b')) := by
  obtain ⟨⟨⟨a1, a2, a3, a4, a5⟩, b, c, e, f, g, i, j⟩, k⟩ := h
  have en : ∀ k, k ≠ 2 + a' → upL L (2 + a') (L (2 + a') ||| 2 ^ b') k = L k := fun k k1 => upL_n k1
  refine ⟨⟨⟨?_, ?_, ?_, ?_, ?_⟩, fun t ht => ?_, fun t ht => ?_, fun t u ht hu => ?_, fun t ht => ?_, fun t ht => ?_, fun i' hi => ?_, fun i' k' hi hk => ?_⟩, fun i' hi h10 => ?_⟩
  · rw [en 0 (by omega)]; exact a1
  · rw [en 1 (by omega)]; exact a2
  · rw [en 1 (by omega)]; exact a3
  · rw [en 50 (by omega)]; exact a4
  · rw [en 151 (by omega)]; exact a5
  · rw [en 0 (by omega)]
    by_cases et : t = a'
    · rw [et, upL_e]; exact lor_b (b a' (by omega)) h2
    · rw [en _ (by omega)]; exact b t ht
  · rw [en _ (by omega), en 0 (by omega)]; exact c t ht
  · rw [en _ (by omega), en _ (by omega)]; exact e t u ht hu
  · rw [en _ (by omega)]; exact f t ht
  · rw [en _ (by omega)]; exact g t ht
  · rw [en _ (by omega)]; exact i i' hi
  · rw [en _ (by omega)] at hk
    rw [en _ (by omega), en 0 (by omega)]; exact j i' k' hi hk
  · rw [en _ (by omega)] at hi
    rw [en _ (by omega)]; exact k i' hi h10
theorem okP_se {L : Nat → Nat} {a' b' : Nat} (h : okP L) (h1 : a' < L 0) (h2 : b' < L 0) (hab : b' ≠ a') : okP (upL (upL L (18 + a') (L (18 + a') ||| 2 ^ b')) (18 + b') (L (18 + b') ||| 2 ^ a')) := by
  obtain ⟨⟨⟨a1, a2, a3, a4, a5⟩, b, c, e, f, g, i, j⟩, k⟩ := h
  have en : ∀ k, k ≠ 18 + a' → k ≠ 18 + b' → upL (upL L (18 + a') (L (18 + a') ||| 2 ^ b')) (18 + b') (L (18 + b') ||| 2 ^ a') k = L k := fun k k1 k2 => by rw [upL_n k2, upL_n k1]
  have ea : upL (upL L (18 + a') (L (18 + a') ||| 2 ^ b')) (18 + b') (L (18 + b') ||| 2 ^ a') (18 + a') = L (18 + a') ||| 2 ^ b' := by rw [upL_n (by omega), upL_e]
  have eb : upL (upL L (18 + a') (L (18 + a') ||| 2 ^ b')) (18 + b') (L (18 + b') ||| 2 ^ a') (18 + b') = L (18 + b') ||| 2 ^ a' := upL_e
  have tb : ∀ t u, (upL (upL L (18 + a') (L (18 + a') ||| 2 ^ b')) (18 + b') (L (18 + b') ||| 2 ^ a') (18 + t)).testBit u = ((L (18 + t)).testBit u || decide ((t = a' ∧ u = b') ∨ (t = b' ∧ u = a'))) := by
    intro t u
    by_cases et : t = a'
    · subst et
      rw [ea, Nat.testBit_or, Nat.testBit_two_pow]
      congr 1
      by_cases eu : b' = u
      · rw [decide_eq_true eu, decide_eq_true (Or.inl ⟨rfl, eu.symm⟩)]
      · rw [decide_eq_false eu, decide_eq_false (by omega)]
    · by_cases et2 : t = b'
      · subst et2
        rw [eb, Nat.testBit_or, Nat.testBit_two_pow]
        congr 1
        by_cases eu : a' = u
        · rw [decide_eq_true eu, decide_eq_true (Or.inr ⟨rfl, eu.symm⟩)]
        · rw [decide_eq_false eu, decide_eq_false (by omega)]
      · rw [en _ (by omega) (by omega), decide_eq_false (by omega), Bool.or_false]
  refine ⟨⟨⟨?_, ?_, ?_, ?_, ?_⟩, fun t ht => ?_, fun t ht => ?_, fun t u ht hu => ?_, fun t ht => ?_, fun t ht => ?_, fun i' hi => ?_, fun i' k' hi hk => ?_⟩, fun i' hi h10 => ?_⟩
  · rw [en 0 (by omega) (by omega)]; exact a1
  · rw [en 1 (by omega) (by omega)]; exact a2
  · rw [en 1 (by omega) (by omega)]; exact a3
  · rw [en 50 (by omega) (by omega)]; exact a4
  · rw [en 151 (by omega) (by omega)]; exact a5
  · rw [en _ (by omega) (by omega), en 0 (by omega) (by omega)]; exact b t ht
  · rw [en 0 (by omega) (by omega)]
    by_cases et : t = a'
    · rw [et, ea]; exact lor_b (c a' (by omega)) h2
    · by_cases et2 : t = b'
      · rw [et2, eb]; exact lor_b (c b' (by omega)) h1
      · rw [en _ (by omega) (by omega)]; exact c t ht
  · rw [tb, tb, e t u ht hu]
    congr 1
    exact decide_eq_decide.mpr (by omega)
  · rw [tb, f t ht, decide_eq_false (by omega)]; rfl
  · rw [en _ (by omega) (by omega)]; exact g t ht
  · rw [en _ (by omega) (by omega)]; exact i i' hi
  · rw [en _ (by omega) (by omega)] at hk
    rw [en _ (by omega) (by omega), en 0 (by omega) (by omega)]; exact j i' k' hi hk
  · rw [en _ (by omega) (by omega)] at hi
    rw [en _ (by omega) (by omega)]; exact k i' hi h10
theorem okP_nw {L : Nat → Nat} {i' k' x : Nat} (h : okP L) (h1 : L 50 = i') (h2 : i' < 10) (h3 : k' < 9) : okP (upL L (61 + 9 * i' + k') x) := by
  obtain ⟨⟨⟨a1, a2, a3, a4, a5⟩, b, c, e, f, g, i, j⟩, k⟩ := h
  have en : ∀ k, k ≠ 61 + 9 * i' + k' → upL L (61 + 9 * i' + k') x k = L k := fun k k1 => upL_n k1
  refine ⟨⟨⟨?_, ?_, ?_, ?_, ?_⟩, fun t ht => ?_, fun t ht => ?_, fun t u ht hu => ?_, fun t ht => ?_, fun t ht => ?_, fun i2 hi => ?_, fun i2 k2 hi hk => ?_⟩, fun i2 hi h10 => ?_⟩
  · rw [en 0 (by omega)]; exact a1
  · rw [en 1 (by omega)]; exact a2
  · rw [en 1 (by omega)]; exact a3
  · rw [en 50 (by omega)]; exact a4
  · rw [en 151 (by omega)]; exact a5
  · rw [en _ (by omega), en 0 (by omega)]; exact b t ht
  · rw [en _ (by omega), en 0 (by omega)]; exact c t ht
  · rw [en _ (by omega), en _ (by omega)]; exact e t u ht hu
  · rw [en _ (by omega)]; exact f t ht
  · rw [en _ (by omega)]; exact g t ht
  · rw [en _ (by omega)]; exact i i2 hi
  · rw [en _ (by omega)] at hk
    have g9 := i i2 hi
    by_cases e2 : i2 = i'
    · have := k i2 (by omega) hi
      omega
    · rw [en _ (by omega), en 0 (by omega)]; exact j i2 k2 hi hk
  · rw [en _ (by omega)] at hi
    rw [en _ (by omega)]; exact k i2 hi h10
theorem okP_in {L : Nat → Nat} {i' k' : Nat} (h : okP L) (h1 : L 50 = i') (h2 : i' < 10) (h3 : k' ≤ 9) (h4 : ∀ k, k < k' → L (61 + 9 * i' + k) < L 0) : okP (innL L i' k') := by
  obtain ⟨⟨⟨a1, a2, a3, a4, a5⟩, b, c, e, f, g, i, j⟩, k⟩ := h
  have en : ∀ k, k ≠ 51 + i' → k ≠ 50 → innL L i' k' k = L k := fun k k1 k2 => by unfold innL; rw [upL_n k2, upL_n k1]
  have ei : innL L i' k' (51 + i') = k' := by unfold innL; rw [upL_n (by omega), upL_e]
  have e5 : innL L i' k' 50 = i' + 1 := upL_e
  refine ⟨⟨⟨?_, ?_, ?_, ?_, ?_⟩, fun t ht => ?_, fun t ht => ?_, fun t u ht hu => ?_, fun t ht => ?_, fun t ht => ?_, fun i2 hi => ?_, fun i2 k2 hi hk => ?_⟩, fun i2 hi h10 => ?_⟩
  · rw [en 0 (by omega) (by omega)]; exact a1
  · rw [en 1 (by omega) (by omega)]; exact a2
  · rw [en 1 (by omega) (by omega)]; exact a3
  · rw [e5]; omega
  · rw [en 151 (by omega) (by omega)]; exact a5
  · rw [en _ (by omega) (by omega), en 0 (by omega) (by omega)]; exact b t ht
  · rw [en _ (by omega) (by omega), en 0 (by omega) (by omega)]; exact c t ht
  · rw [en _ (by omega) (by omega), en _ (by omega) (by omega)]; exact e t u ht hu
  · rw [en _ (by omega) (by omega)]; exact f t ht
  · rw [en _ (by omega) (by omega)]; exact g t ht
  · by_cases e2 : i2 = i'
    · rw [e2, ei]; exact h3
    · rw [en _ (by omega) (by omega)]; exact i i2 hi
  · rw [en (61 + 9 * i2 + k2) (by omega) (by omega), en 0 (by omega) (by omega)]
    by_cases e2 : i2 = i'
    · rw [e2, ei] at hk
      rw [e2]; exact h4 k2 hk
    · rw [en _ (by omega) (by omega)] at hk
      exact j i2 k2 hi hk
  · rw [e5] at hi
    rw [en _ (by omega) (by omega)]; exact k i2 (by omega) h10
theorem tE_le {T : List Nat} {n q : Nat} (h : q ≤ n) : q ≤ tE T n q ∧ tE T n q ≤ n := by
  have h1 := tS_b (T := T) h
  have h2 := tE_b (T := T) h
  omega
theorem innB_ok {T : List Nat} {n i : Nat} : ∀ (f k : Nat) (L : Nat → Nat) (q : Nat) (L' : Nat → Nat) (q' : Nat), k + f = 10 → okP L → L 50 = i → i < 10 → (∀ j, j < k → L (61 + 9 * i + j) < L 0) → q ≤ n → innB T n i f k L q = .inr (L', q') → okP L' ∧ q ≤ q' ∧ q' ≤ n ∧ L' 151 = L 151 := by
  intro f
  induction f with
  | zero => intro k L q L' q' _ _ _ _ _ _ h; rw [innB] at h; cases h
  | succ f ih =>
    intro k L q L' q' hk hL h5 hi hj hq h
    rw [innB] at h
    by_cases c : tK T n q ≠ 7
    · rw [if_pos c] at h
      cases h
      exact ⟨okP_in hL h5 hi (by omega) hj, Nat.le_refl _, hq, by unfold innL; rw [upL_n (by omega), upL_n (by omega)]⟩
    · rw [if_neg c] at h
      obtain ⟨x, hx, h⟩ := bnE_r h
      obtain ⟨_, _, _, x1, _⟩ := numP_r hx
      by_cases c9 : k = 9
      · rw [if_pos c9] at h; cases h
      · rw [if_neg c9] at h
        have hE := tE_le (T := T) hq
        obtain ⟨g1, g2, g3, g4⟩ := ih (k + 1) _ (tE T n q) L' q' (by omega) (okP_nw (x := x) hL h5 hi (by omega)) (by rw [upL_n (by omega)]; exact h5) hi (fun j hj9 => by
          rw [upL_n (k := 61 + 9 * i + k) (j := 0) (by omega)]
          by_cases e : j = k
          · rw [e, upL_e]; exact x1
          · rw [upL_n (by omega)]; exact hj j (by omega)) hE.2 h
        exact ⟨g1, by omega, g3, by rw [g4, upL_n (by omega)]⟩
theorem bdP_ok {T : List Nat} {n : Nat} {L L' : Nat → Nat} {q q' : Nat} (hL : okP L) (hq : q ≤ n) (h : bdP T n L q = .inr (L', q')) : okP L' ∧ q ≤ q' ∧ q' ≤ n ∧ L' 151 = L 151 := by
  have e1 := tE_le (T := T) hq
  have e2 := tE_le (T := T) e1.2
  have e3 := tE_le (T := T) e2.2
  unfold bdP at h
  by_cases c1 : tK T n q = 10
  · rw [if_pos c1] at h; cases h
  rw [if_neg c1] at h
  by_cases c2 : 5 < tK T n q ∨ (tK T n q ≠ 0 ∧ L 0 = 0)
  · rw [if_pos c2] at h; cases h
  rw [if_neg c2] at h
  by_cases k0 : tK T n q = 0
  · rw [if_pos k0] at h
    unfold bThings at h
    by_cases c3 : 0 < L 0
    · rw [if_pos c3] at h; cases h
    rw [if_neg c3] at h
    obtain ⟨x, hx, h⟩ := bnE_r h
    obtain ⟨_, _, x1, x2, _⟩ := numP_r hx
    cases h
    exact ⟨okP_th hL (by omega) x1 x2, by omega, by omega, rfl⟩
  rw [if_neg k0] at h
  by_cases k1 : tK T n q = 1
  · rw [if_pos k1] at h
    obtain ⟨x, hx, h⟩ := bnE_r h
    obtain ⟨_, _, x1, x2, _⟩ := numP_r hx
    cases h
    exact ⟨okP_mi hL x1 x2, by omega, by omega, rfl⟩
  rw [if_neg k1] at h
  by_cases k2 : tK T n q = 2
  · rw [if_pos k2] at h
    obtain ⟨a, ha, h⟩ := bnE_r h
    obtain ⟨b, hb, h⟩ := bnE_r h
    obtain ⟨_, _, _, x2, _⟩ := numP_r ha
    obtain ⟨_, _, _, y2, _⟩ := numP_r hb
    cases h
    exact ⟨okP_rh hL x2 y2, by omega, by omega, by unfold prL_; rw [if_neg (by decide), upL_n (by have := hL.1.1.1; omega)]⟩
  rw [if_neg k2] at h
  by_cases k3 : tK T n q = 3
  · rw [if_pos k3] at h
    obtain ⟨a, ha, h⟩ := bnE_r h
    obtain ⟨b, hb, h⟩ := bnE_r h
    obtain ⟨_, _, _, x2, _⟩ := numP_r ha
    obtain ⟨_, _, _, y2, y3⟩ := numP_r hb
    cases h
    have := hL.1.1.1
    exact ⟨okP_se hL x2 y2 (by omega), by omega, by omega, by unfold prL_; rw [if_pos rfl, upL_n (by omega), upL_n (by omega)]⟩
  rw [if_neg k3] at h
  by_cases k4 : tK T n q = 4
  · rw [if_pos k4] at h
    obtain ⟨a, ha, h⟩ := bnE_r h
    obtain ⟨b, hb, h⟩ := bnE_r h
    obtain ⟨_, _, _, x2, _⟩ := numP_r ha
    obtain ⟨_, _, _, y2, _⟩ := numP_r hb
    cases h
    have := hL.1.1.1
    exact ⟨okP_wo hL x2 y2, by omega, by omega, by rw [upL_n (by omega)]⟩
  rw [if_neg k4] at h
  unfold bInn at h
  by_cases c3 : 10 ≤ L 50
  · rw [if_pos c3] at h; cases h
  rw [if_neg c3] at h
  obtain ⟨g1, g2, g3, g4⟩ := innB_ok 10 0 L (tE T n q) L' q' rfl hL rfl (by omega) (fun j hj => by omega) e1.2 h
  exact ⟨g1, by omega, g3, g4⟩
theorem lnP_ok {T : List Nat} {n : Nat} {L L' : Nat → Nat} {q q' : Nat} (hL : okP L) (hq : q ≤ n) (h : lnP T n L q = .inr (L', q')) : okP L' ∧ q < q' ∧ q' ≤ n ∧ L' 151 = L 151 := by
  obtain ⟨⟨L1, q1⟩, h1, h⟩ := bnE_r h
  obtain ⟨e, h2, h⟩ := bnE_r h
  obtain ⟨g1, g2, g3, g4⟩ := bdP_ok hL hq h1
  obtain ⟨s1, s2⟩ := sgnP_r h2
  subst s2
  have s1 : tK T n q1 = 8 := s1
  have t1 := tE_lt (T := T) (n := n) (p := q1) g3 (by omega)
  have t2 := tS_b (T := T) g3
  have t3 := tE_le (T := T) g3
  cases h
  exact ⟨g1, by show q < tE T n q1; omega, t3.2, g4⟩
end
