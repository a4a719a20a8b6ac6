/-! the reference's hearings -/
section
/-- a row of things, as the reference holds it -/
def MR (D : DD) (r : Nat) (ts : List Nat) : Prop := D 41 0 r = (ts.length : Int) ∧ ∀ k, k < ts.length → D 42 0 (40 * r + k) = (ts.getD k 0 : Nat)
theorem MR.on {D D' : DD} {r : Nat} {ts : List Nat} (h : MR D r ts) (e : ∀ t k, (t = 41 ∨ t = 42) → D' t 0 k = D t 0 k) : MR D' r ts := ⟨(e _ _ (by omega)).trans h.1, fun k hk => (e _ _ (by omega)).trans (h.2 k hk)⟩
theorem nx_s {ts : List Nat} {i t : Nat} (hi : i < ts.length) (h : ts.getD i 0 ≠ t) : nx ts i t = nx ts (i + 1) t := by
  unfold nx
  obtain ⟨m, hm⟩ : ∃ m, ts.length - i = m + 1 := ⟨ts.length - i - 1, by omega⟩
  have e : ts.length - (i + 1) = m := by omega
  rw [hm, e, ff, decide_eq_false h]
  rfl
theorem s_M_nextAt {X : Nat × (Nat → Int)} {d : Nat} {D : DD} {r i t : Nat} {ts : List Nat} (hd : 1 ≤ d) (hr : r < 4) (h40 : ts.length ≤ 40) (hi : i ≤ ts.length) (h : MR D r ts) : ev X d m_M_nextAt [vR 12 0, vI (r : Int), vI (t : Int), vI (i : Int)] (hp D) = some (some (vI (nx ts i t : Int)), hp D) := by
  obtain ⟨d, rfl⟩ : ∃ e, d = e + 1 := ⟨d - 1, by omega⟩
  obtain ⟨n1, n2⟩ := nx_ge (t := t) hi
  have key : ∀ (m k : Nat) (v3 : ab_V), k + m = ts.length → i ≤ k → k ≤ nx ts i t → at_ X d cd_M_nextAt 3 [vR 12 0, vI (r : Int), vI (t : Int), v3, vI (k : Int)] [] (hp D) = some (some (vI (nx ts i t : Int)), hp D) := by
    intro m
    induction m with
    | zero =>
      intro k v3 hk hik hn
      have e : nx ts i t = k := by omega
      rw [b_M_nextAt_3, if_pos (by omega), Int.toNat_natCast, h.1, if_pos (by omega), e]
    | succ m ih =>
      intro k v3 hk hik hn
      have h4 := nx_at (t := t) hik (by omega) hn
      rw [b_M_nextAt_3, if_pos (by omega), Int.toNat_natCast, h.1, if_neg (by omega), zb_w (n := 40 * (r : Int)) (by omega) (by omega), zb_w (n := 40 * (r : Int) + (k : Int)) (by omega) (by omega), if_pos (by omega), tn (n := 40 * r + k) (by omega), h.2 k (by omega)]
      by_cases e : ts.getD k 0 = t
      · rw [if_pos (cmp_eq.mpr (by omega)), h4.mpr e]
      · have : nx ts i t ≠ k := fun z => e (h4.mp z)
        rw [if_neg (fun z => e (by have := cmp_eq.mp z; omega)), zb_s (by omega)]
        exact ih (k + 1) vU (by omega) (by omega) (by omega)
  rw [e_M_nextAt, b_M_nextAt_0]
  exact key (ts.length - i) i _ (by omega) (Nat.le_refl _) n1
def dvM (f : Nat → Int) (o : Option Nat) : Int := match o with
  | none => 0
  | some w => f w
theorem s_M_driven {X : Nat × (Nat → Int)} {d : Nat} {D : DD} {r k s : Nat} {law : Int} {f : Nat → Int} {ts : List Nat} (hd : 2 ≤ d) (hr : r < 4) (h40 : ts.length ≤ 40) (hk : k ≤ ts.length) (hs : s < 65536) (h : MR D r ts) (hh : D 12 0 21 = (s : Int)) (hf : ∀ t, t < 16 → s.testBit t = true → (-1000 ≤ f t ∧ f t ≤ 1000) ∧ ((law = 0 ∧ f t = 100 - D 28 0 t) ∨ (law = 1 ∧ f t = 100 - D 29 0 t) ∨ (law ≠ 0 ∧ law ≠ 1 ∧ f t = (nx ts k t : Int)))) : ev X d m_M_driven [vR 12 0, vI (r : Int), vI (k : Int), vI law] (hp D) = some (some (vI (goI (dvU s f 16))), hp D) := by
  obtain ⟨d, rfl⟩ : ∃ e, d = e + 1 := ⟨d - 1, by omega⟩
  have key : ∀ (m t : Nat), t + m = 16 → at_ X d cd_M_driven 9 [vR 12 0, vI (r : Int), vI (k : Int), vI law, vI (goI (dvU s f t)), vI (dvM f (dvU s f t)), vI (t : Int), vU] [] (hp D) = some (some (vI (goI (dvU s f 16))), hp D) := by
    intro m
    induction m with
    | zero =>
      intro t ht
      have e : t = 16 := by omega
      subst e
      rw [b_M_driven_9, if_pos (by omega)]
    | succ m ih =>
      intro t ht
      have nxt := ih (t + 1) (by omega)
      rw [b_M_driven_9, if_neg (by omega), hh, zb_bit (by omega) (by omega)]
      by_cases hb : s.testBit t = true
      · obtain ⟨⟨f1, f2⟩, f3⟩ := hf t (by omega) hb
        have go : at_ X d cd_M_driven 74 [vR 12 0, vI (r : Int), vI (k : Int), vI law, vI (goI (dvU s f t)), vI (dvM f (dvU s f t)), vI (t : Int), vU] [vI (f t)] (hp D) = some (some (vI (goI (dvU s f 16))), hp D) := by
          rw [b_M_driven_74]
          rw [dvU, if_pos hb] at nxt
          cases ho : dvU s f t with
          | none =>
            rw [ho] at nxt
            rw [show goI none = -1 from rfl, if_pos rfl, b_M_driven_92, b_M_driven_100, zb_s (by omega)]
            exact nxt
          | some w =>
            rw [ho] at nxt
            rw [show goI (some w) = (w : Int) from rfl, show dvM f (some w) = f w from rfl, if_neg (by omega)]
            by_cases e : f w < f t
            · rw [if_pos e, b_M_driven_92, b_M_driven_100, zb_s (by omega)]
              simp only [if_pos e] at nxt
              exact nxt
            · rw [if_neg e, b_M_driven_100, zb_s (by omega)]
              simp only [if_neg e] at nxt
              exact nxt
        rw [if_pos hb, if_pos (by decide)]
        rcases f3 with ⟨l0, e⟩ | ⟨l1, e⟩ | ⟨l0, l1, e⟩
        · subst l0
          rw [if_neg (by omega), if_pos (by omega), Int.toNat_natCast, zb_w (by omega) (by omega), ← e]
          exact go
        · subst l1
          rw [if_pos (by omega), if_neg (by omega), if_pos (by omega), Int.toNat_natCast, zb_w (by omega) (by omega), ← e]
          exact go
        · rw [if_pos l0, if_pos l1, s_M_nextAt (by omega) hr h40 hk h]
          simp only [ab_ci]
          rw [← e]
          exact go
      · rw [if_neg hb, if_neg (by decide), b_M_driven_100, zb_s (by omega)]
        rw [dvU, if_neg hb] at nxt
        exact nxt
  rw [e_M_driven, b_M_driven_0]
  exact key 16 0 (by omega)
end
