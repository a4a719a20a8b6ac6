/-! joined: the reference's call -/
section
theorem jn_ok {P : Nat → List Nat} {n T : Nat} (hn : n ≤ 16) : ∀ (f left : Nat) (row : List Nat) (o : Option (List Nat)), left < 2 ^ n → pc left ≤ f → row.length + smU P left n ≤ T → (∀ b, o = some b → b.length ≤ T) → ∃ b, jn P n f left row o = some b ∧ b.length ≤ T := by
  have hp9 : 2 ^ n ≤ 2 ^ 16 := p2le hn
  have hbet : ∀ (row : List Nat) (o : Option (List Nat)), row.length ≤ T → (∀ b, o = some b → b.length ≤ T) → ∃ b, bet row o = some b ∧ b.length ≤ T := by
    intro row o h1 h2
    cases o with
    | none => exact ⟨row, rfl, h1⟩
    | some b =>
      unfold bet
      simp only []
      split
      · exact ⟨row, rfl, h1⟩
      · exact ⟨b, rfl, h2 b rfl⟩
  intro f
  induction f with
  | zero => exact fun left row o _ _ h3 h4 => hbet row o (by omega) h4
  | succ f ih =>
    intro left row o h1 h2 h3 h4
    rw [jn]
    by_cases e : left = 0
    · rw [if_pos e]; exact hbet row o (by omega) h4
    rw [if_neg e]
    have step : ∀ (p : Nat) (o : Option (List Nat)), p < n → left.testBit p = true → (∀ b, o = some b → b.length ≤ T) → ∃ b, jn P n f (nd left (2 ^ p)) (lay row (P p)) o = some b ∧ b.length ≤ T := by
      intro p o hp8 hb ho
      have hsm := smU_nd (P := P) hb n
      rw [if_pos hp8] at hsm
      have hll := lay_len row (P p)
      have hpn := pc_nd (s := left) (w := p) (by omega) hb
      exact ih _ _ _ (nd_lt h1) (by omega) (by omega) ho
    -- once there is one, there stays one
    have keep : ∀ (m p : Nat) (o : Option (List Nat)), p + m ≤ n → (∀ b, o = some b → b.length ≤ T) → ((∃ b, o = some b) ∨ ∃ q, p ≤ q ∧ q < p + m ∧ left.testBit q = true) → ∃ b, (List.range' p m).foldl (fun o p => if left.testBit p = true then jn P n f (nd left (2 ^ p)) (lay row (P p)) o else o) o = some b ∧ b.length ≤ T := by
      intro m
      induction m with
      | zero =>
        intro p o _ ho h
        rcases h with ⟨b, rfl⟩ | ⟨q, q1, q2, _⟩
        · exact ⟨b, rfl, ho b rfl⟩
        · omega
      | succ m ihm =>
        intro p o hp8 ho h
        rw [List.range'_succ, List.foldl_cons]
        by_cases hb : left.testBit p = true
        · rw [if_pos hb]
          obtain ⟨b, e1, e2⟩ := step p o (by omega) hb ho
          rw [e1]
          exact ihm (p + 1) (some b) (by omega) (fun b' h' => by cases h'; exact e2) (Or.inl ⟨b, rfl⟩)
        · rw [if_neg hb]
          refine ihm (p + 1) o (by omega) ho ?_
          rcases h with h | ⟨q, q1, q2, q3⟩
          · exact Or.inl h
          · have : q ≠ p := fun z => hb (z ▸ q3)
            exact Or.inr ⟨q, by omega, by omega, q3⟩
    refine keep n 0 o (by omega) h4 (Or.inr ?_)
    apply Classical.byContradiction
    intro hno
    apply e
    apply Nat.eq_of_testBit_eq
    intro i
    rw [Nat.zero_testBit]
    cases q : left.testBit i with
    | false => rfl
    | true => exact absurd ⟨i, Nat.zero_le _, by have := bit_lt h1 q; omega, q⟩ hno
theorem duU_lt {P : Nat → List Nat} {n : Nat} (k : Nat) : duU P n k < 2 ^ k := by
  induction k with
  | zero => exact Nat.one_pos
  | succ k ih =>
    have h1 : 2 ^ (k + 1) = 2 ^ k + 2 ^ k := by rw [Nat.pow_succ]; omega
    have hpp := Nat.two_pow_pos k
    rw [duU]
    split
    · omega
    · rw [or_add ih]; omega
theorem smU_le {P : Nat → List Nat} {left n : Nat} (h : ∀ p, p < n → (P p).length ≤ 8) (k : Nat) (hk : k ≤ n) : smU P left k ≤ 8 * k := by
  induction k with
  | zero => exact Nat.le_refl _
  | succ k ih =>
    have h1 := h k (by omega)
    have h2 := ih (by omega)
    rw [smU]
    split <;> omega
def jnB (S : St) : List Nat := (jn (pcD S) (sW S).2.2.length 6 (duU (pcD S) (sW S).2.2.length (sW S).2.2.length) [] none).getD []
def f_joined (S : St) (k : Int) : Int × St := (if -1 ≤ k then (if k = -1 then ((jnB S).length : Int) else if k < ((jnB S).length : Int) then ((jnB S).getD k.toNat 0 : Nat) else -1) else -3, S)
theorem jnB_ok {S : St} (hS : SOK S) : jn (pcD S) (sW S).2.2.length 6 (duU (pcD S) (sW S).2.2.length (sW S).2.2.length) [] none = some (jnB S) ∧ (jnB S).length ≤ 48 := by
  have h6 := hS.p6
  have hdu := duU_lt (P := pcD S) (n := (sW S).2.2.length) (sW S).2.2.length
  have hsm := smU_le (P := pcD S) (left := duU (pcD S) (sW S).2.2.length (sW S).2.2.length) (n := (sW S).2.2.length) (fun p h => (hS.op h).2.1) (sW S).2.2.length (Nat.le_refl _)
  have hpc : pc (duU (pcD S) (sW S).2.2.length (sW S).2.2.length) ≤ 6 := pc_bound (by omega) (Nat.lt_of_lt_of_le hdu (p2le h6))
  obtain ⟨b, e1, e2⟩ := jn_ok (P := pcD S) (T := 48) (n := (sW S).2.2.length) (by omega) 6 _ [] none hdu hpc (by rw [List.length_nil]; omega) (fun b h => by cases h)
  unfold jnB
  rw [e1]
  exact ⟨rfl, e2⟩
theorem M_joined {X : Nat × (Nat → Int)} {d : Nat} {D : DD} {S : St} {k : Int} (hd : 16 ≤ d) (hS : SOK S) (hM : MH D S) : mRes X d m_M_joined [vI k] D (f_joined S k) := by
  obtain ⟨d, rfl⟩ : ∃ e, d = e + 1 := ⟨d - 1, by omega⟩
  have h6 := hS.p6
  have hM := hM.th hS
  have hT := th_mY D
  unfold mRes f_joined
  rw [e_M_joined, b_M_joined_0]
  generalize u3 D 12 0 0 0 = D0 at hM hT ⊢
  by_cases h0 : -1 ≤ k
  · rw [if_pos h0, if_pos h0]
    have hdu := duU_lt (P := pcD S) (n := (sW S).2.2.length)
    have hsm := smU_le (P := pcD S) (left := duU (pcD S) (sW S).2.2.length (sW S).2.2.length) (n := (sW S).2.2.length) (fun p h => (hS.op h).2.1) (sW S).2.2.length (Nat.le_refl _)
    have hpc : pc (duU (pcD S) (sW S).2.2.length (sW S).2.2.length) ≤ 6 := pc_bound (by omega) (Nat.lt_of_lt_of_le (hdu _) (p2le h6))
    obtain ⟨j1, j2⟩ := jnB_ok hS
    have key : ∀ (m p : Nat) (D1 : DD), p + m = (sW S).2.2.length → fr jP D0 D1 → ∃ D', at_ X d cd_M_joined 17 [vR 12 0, vI k, vI (duU (pcD S) (sW S).2.2.length p : Int), vI (p : Int)] [] (hp D1) = some (some (vI (if k = -1 then ((jnB S).length : Int) else if k < ((jnB S).length : Int) then ((jnB S).getD k.toNat 0 : Nat) else -1)), hp D') ∧ fr jP D0 D' := by
      intro m
      induction m with
      | zero =>
        intro p D1 hp8 hf
        have e : p = (sW S).2.2.length := by omega
        subst e
        have hM1 : MH D1 S := hM.scr hS (hf.mo fun _ _ _ z => jP_mX z)
        have f2 : fr jP D0 (u3 D1 12 0 36 (-1)) := hf.u ⟨rfl, Or.inr (Or.inr ⟨rfl, rfl⟩)⟩
        have hM2 : MH (u3 D1 12 0 36 (-1)) S := hM.scr hS (f2.mo fun _ _ _ z => jP_mX z)
        obtain ⟨D2, a1, a2, a3, a4⟩ := s_M_joins (X := X) hS 6 (duU (pcD S) (sW S).2.2.length (sW S).2.2.length) d [] none (u3 D1 12 0 36 (-1)) (by omega) hM2 (hdu _) hpc (by rw [List.length_nil]; omega) (fun j hj => by cases hj) (show u3 D1 12 0 36 (-1) 12 0 36 = -1 by rw [u3_eq])
        rw [j1] at a3
        have a1 : ev X d m_M_joins [vR 12 0, vI (duU (pcD S) (sW S).2.2.length (sW S).2.2.length : Int), vI 0] (hp (u3 D1 12 0 36 (-1))) = _ := a1
        rw [b_M_joined_17, hM1.pn, if_pos (by omega), a1]
        simp only [ab_cv]
        rw [b_M_joined_64, a3.1]
        refine ⟨D2, ?_, f2.tr a4⟩
        by_cases c1 : k = -1
        · rw [if_neg (by omega), if_pos c1]
        · rw [if_pos c1, if_neg c1]
          by_cases c2 : k < ((jnB S).length : Int)
          · rw [if_neg (by omega), if_pos c2, if_pos (by omega), a3.2 k.toNat (by omega)]
          · rw [if_pos (by omega), if_neg c2]
      | succ m ih =>
        intro p D1 hp8 hf
        have hM1 : MH D1 S := hM.scr hS (hf.mo fun _ _ _ z => jP_mX z)
        have hlt := Nat.lt_of_lt_of_le (hdu p) (p2le (a := p) (b := 16) (by omega))
        have h2 : 2 ^ p < 2 ^ 16 := zb_p2 (by omega)
        obtain ⟨D2, a1, a2⟩ := s_M_isWithin (X := X) (d := d) (D := D1) (p := p) (by omega) hS hM1 (by omega)
        have nxt := ih (p + 1) D2 (by omega) (hf.tr a2)
        rw [duU] at nxt
        rw [b_M_joined_17, hM1.pn, if_neg (by omega), a1]
        simp only [ab_ci]
        rw [b_M_joined_35]
        cases q : wiB (pcD S) (sW S).2.2.length p with
        | true =>
          rw [q, if_pos rfl] at nxt
          have ez : b_orr (duU (pcD S) (sW S).2.2.length p : Int) 0 = (duU (pcD S) (sW S).2.2.length p : Int) := by
            have := zb_or (n := duU (pcD S) (sW S).2.2.length p) (m := 0) (by omega) (by omega)
            rw [Nat.or_zero] at this
            exact this
          rw [if_neg (by decide), b_M_joined_45, ez, zb_s (by omega)]
          exact nxt
        | false =>
          rw [q, if_neg (by decide)] at nxt
          rw [if_pos (by decide), b_M_joined_45, zb_sl (by omega), zb_or (by omega) (by omega), zb_s (by omega)]
          exact nxt
    obtain ⟨D', g1, g2⟩ := key (sW S).2.2.length 0 D0 (by omega) (fr.rf D0)
    exact ⟨D', g1, hM.scr hS (g2.mo fun _ _ _ z => jP_mX z), hT.tr (g2.mo fun _ _ _ z => mX_mY (jP_mX z))⟩
  · rw [if_neg h0, if_neg h0]
    exact ⟨D0, rfl, hM, hT⟩
end
