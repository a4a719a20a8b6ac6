/-! the lore's questions: worth, secrets, what comes back, what is loud: words, and the class's answers -/
section
def wsU (L : Nat → Nat) (s : Nat) : Nat → Nat
  | 0 => 0
  | k + 1 => wsU L s k + if s.testBit k = true then L (34 + k) else 0
def wrS (L : Nat → Nat) (s : Nat) : Nat := wsU L s (L 0)
theorem wsU_le {L : Nat → Nat} (hL : LOK L) (s : Nat) {k : Nat} (hk : k ≤ 16) : wsU L s k ≤ 99 * k := by
  induction k with
  | zero => exact Nat.le_refl _
  | succ k ih =>
    have h1 := ih (by omega)
    have h2 := hL.2.2.2.2.2.1 k (by omega)
    rw [wsU]
    split <;> omega
theorem wrS_le {L : Nat → Nat} (hL : LOK L) (s : Nat) : wrS L s ≤ 1584 := by
  have h1 := wsU_le hL s hL.1.1
  have h2 := hL.1.1
  unfold wrS
  omega
theorem s_C_worthOf {X : Nat × (Nat → Int)} {d : Nat} {D : DD} {q s : Nat} {L : Nat → Nat} (hd : 1 ≤ d) (hL : LOK L) (hl : LC D q L) (hs : s < 65536) : ev X d m_Lore_worthOf [vR 5 q, vI (s : Int)] (hp D) = some (some (vI (wrS L s : Int)), hp D) := by
  obtain ⟨d, rfl⟩ : ∃ e, d = e + 1 := ⟨d - 1, by omega⟩
  have h16 := hL.1.1
  have key : ∀ (m k : Nat), k + m = L 0 → at_ X d cd_Lore_worthOf 4 [vR 5 q, vI (s : Int), vI (wsU L s k : Int), vI (k : Int)] [] (hp D) = some (some (vI (wrS L s : Int)), hp D) := by
    intro m
    induction m with
    | zero =>
      intro k hk
      rw [b_Lore_worthOf_4, hl.1.1, if_pos (by omega)]
      rw [show k = L 0 by omega]
      rfl
    | succ m ih =>
      intro k hk
      have h1 := wsU_le hL s (k := k) (by omega)
      have h2 := hL.2.2.2.2.2.1 k (by omega)
      have h3 := ih (k + 1) (by omega)
      rw [wsU] at h3
      rw [b_Lore_worthOf_4, hl.1.1, if_neg (by omega), zb_bit (by omega) (by omega)]
      by_cases hb : s.testBit k = true
      · rw [if_pos hb] at h3
        rw [if_pos hb, if_neg (by omega), if_pos (by omega), Int.toNat_natCast, hl.2.2.2.1 k (by omega), zb_w (by omega) (by omega), b_Lore_worthOf_29, zb_s (by omega), ← Int.natCast_add]
        exact h3
      · rw [if_neg hb] at h3
        rw [if_neg hb, if_pos rfl, b_Lore_worthOf_29, zb_s (by omega)]
        exact h3
  rw [e_Lore_worthOf, b_Lore_worthOf_0]
  exact key (L 0) 0 (by omega)
/-- the first from k on, of m -/
def ff (p : Nat → Bool) : Nat → Nat → Option Nat
  | _, 0 => none
  | k, m + 1 => if p k = true then some k else ff p (k + 1) m
theorem ff_none {p : Nat → Bool} {k m : Nat} : ff p k m = none ↔ ∀ j, k ≤ j → j < k + m → p j = false := by
  induction m generalizing k with
  | zero => exact ⟨fun _ j h1 h2 => by omega, fun _ => rfl⟩
  | succ m ih =>
    rw [ff]
    by_cases h : p k = true
    · rw [if_pos h]
      constructor
      · intro z; cases z
      · intro z
        rw [z k (Nat.le_refl _) (by omega)] at h
        cases h
    · rw [if_neg h, ih]
      have h' : p k = false := by simpa using h
      constructor
      · intro z j h1 h2
        by_cases e : j = k
        · subst e; exact h'
        · exact z j (by omega) (by omega)
      · intro z j h1 h2
        exact z j (by omega) (by omega)
theorem ff_some {p : Nat → Bool} {k m u : Nat} (h : ff p k m = some u) : k ≤ u ∧ u < k + m ∧ p u = true ∧ ∀ j, k ≤ j → j < u → p j = false := by
  induction m generalizing k with
  | zero => cases h
  | succ m ih =>
    rw [ff] at h
    by_cases hp9 : p k = true
    · rw [if_pos hp9] at h
      cases h
      exact ⟨Nat.le_refl _, by omega, hp9, fun j h1 h2 => by omega⟩
    · rw [if_neg hp9] at h
      obtain ⟨h1, h2, h3, h4⟩ := ih h
      refine ⟨by omega, by omega, h3, fun j a b => ?_⟩
      by_cases e : j = k
      · subst e; simpa using hp9
      · exact h4 j (by omega) b
def spi (L : Nat → Nat) (s t : Nat) : Option Nat := if s.testBit t = true then ff (fun u => (L (18 + t) &&& s).testBit u) (t + 1) (L 0 - (t + 1)) else none
def spU (L : Nat → Nat) (s : Nat) : Nat → Nat → Option (Nat × Nat)
  | _, 0 => none
  | t, m + 1 => match spi L s t with
    | some u => some (t, u)
    | none => spU L s (t + 1) m
/-- the least secret within a set -/
def spO (L : Nat → Nat) (s : Nat) : Option (Nat × Nat) := spU L s 0 (L 0)
def spI (o : Option (Nat × Nat)) : Int := match o with
  | none => -1
  | some z => ((20 * z.1 + z.2 : Nat) : Int)
theorem s_C_secretPair {X : Nat × (Nat → Int)} {d : Nat} {D : DD} {q s : Nat} {L : Nat → Nat} (hd : 1 ≤ d) (hL : LOK L) (hl : LC D q L) (hs : s < 65536) : ev X d m_Lore_secretPair [vR 5 q, vI (s : Int)] (hp D) = some (some (vI (spI (spO L s))), hp D) := by
  obtain ⟨d, rfl⟩ : ∃ e, d = e + 1 := ⟨d - 1, by omega⟩
  have h16 := hL.1.1
  have inn : ∀ (o t m u : Nat), o < 65536 → t < 16 → u + m = L 0 → at_ X d cd_Lore_secretPair 36 [vR 5 q, vI (s : Int), vI (t : Int), vI (o : Int), vI (u : Int)] [] (hp D) = match ff (fun u => o.testBit u) u m with
      | some w => some (some (vI (spI (some (t, w)))), hp D)
      | none => at_ X d cd_Lore_secretPair 2 [vR 5 q, vI (s : Int), vI ((t + 1 : Nat) : Int), vU, vU] [] (hp D) := by
    intro o t m
    induction m with
    | zero =>
      intro u ho ht hu
      rw [b_Lore_secretPair_36, hl.1.1, if_pos (by omega), zb_s (by omega)]
      rfl
    | succ m ih =>
      intro u ho ht hu
      rw [b_Lore_secretPair_36, hl.1.1, if_neg (by omega), zb_bit (by omega) (by omega), ff]
      by_cases hb : o.testBit u = true
      · rw [if_pos hb, if_neg (by omega), if_pos hb, zb_w (n := 20 * (t : Int)) (by omega) (by omega), zb_w (by omega) (by omega)]
        congr 4
      · rw [if_neg hb, if_pos rfl, if_neg hb, zb_s (by omega)]
        exact ih (u + 1) ho ht (by omega)
  have out : ∀ (m t : Nat), t + m = L 0 → at_ X d cd_Lore_secretPair 2 [vR 5 q, vI (s : Int), vI (t : Int), vU, vU] [] (hp D) = some (some (vI (spI (spU L s t m))), hp D) := by
    intro m
    induction m with
    | zero =>
      intro t ht
      rw [b_Lore_secretPair_2, hl.1.1, if_pos (by omega)]
      rfl
    | succ m ih =>
      intro t ht
      have h1 := hL.s (t := t) (by omega)
      have h2 : L (18 + t) &&& s ≤ L (18 + t) := Nat.and_le_left
      rw [b_Lore_secretPair_2, hl.1.1, if_neg (by omega), zb_bit (by omega) (by omega), spU]
      unfold spi
      by_cases hb : s.testBit t = true
      · rw [if_pos hb, if_pos (by omega), if_pos (by omega), Int.toNat_natCast, hl.2.2.1 t (by omega), zb_an (by omega) (by omega), b_Lore_secretPair_30, zb_s (by omega), inn _ t m (t + 1) (by omega) (by omega) (by omega), if_pos hb, show L 0 - (t + 1) = m by omega]
        cases ff (fun u => (L (18 + t) &&& s).testBit u) (t + 1) m with
        | none => exact ih (t + 1) (by omega)
        | some w => rfl
      · have e := inn 0 t m (t + 1) (by omega) (by omega) (by omega)
        rw [ff_none.mpr (fun j _ _ => Nat.zero_testBit j)] at e
        rw [if_neg hb, if_neg (by omega), b_Lore_secretPair_30, zb_s (by omega), if_neg hb]
        exact e.trans (ih (t + 1) (by omega))
  rw [e_Lore_secretPair, b_Lore_secretPair_0]
  exact out (L 0) 0 (by omega)
def setI (L : Nat → Nat) (x : Int) : Int := if 0 ≤ x ∧ x < ((2 ^ L 0 : Nat) : Int) then 1 else 0
theorem s_C_isSet {X : Nat × (Nat → Int)} {d : Nat} {D : DD} {q : Nat} {x : Int} {L : Nat → Nat} (hd : 1 ≤ d) (hL : LOK L) (hl : LC D q L) (h1 : -2147483648 ≤ x) (h2 : x < 2147483648) : ev X d m_Lore_isSet [vR 5 q, vI x] (hp D) = some (some (vI (setI L x)), hp D) := by
  obtain ⟨d, rfl⟩ : ∃ e, d = e + 1 := ⟨d - 1, by omega⟩
  have h16 := hL.1.1
  have hp9 : 2 ^ L 0 ≤ 2 ^ 16 := p2le h16
  have hp8 : 0 < 2 ^ L 0 := Nat.pow_pos (by omega)
  have e : b_us x (L 0 : Int) ≠ 0 ↔ ¬ (0 ≤ x ∧ x < ((2 ^ L 0 : Nat) : Int)) := by
    unfold b_us
    have e1 : ((L 0 : Int) % 32).toNat = L 0 := by omega
    obtain ⟨n, hn⟩ : ∃ n : Nat, x % 4294967296 = (n : Int) := ⟨(x % 4294967296).toNat, by omega⟩
    have e2 : (n : Int) / 2 ^ L 0 = ((n / 2 ^ L 0 : Nat) : Int) := by rw [Int.natCast_ediv, Int.natCast_pow]; rfl
    rw [e1, hn, e2]
    have hq : n / 2 ^ L 0 ≤ n := Nat.div_le_self _ _
    have hz : n / 2 ^ L 0 = 0 ↔ n < 2 ^ L 0 := Nat.div_eq_zero_iff_lt hp8
    generalize n / 2 ^ L 0 = z at hq hz
    generalize 2 ^ L 0 = w at hz hp9 hp8
    unfold w32
    omega
  rw [e_Lore_isSet, b_Lore_isSet_0, hl.1.1]
  unfold setI
  by_cases h : 0 ≤ x ∧ x < ((2 ^ L 0 : Nat) : Int)
  · rw [if_neg (fun z => (e.mp z) h), if_pos h]
  · rw [if_pos (e.mpr h), if_neg h]
theorem s_C_allThings {X : Nat × (Nat → Int)} {d : Nat} {D : DD} {q : Nat} {L : Nat → Nat} (hd : 1 ≤ d) (hL : LOK L) (hl : LC D q L) : ev X d m_Lore_allThings [vR 5 q] (hp D) = some (some (vI ((2 ^ L 0 - 1 : Nat) : Int)), hp D) := by
  obtain ⟨d, rfl⟩ : ∃ e, d = e + 1 := ⟨d - 1, by omega⟩
  have h16 := hL.1.1
  have hp9 : 2 ^ L 0 ≤ 2 ^ 16 := p2le h16
  have hp8 : 0 < 2 ^ L 0 := Nat.pow_pos (by omega)
  rw [e_Lore_allThings, b_Lore_allThings_0, hl.1.1, zb_sl (by omega)]
  generalize 2 ^ L 0 = w at hp9 hp8
  rw [zb_w (by omega) (by omega)]
  congr 4
  omega
/-- what comes back in one round: k things are looked at -/
def rhU (L : Nat → Nat) (s : Nat) : Nat → Nat
  | 0 => s
  | k + 1 => if s.testBit k = true then rhU L s k ||| L (2 + k) else rhU L s k
def rhS (L : Nat → Nat) (s : Nat) : Nat := rhU L s (L 0)
theorem rhU_lt {L : Nat → Nat} (hL : LOK L) {s n : Nat} (hn : L 0 ≤ n) (hs : s < 2 ^ n) {k : Nat} (hk : k ≤ 16) : rhU L s k < 2 ^ n := by
  induction k with
  | zero => exact hs
  | succ k ih =>
    rw [rhU]
    split
    · exact Nat.or_lt_two_pow (ih (by omega)) (Nat.lt_of_lt_of_le (hL.2.1 k (by omega)) (p2le hn))
    · exact ih (by omega)
/-- rounds -/
def itS (L : Nat → Nat) : Nat → Nat → Nat
  | 0, s => s
  | k + 1, s => itS L k (rhS L s)
theorem itS_fix {L : Nat → Nat} {s : Nat} (h : rhS L s = s) (k : Nat) : itS L k s = s := by
  induction k with
  | zero => rfl
  | succ k ih => rw [itS, h, ih]
/-- all that comes back -/
def clo (L : Nat → Nat) (s : Nat) : Nat := itS L (L 0) s
theorem s_C_comeBack {X : Nat × (Nat → Int)} {d : Nat} {D : DD} {q s : Nat} {L : Nat → Nat} (hd : 1 ≤ d) (hL : LOK L) (hl : LC D q L) (hs : s < 65536) : ev X d m_Lore_comeBack [vR 5 q, vI (s : Int)] (hp D) = some (some (vI (clo L s : Int)), hp D) := by
  obtain ⟨d, rfl⟩ : ∃ e, d = e + 1 := ⟨d - 1, by omega⟩
  have h16 := hL.1.1
  have inn : ∀ (m k s r : Nat), s < 65536 → k + m = L 0 → at_ X d cd_Lore_comeBack 18 [vR 5 q, vU, vI (s : Int), vI (r : Int), vI (rhU L s k : Int), vI (k : Int)] [] (hp D) = if rhS L s ≠ s then at_ X d cd_Lore_comeBack 4 [vR 5 q, vU, vI (rhS L s : Int), vI (w32 ((r : Int) + 1)), vI (rhS L s : Int), vU] [] (hp D) else some (some (vI (s : Int)), hp D) := by
    intro m
    induction m with
    | zero =>
      intro k s r hs hk
      rw [show k = L 0 by omega, b_Lore_comeBack_18, hl.1.1, if_pos (by omega)]
      show (if ((rhS L s : Nat) : Int) ≠ (s : Int) then _ else _) = _
      by_cases h : rhS L s = s
      · rw [if_neg (by omega), if_neg (by omega)]
      · rw [if_pos (by omega), if_pos h]
        rfl
    | succ m ih =>
      intro k s r hs hk
      have h3 := ih (k + 1) s r hs (by omega)
      have h4 := rhU_lt hL (s := s) (n := 16) (k := k) h16 hs (by omega)
      rw [rhU] at h3
      rw [b_Lore_comeBack_18, hl.1.1, if_neg (by omega), zb_bit (by omega) (by omega)]
      by_cases hb : s.testBit k = true
      · rw [if_pos hb] at h3
        have h5 := hL.r (t := k) (by omega)
        rw [if_pos hb, if_neg (by omega), if_pos (by omega), Int.toNat_natCast, hl.2.1 k (by omega), zb_or (by omega) (by omega), b_Lore_comeBack_48, zb_s (by omega)]
        exact h3
      · rw [if_neg hb] at h3
        rw [if_neg hb, if_pos rfl, b_Lore_comeBack_48, zb_s (by omega)]
        exact h3
  have out : ∀ (m r s : Nat) (v1 v4 : ab_V), s < 65536 → r + m = L 0 → at_ X d cd_Lore_comeBack 4 [vR 5 q, v1, vI (s : Int), vI (r : Int), v4, vU] [] (hp D) = some (some (vI (itS L m s : Int)), hp D) := by
    intro m
    induction m with
    | zero =>
      intro r s v1 v4 hs hr
      rw [b_Lore_comeBack_4, hl.1.1, if_pos (by omega)]
      rfl
    | succ m ih =>
      intro r s v1 v4 hs hr
      have e := inn (L 0) 0 s r hs (by omega)
      rw [show ((0 : Nat) : Int) = 0 from rfl] at e
      rw [b_Lore_comeBack_4, hl.1.1, if_neg (by omega)]
      refine Eq.trans e ?_
      by_cases h : rhS L s = s
      · rw [if_neg (by omega), itS_fix h]
      · rw [if_pos h, zb_s (by omega)]
        exact ih (r + 1) (rhS L s) vU _ (rhU_lt hL h16 hs h16) (by omega)
  rw [e_Lore_comeBack, b_Lore_comeBack_0]
  exact out (L 0) 0 s _ _ hs (by omega)
/-- the news on a way, as bits -/
def nwV (L : Nat → Nat) (to : Nat) : Nat → Nat → Nat → Nat
  | 0, _, a => a
  | m + 1, s, a => nwV L to m (nxI s to) (a ||| bs (nws L (nxI s to)))
theorem s_C_newsOnWay {X : Nat × (Nat → Int)} {d : Nat} {D : DD} {q s to : Nat} {L : Nat → Nat} (hd : 2 ≤ d) (hL : LOK L) (hl : LC D q L) (hs : s < 10) (ht : to < 10) : ev X d m_Lore_newsOnWay [vR 5 q, vI (s : Int), vI (to : Int)] (hp D) = some (some (vI (nwV L to (dst s to) s 0 : Int)), hp D) ∧ nwV L to (dst s to) s 0 < 65536 := by
  obtain ⟨d, rfl⟩ : ∃ e, d = e + 1 := ⟨d - 1, by omega⟩
  have h16 := hL.1.1
  have bl : ∀ i, i < 10 → bs (nws L i) < 65536 := fun i hi => bs_31 fun t ht => Nat.lt_of_lt_of_le (nws_lt hL hi ht) h16
  have bl2 : ∀ i k, i < 10 → bs ((nws L i).drop k) < 65536 := fun i k hi => bs_31 fun t ht => Nat.lt_of_lt_of_le (nws_lt hL hi (List.mem_of_mem_drop ht)) h16
  have lt : ∀ (m s a : Nat), a < 65536 → ((s + m = to) ∨ (to + m = s)) → s < 10 → nwV L to m s a < 65536 := by
    intro m
    induction m with
    | zero => intro s a ha _ _; exact ha
    | succ m ih =>
      intro s a ha h hs
      have hn : nxI s to < 10 := by unfold nxI; split <;> omega
      rw [nwV]
      exact ih _ _ (Nat.or_lt_two_pow (n := 16) ha (bl _ hn)) (by unfold nxI; split <;> omega) hn
  have inn : ∀ (m k i a : Nat) (l3 l6 : Int), a < 65536 → i < 10 → k + m = L (51 + i) → at_ X d cd_Lore_newsOnWay 39 [vR 5 q, vU, vU, vI l3, vI (a : Int), vI (i : Int), vI l6, vI (k : Int)] [] (hp D) = at_ X d cd_Lore_newsOnWay 25 [vR 5 q, vU, vU, vI l3, vI ((a ||| bs ((nws L i).drop k) : Nat) : Int), vI (i : Int), vI (w32 (l6 + (-1))), vU] [] (hp D) := by
    intro m
    induction m with
    | zero =>
      intro k i a l3 l6 ha hi hk
      rw [b_Lore_newsOnWay_39, if_pos (by omega), Int.toNat_natCast, hl.2.2.2.2.1 i hi, if_pos (by omega), List.drop_of_length_le (by rw [nws_len]; omega), bs, Nat.or_zero]
    | succ m ih =>
      intro k i a l3 l6 ha hi hk
      have h9 := hL.2.2.2.2.2.2.1 i hi
      have hu : L (61 + 9 * i + k) < 16 := Nat.lt_of_lt_of_le (hL.2.2.2.2.2.2.2 i k hi (by omega)) h16
      have h2 : 2 ^ L (61 + 9 * i + k) < 2 ^ 16 := zb_p2 hu
      rw [b_Lore_newsOnWay_39, if_pos (by omega), Int.toNat_natCast, hl.2.2.2.2.1 i hi, if_neg (by omega), s_C_newsAt (by omega) hL hl hi (by omega)]
      simp only [ab_ci]
      rw [b_Lore_newsOnWay_62, zb_sl (by omega), zb_or (by omega) (by omega), zb_s (by omega), ih (k + 1) i _ l3 l6 (Nat.or_lt_two_pow (n := 16) ha h2) hi (by omega), nws_get (k := k) (by omega), bs, Nat.or_assoc]
  have out : ∀ (m s a : Nat) (st : Int) (v1 v2 : ab_V), a < 65536 → s < 10 → ((st = 1 ∧ s + m = to) ∨ (st = -1 ∧ to + m = s)) → at_ X d cd_Lore_newsOnWay 25 [vR 5 q, v1, v2, vI st, vI (a : Int), vI (s : Int), vI (m : Int), vU] [] (hp D) = some (some (vI (nwV L to m s a : Int)), hp D) := by
    intro m
    induction m with
    | zero =>
      intro s a st v1 v2 ha hs hst
      rw [b_Lore_newsOnWay_25, if_pos (by omega)]
      rfl
    | succ m ih =>
      intro s a st v1 v2 ha hs hst
      have hn : nxI s to < 10 := by unfold nxI; split <;> omega
      have e : w32 ((s : Int) + st) = ((nxI s to : Nat) : Int) := by
        rw [zb_w (by omega) (by omega)]
        unfold nxI
        split <;> omega
      have e2 := inn (L (51 + nxI s to)) 0 (nxI s to) a st ((m + 1 : Nat) : Int) ha hn (by omega)
      rw [show ((0 : Nat) : Int) = 0 from rfl, List.drop_zero] at e2
      rw [b_Lore_newsOnWay_25, if_neg (by omega), e, e2, zb_w (by omega) (by omega), show ((m + 1 : Nat) : Int) + -1 = (m : Int) by omega]
      exact ih (nxI s to) _ st vU vU (Nat.or_lt_two_pow (n := 16) ha (bl _ hn)) hn (by unfold nxI; split <;> omega)
  rw [e_Lore_newsOnWay, b_Lore_newsOnWay_0]
  by_cases hc : s < to
  · refine ⟨?_, lt _ s 0 (by omega) (by unfold dst; rw [if_pos hc]; omega) hs⟩
    rw [if_neg (by omega), b_Lore_newsOnWay_10, zb_w (by omega) (by omega), if_pos (by omega), show (to : Int) - (s : Int) = ((dst s to : Nat) : Int) by unfold dst; rw [if_pos hc]; omega]
    exact out _ s 0 1 _ _ (by omega) hs (Or.inl ⟨rfl, by unfold dst; rw [if_pos hc]; omega⟩)
  · refine ⟨?_, lt _ s 0 (by omega) (by unfold dst; rw [if_neg hc]; omega) hs⟩
    have e : (if (0 : Int) ≤ (to : Int) - (s : Int) then (to : Int) - (s : Int) else w32 (0 - ((to : Int) - (s : Int)))) = ((dst s to : Nat) : Int) := by
      unfold dst
      rw [if_neg hc]
      split
      · omega
      · rw [zb_w (by omega) (by omega)]; omega
    rw [if_pos (by omega), b_Lore_newsOnWay_10, zb_w (n := (to : Int) - (s : Int)) (by omega) (by omega), e]
    exact out _ s 0 (-1) _ _ (by omega) hs (Or.inr ⟨rfl, by unfold dst; rw [if_neg hc]; omega⟩)
end
