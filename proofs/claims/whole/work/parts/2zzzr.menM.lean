/-! men and loads: the reference's small methods -/
section
theorem Ld_iff {L : Nat → Nat} {e x : Nat} (hx : x < 65536) : Ld L e x ↔ pc x ≤ e ∧ ∀ t, x.testBit t = true → L (18 + t) &&& x = 0 := by
  constructor
  · exact fun h => ⟨h.2.1, fun t ht => and_0.mpr fun u hu => h.2.2 t u ht hu⟩
  · exact fun h => ⟨hx, h.1, fun t u ht hu => and_0.mp (h.2 t ht) u hu⟩
theorem s_M_canCarry {X : Nat × (Nat → Int)} {d : Nat} {D : DD} {L : Nat → Nat} {e x : Nat} (hd : 2 ≤ d) (hL : LOK L) (hl : LM D L) (hx : x < 2 ^ L 0) : ev X d m_M_canCarry [vR 12 0, vI (x : Int), vI (e : Int)] (hp D) = some (some (vI (if dcP (Ld L e x) = true then 1 else 0)), hp D) := by
  obtain ⟨d, rfl⟩ : ∃ e, d = e + 1 := ⟨d - 1, by omega⟩
  have hp9 : 2 ^ L 0 ≤ 2 ^ 16 := p2le hL.1.1
  have h16 := hL.1.1
  have hx9 : x < 65536 := by omega
  rw [e_M_canCarry, b_M_canCarry_0, s_M_bitsOf (by omega) hx9]
  simp only [ab_ci]
  rw [b_M_canCarry_4]
  by_cases c : pc x ≤ e
  · rw [if_pos (by omega)]
    have key : ∀ (m t : Nat), t + m = L 0 → (∀ u, u < t → x.testBit u = true → L (18 + u) &&& x = 0) → at_ X d cd_M_canCarry 12 [vR 12 0, vI (x : Int), vU, vI (t : Int)] [] (hp D) = some (some (vI (if dcP (Ld L e x) = true then 1 else 0)), hp D) := by
      intro m
      induction m with
      | zero =>
        intro t ht hinv
        rw [b_M_canCarry_12, hl 0 (by omega), if_pos (by omega), if_pos (dcP_iff.mpr ((Ld_iff hx9).mpr ⟨c, fun u hu => hinv u (by have := bit_lt hx hu; omega) hu⟩))]
      | succ m ih =>
        intro t ht hinv
        have hs := hL.s (t := t) (by omega)
        rw [b_M_canCarry_12, hl 0 (by omega), if_neg (by omega), zb_bit (by omega) (by omega)]
        by_cases hb : x.testBit t = true
        · rw [if_pos hb, if_neg (by decide), zb_w (n := 18 + (t : Int)) (by omega) (by omega), if_pos (by omega), tn (n := 18 + t) (by omega), hl (18 + t) (by omega), zb_an (by omega) (by omega)]
          by_cases c2 : L (18 + t) &&& x = 0
          · rw [if_pos (by omega), b_M_canCarry_47, zb_s (by omega)]
            refine ih (t + 1) (by omega) fun u hu hu2 => ?_
            by_cases eu : u = t
            · rw [eu]; exact c2
            · exact hinv u (by omega) hu2
          · rw [if_neg (by omega), if_neg (fun z => c2 (((Ld_iff hx9).mp (dcP_iff.mp z)).2 t hb))]
        · rw [if_neg hb, if_pos (by decide), b_M_canCarry_47, zb_s (by omega)]
          refine ih (t + 1) (by omega) fun u hu hu2 => ?_
          by_cases eu : u = t
          · rw [eu] at hu2; exact absurd hu2 hb
          · exact hinv u (by omega) hu2
    exact key (L 0) 0 (by omega) (fun u hu => by omega)
  · rw [if_neg (by omega), if_neg (fun z => c ((Ld_iff hx9).mp (dcP_iff.mp z)).1)]
def TH (D : DD) (s B : Nat) : Prop := D 12 0 27 = (pc s : Int) ∧ ∀ i, i < pc s → D 33 0 i = ((els s).getD i 0 : Nat) ∧ D 34 0 i = ((B ^ i : Nat) : Int)
theorem s_M_asThings {X : Nat × (Nat → Int)} {d : Nat} {D : DD} {s B x : Nat} (hd : 1 ≤ d) (hs : s < 65536) (hT : TH D s B) (hx : x < 65536) : ev X d m_M_asThings [vR 12 0, vI (x : Int)] (hp D) = some (some (vI (mkS s x.testBit : Int)), hp D) := by
  obtain ⟨d, rfl⟩ : ∃ e, d = e + 1 := ⟨d - 1, by omega⟩
  have hpc := pc_le s
  have key : ∀ (m i : Nat), i + m = pc s → at_ X d cd_M_asThings 4 [vR 12 0, vI (x : Int), vI (mkS s (fun j => x.testBit j && decide (j < i)) : Nat), vI (i : Int)] [] (hp D) = some (some (vI (mkS s x.testBit : Int)), hp D) := by
    intro m
    induction m with
    | zero =>
      intro i hi
      rw [b_M_asThings_4, hT.1, if_pos (by omega), mkS_eq (Q := x.testBit) (fun j hj => by rw [decide_eq_true (by omega : j < i), Bool.and_true])]
    | succ m ih =>
      intro i hi
      have hm := mkS_lt hs (fun j => x.testBit j && decide (j < i))
      obtain ⟨t1, t2⟩ := th_mem hs (show i < pc s by omega)
      have h2 : 2 ^ ((els s).getD i 0) < 65536 := zb_p2 (k := 16) t1
      rw [b_M_asThings_4, hT.1, if_neg (by omega), zb_bit (by omega) (by omega)]
      by_cases hb : x.testBit i = true
      · rw [if_pos hb, if_neg (by decide), if_pos (by omega), Int.toNat_natCast, (hT.2 i (by omega)).1, zb_sl (by omega), b_M_asThings_34, zb_or (by omega) (by omega), zb_s (by omega)]
        have e : mkS s (fun j => x.testBit j && decide (j < i)) ||| 2 ^ ((els s).getD i 0) = mkS s (fun j => x.testBit j && decide (j < i + 1)) := mkS_ext (fun t ht => by
          rw [bor, Bool.or_eq_true, decide_eq_true_iff] at ht
          rcases ht with z | z
          · obtain ⟨j, j1, _, j3⟩ := mkS_bit.mp z
            exact ⟨j, j1, j3⟩
          · exact ⟨i, by omega, z⟩) (fun j hj => by
          rw [bor, mkS_at hj]
          by_cases e : j = i
          · rw [e, hb, decide_eq_true rfl, decide_eq_true (by omega : i < i + 1), Bool.or_true]; rfl
          · rw [decide_eq_false (fun z => e (getD_inj (els_nd s) i j (show i < pc s by omega) hj z).symm), Bool.or_false]
            congr 1
            exact decide_eq_decide.mpr (by omega))
        rw [e]
        exact ih (i + 1) (by omega)
      · rw [if_neg hb, if_pos (by decide), b_M_asThings_34, show (0 : Int) = ((0 : Nat) : Int) from rfl, zb_or (by omega) (by omega), Nat.or_zero, zb_s (by omega)]
        have e : mkS s (fun j => x.testBit j && decide (j < i)) = mkS s (fun j => x.testBit j && decide (j < i + 1)) := mkS_eq fun j hj => by
          by_cases e : j = i
          · rw [Bool.not_eq_true] at hb
            rw [e, hb]; rfl
          · congr 1
            exact decide_eq_decide.mpr (by omega)
        rw [e]
        exact ih (i + 1) (by omega)
  rw [e_M_asThings, b_M_asThings_0]
  have e0 : mkS s (fun j => x.testBit j && decide (j < 0)) = 0 := bit0 fun t => by
    cases h : (mkS s (fun j => x.testBit j && decide (j < 0))).testBit t with
    | false => rfl
    | true =>
      obtain ⟨j, _, j2, _⟩ := mkS_bit.mp h
      rw [decide_eq_false (by omega : ¬ j < 0), Bool.and_false] at j2
      cases j2
  have := key (pc s) 0 (by omega)
  rw [e0] at this
  exact this
def lfM (B n c : Nat) : Nat := bs ((kL n).filter (fun i => decide (1 ≤ dgB B c i)))
theorem lfM_bit {B n c i : Nat} : (lfM B n c).testBit i = true ↔ i < n ∧ 1 ≤ dgB B c i := by
  unfold lfM
  rw [bs_bit, decide_eq_true_iff, List.mem_filter, kL_mem, decide_eq_true_iff]
theorem lfM_lt {B n c : Nat} : lfM B n c < 2 ^ n := bs_lt fun t ht => kL_mem.mp (List.mem_filter.mp ht).1
theorem td_3 {q : Nat} : Int.tdiv (q : Int) 3 = ((q / 3 : Nat) : Int) := by
  rw [Int.tdiv_eq_ediv_of_nonneg (Int.natCast_nonneg q)]
  rfl
theorem zw_n {n : Nat} (h : n < 65536) : w32 (n : Int) = (n : Int) := zb_w (by omega) (by omega)
theorem bl_k {i : Nat} {P : Nat → Bool} (h : i ≤ 16) : bs ((kL i).filter P) < 2147483648 := by
  have : bs ((kL i).filter P) < 2 ^ 16 := bs_lt fun t ht => by have := kL_mem.mp (List.mem_filter.mp ht).1; omega
  omega
theorem lf_st {i : Nat} {f : Nat → Nat} : bs ((kL (i + 1)).filter (fun j => decide (1 ≤ f j))) = if 1 ≤ f i then bs ((kL i).filter (fun j => decide (1 ≤ f j))) ||| 2 ^ i else bs ((kL i).filter (fun j => decide (1 ≤ f j))) := Nat.eq_of_testBit_eq fun t => by
  rw [bs_bit]
  by_cases cd : 1 ≤ f i
  · rw [if_pos cd, bor, bs_bit, ← Bool.decide_or]
    refine decide_eq_decide.mpr ?_
    rw [List.mem_filter, List.mem_filter, kL_mem, kL_mem, decide_eq_true_iff]
    constructor
    · rintro ⟨a1, a2⟩
      by_cases e : i = t
      · exact Or.inr e
      · exact Or.inl ⟨by omega, a2⟩
    · rintro (⟨a1, a2⟩ | a1)
      · exact ⟨by omega, a2⟩
      · rw [← a1]; exact ⟨by omega, cd⟩
  · rw [if_neg cd, bs_bit]
    refine decide_eq_decide.mpr ?_
    rw [List.mem_filter, List.mem_filter, kL_mem, kL_mem, decide_eq_true_iff]
    constructor
    · rintro ⟨a1, a2⟩
      have : t ≠ i := fun z => cd (z ▸ a2)
      exact ⟨by omega, a2⟩
    · rintro ⟨a1, a2⟩
      exact ⟨by omega, a2⟩
theorem s_M_leftIn {X : Nat × (Nat → Int)} {d : Nat} {D : DD} {s B c : Nat} {dbl : Int} (hd : 1 ≤ d) (hB : (dbl = 0 ∧ B = 2) ∨ (dbl ≠ 0 ∧ B = 3)) (hT : TH D s B) (hc : c < B ^ pc s) (hc9 : c < 65536) : ev X d m_M_leftIn [vR 12 0, vI (c : Int), vI dbl] (hp D) = some (some (vI (lfM B (pc s) c : Int)), hp D) := by
  obtain ⟨d, rfl⟩ : ∃ e, d = e + 1 := ⟨d - 1, by omega⟩
  have hpc := pc_le s
  rw [e_M_leftIn, b_M_leftIn_0]
  rcases hB with ⟨h1, rfl⟩ | ⟨h1, rfl⟩
  · rw [if_neg (fun z => z h1)]
    have e : lfM 2 (pc s) c = c := Nat.eq_of_testBit_eq fun i => by
      have hdg : dgB 2 c i = if c.testBit i = true then 1 else 0 := by
        unfold dgB
        rw [Nat.testBit_eq_decide_div_mod_eq]
        by_cases z : c / 2 ^ i % 2 = 1
        · rw [if_pos (decide_eq_true z), z]
        · rw [if_neg (by rw [decide_eq_false z]; exact Bool.false_ne_true)]; omega
      cases hx : c.testBit i with
      | true => exact lfM_bit.mpr ⟨bit_lt hc hx, by rw [hdg, if_pos hx]; exact Nat.le_refl _⟩
      | false =>
        cases hy : (lfM 2 (pc s) c).testBit i with
        | false => rfl
        | true =>
          have := (lfM_bit.mp hy).2
          rw [hdg, if_neg (by rw [hx]; exact Bool.false_ne_true)] at this
          omega
    rw [e]
  · rw [if_pos h1]
    have key : ∀ (m i q : Nat) (v1 : ab_V), i + m = pc s → q = c / 3 ^ i → at_ X d cd_M_leftIn 14 [vR 12 0, v1, vU, vI (bs ((kL i).filter (fun j => decide (1 ≤ dgB 3 c j))) : Nat), vI (q : Int), vI (i : Int)] [] (hp D) = some (some (vI (lfM 3 (pc s) c : Int)), hp D) := by
      intro m
      induction m with
      | zero =>
        intro i q v1 hi hq
        have : i = pc s := by omega
        subst this
        rw [b_M_leftIn_14, hT.1, if_pos (by omega)]
        rfl
      | succ m ih =>
        intro i q v1 hi
        have a2 : i < 31 := by omega
        have a3 : i < 2147483647 := by omega
        have a4 : i + 1 + m = pc s := by omega
        have a5 : ¬ (pc s : Int) ≤ (i : Int) := by omega
        have hlt : bs ((kL i).filter (fun j => decide (1 ≤ dgB 3 c j))) < 2147483648 := bl_k (by omega)
        have h2 : 2 ^ i < 2147483648 := Nat.lt_trans (zb_p2 (k := 16) (by omega)) (by decide)
        intro hq
        have hdg : dgB 3 c i = q % 3 := by unfold dgB; rw [hq]
        have hq9 : q / 3 < 65536 := Nat.lt_of_le_of_lt (Nat.div_le_self _ _) (Nat.lt_of_le_of_lt (by rw [hq]; exact Nat.div_le_self _ _) hc9)
        have et : w32 (Int.tdiv (q : Int) 3) = ((c / 3 ^ (i + 1) : Nat) : Int) := by
          rw [td_3, zw_n hq9, hq, Nat.div_div_eq_div_mul, ← Nat.pow_succ]
        have em : w32 (Int.tmod (q : Int) 3) = ((q % 3 : Nat) : Int) := tm_eq (b := 3) (by decide) (by decide)
        rw [b_M_leftIn_14, hT.1, if_neg a5, em]
        have nx := ih (i + 1) (c / 3 ^ (i + 1)) vU a4 rfl
        rw [lf_st] at nx
        by_cases cd : q % 3 = 0
        · rw [if_neg (by rw [hdg, cd]; exact Nat.not_succ_le_zero 0)] at nx
          rw [if_pos (by rw [cd]; exact Int.le_refl 0), b_M_leftIn_39, show (0 : Int) = ((0 : Nat) : Int) from rfl, zb_or hlt (by decide), Nat.or_zero, zb_s a3, et]
          exact nx
        · rw [if_pos (by rw [hdg]; exact Nat.pos_of_ne_zero cd)] at nx
          rw [if_neg (Int.not_le.mpr (Int.natCast_pos.mpr (Nat.pos_of_ne_zero cd))), zb_sl a2, b_M_leftIn_39, zb_or hlt h2, zb_s a3, et]
          exact nx
    exact key (pc s) 0 c _ (by omega) (by rw [Nat.pow_zero, Nat.div_one])
/-- what is left when a load was carried -/
def woB (B n x c : Nat) : Nat := (kL n).foldl (fun c i => if x.testBit i = true then c - B ^ i else c) c
theorem wo_dg {B n x c : Nat} (hB : 2 ≤ B) (h : ∀ i, i < n → x.testBit i = true → 1 ≤ dgB B c i) : woB B n x c ≤ c ∧ ∀ i, dgB B (woB B n x c) i = if i < n ∧ x.testBit i = true then dgB B c i - 1 else dgB B c i := by
  have key : ∀ (m p c : Nat), p + m = n → (∀ i, p ≤ i → i < n → x.testBit i = true → 1 ≤ dgB B c i) → (List.range' p m).foldl (fun c i => if x.testBit i = true then c - B ^ i else c) c ≤ c ∧ ∀ i, dgB B ((List.range' p m).foldl (fun c i => if x.testBit i = true then c - B ^ i else c) c) i = if (p ≤ i ∧ i < n) ∧ x.testBit i = true then dgB B c i - 1 else dgB B c i := by
    intro m
    induction m with
    | zero =>
      intro p c hp9 _
      refine ⟨Nat.le_refl _, fun i => ?_⟩
      rw [if_neg (by omega)]
      rfl
    | succ m ih =>
      intro p c hp9 hx
      rw [List.range'_succ, List.foldl_cons]
      by_cases hb : x.testBit p = true
      · rw [if_pos hb]
        obtain ⟨d1, d2⟩ := dg_sub (j := p) hB (hx p (Nat.le_refl _) (by omega) hb)
        obtain ⟨g1, g2⟩ := ih (p + 1) (c - B ^ p) (by omega) (fun i h1 h2 h3 => by rw [d2, if_neg (by omega)]; exact hx i (by omega) h2 h3)
        refine ⟨by omega, fun i => ?_⟩
        rw [g2, d2]
        by_cases e : i = p
        · subst e
          rw [if_neg (by omega), if_pos rfl, if_pos ⟨⟨by omega, by omega⟩, hb⟩]
        · rw [if_neg e]
          by_cases c1 : (p + 1 ≤ i ∧ i < n) ∧ x.testBit i = true
          · rw [if_pos c1, if_pos ⟨⟨by omega, c1.1.2⟩, c1.2⟩]
          · rw [if_neg c1, if_neg (fun z => c1 ⟨⟨by omega, z.1.2⟩, z.2⟩)]
      · rw [if_neg hb]
        obtain ⟨g1, g2⟩ := ih (p + 1) c (by omega) (fun i h1 h2 h3 => hx i (by omega) h2 h3)
        refine ⟨g1, fun i => ?_⟩
        rw [g2]
        by_cases c1 : (p + 1 ≤ i ∧ i < n) ∧ x.testBit i = true
        · rw [if_pos c1, if_pos ⟨⟨by omega, c1.1.2⟩, c1.2⟩]
        · rw [if_neg c1, if_neg (fun z => c1 ⟨⟨?_, z.1.2⟩, z.2⟩)]
          have : i ≠ p := fun e => hb (e ▸ z.2)
          omega
  obtain ⟨g1, g2⟩ := key n 0 c (by omega) (fun i _ h2 h3 => h i h2 h3)
  refine ⟨g1, fun i => ?_⟩
  have := g2 i
  by_cases c1 : i < n ∧ x.testBit i = true
  · rw [if_pos ⟨⟨Nat.zero_le _, c1.1⟩, c1.2⟩] at this
    rw [if_pos c1]; exact this
  · rw [if_neg (fun z => c1 ⟨z.1.2, z.2⟩)] at this
    rw [if_neg c1]; exact this
theorem s_M_without {X : Nat × (Nat → Int)} {d : Nat} {D : DD} {s B c x : Nat} (hd : 1 ≤ d) (hB : 2 ≤ B) (hT : TH D s B) (hc : c < 65536) (hx9 : x < 65536) (h : ∀ i, i < pc s → x.testBit i = true → 1 ≤ dgB B c i) : ev X d m_M_without [vR 12 0, vI (c : Int), vI (x : Int)] (hp D) = some (some (vI (woB B (pc s) x c : Int)), hp D) := by
  obtain ⟨d, rfl⟩ : ∃ e, d = e + 1 := ⟨d - 1, by omega⟩
  have hpc := pc_le s
  have key : ∀ (m p c : Nat) (v1 : ab_V), p + m = pc s → c < 65536 → (∀ i, p ≤ i → i < pc s → x.testBit i = true → 1 ≤ dgB B c i) → at_ X d cd_M_without 5 [vR 12 0, v1, vI (x : Int), vI (c : Int), vI (p : Int)] [] (hp D) = some (some (vI ((List.range' p m).foldl (fun c i => if x.testBit i = true then c - B ^ i else c) c : Nat)), hp D) := by
    intro m
    induction m with
    | zero =>
      intro p c v1 hp9 hc9 _
      rw [b_M_without_5, hT.1, if_pos (by omega)]
      rfl
    | succ m ih =>
      intro p c v1 hp9 hc9 hx
      rw [List.range'_succ, List.foldl_cons, b_M_without_5, hT.1, if_neg (by omega), zb_bit (by omega) (by omega)]
      by_cases hb : x.testBit p = true
      · obtain ⟨d1, d2⟩ := dg_sub (j := p) hB (hx p (Nat.le_refl _) (by omega) hb)
        rw [if_pos hb, if_neg (by decide), if_pos (by omega), Int.toNat_natCast, (hT.2 p (by omega)).2, b_M_without_36, zb_w (by omega) (by omega), zb_s (by omega), show (c : Int) - ((B ^ p : Nat) : Int) = ((c - B ^ p : Nat) : Int) by omega, if_pos hb]
        exact ih (p + 1) (c - B ^ p) vU (by omega) (by omega) (fun i h1 h2 h3 => by rw [d2, if_neg (by omega)]; exact hx i (by omega) h2 h3)
      · rw [if_neg hb, if_pos (by decide), b_M_without_36, show (c : Int) - 0 = (c : Int) by omega, zb_w (by omega) (by omega), zb_s (by omega), if_neg hb]
        exact ih (p + 1) c vU (by omega) hc9 (fun i h1 h2 h3 => hx i (by omega) h2 h3)
  rw [e_M_without, b_M_without_0]
  exact key (pc s) 0 c _ (by omega) hc (fun i _ h2 h3 => h i h2 h3)
end
