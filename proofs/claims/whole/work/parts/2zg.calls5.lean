/-! calls: breach, turned, broken, gaps -/
section
-- breach
def brV (L : Nat → Nat) : List Cr → Nat → Int
  | [], _ => -1
  | v :: r, c => match spO L (bs (cL v)) with
    | none => brV L r (c + 1)
    | some z => ((1000 * c + (20 * z.1 + z.2) : Nat) : Int)
def f_breach (S : St) : Int × St := (brV (sW S).1 (sW S).2.1 0, S)
theorem drop_mn {S : St} {c : Nat} (h : c < (sW S).2.1.length) : (sW S).2.1.drop c = mnD S c :: (sW S).2.1.drop (c + 1) := by
  rw [List.drop_eq_getElem_cons h]
  congr 1
  have := mnD_some h
  rw [List.getElem?_eq_getElem h] at this
  exact Option.some.inj this
theorem spI_none {o : Option (Nat × Nat)} : spI o = -1 ↔ o = none := by
  cases o with
  | none => exact ⟨fun _ => rfl, fun _ => rfl⟩
  | some z =>
    refine ⟨fun e => ?_, fun e => by cases e⟩
    have e : ((20 * z.1 + z.2 : Nat) : Int) = -1 := e
    omega
theorem spU_bd {L : Nat → Nat} {s : Nat} : ∀ (m t : Nat) (z : Nat × Nat), spU L s t m = some z → z.1 < t + m ∧ z.2 < L 0 := by
  intro m
  induction m with
  | zero => intro t z h; cases h
  | succ m ih =>
    intro t z h
    rw [spU] at h
    cases hq : spi L s t with
    | none =>
      rw [hq] at h
      obtain ⟨h1, h2⟩ := ih (t + 1) z h
      exact ⟨by omega, h2⟩
    | some u =>
      rw [hq] at h
      cases h
      unfold spi at hq
      split at hq
      · have := ff_some hq
        exact ⟨by show t < _; omega, by show u < _; omega⟩
      · cases hq
theorem C_breach {X : Nat × (Nat → Int)} {d : Nat} {D : DD} {S : St} (hd : 8 ≤ d) (hS : SOK S) (hC : CH D S) : cRes X d m_N_breach [] D (f_breach S) := by
  obtain ⟨d, rfl⟩ : ∃ e, d = e + 1 := ⟨d - 1, by omega⟩
  have h6 := hS.n6
  have h16 := hS.L.1.1
  have key : ∀ (m c : Nat), c + m = (sW S).2.1.length → at_ X d cd_N_breach 2 [vR 11 0, vI (c : Int), vU] [] (hp D) = some (some (vI (brV (sW S).1 ((sW S).2.1.drop c) c)), hp D) := by
    intro m
    induction m with
    | zero =>
      intro c hc
      rw [b_N_breach_2, hC.n, if_pos (by omega), List.drop_of_length_le (by omega)]
      rfl
    | succ m ih =>
      intro c hc
      have hlt : c < (sW S).2.1.length := by omega
      have hb := bs_31 (hS.oc hlt).2.2.1
      rw [b_N_breach_2, hC.n, if_neg (by omega), if_pos (by omega), Int.toNat_natCast, R46_0 (by omega)]
      simp only [ab_rf]
      rw [b_N_breach_26, (hC.cc hlt).2.2.2.1, s_C_secretPair (by omega) hS.L hC.l hb]
      simp only [ab_ci]
      rw [b_N_breach_32, drop_mn hlt, brV]
      cases hq : spO (sW S).1 (bs (cL (mnD S c))) with
      | none =>
        rw [if_pos (show spI none = -1 from rfl), zb_s (by omega)]
        exact ih (c + 1) (by omega)
      | some z =>
        obtain ⟨z1, z2⟩ := spU_bd _ _ z hq
        have e : spI (some z) = ((20 * z.1 + z.2 : Nat) : Int) := rfl
        rw [e, if_neg (by omega), zb_w (n := 1000 * (c : Int)) (by omega) (by omega), zb_w (by omega) (by omega)]
        congr 4
  unfold cRes f_breach
  rw [e_N_breach, b_N_breach_0]
  exact ⟨D, key (sW S).2.1.length 0 (by omega), hC, fr.rf D⟩
theorem M_breach {X : Nat × (Nat → Int)} {d : Nat} {D : DD} {S : St} (hd : 8 ≤ d) (hS : SOK S) (hM : MH D S) : mRes X d m_M_breach [] D (f_breach S) := by
  obtain ⟨d, rfl⟩ : ∃ e, d = e + 1 := ⟨d - 1, by omega⟩
  have h6 := hS.n6
  have h16 := hS.L.1.1
  have hM := hM.th hS
  unfold mRes f_breach
  rw [e_M_breach, b_M_breach_0]
  refine ⟨_, ?_, hM, th_mY D⟩
  generalize u3 D 12 0 0 0 = D at hM ⊢
  have hl := hM.l
  have inn : ∀ (c s a m b : Nat), c < 6 → s < 65536 → a < (sW S).1 0 → b + m = (sW S).1 0 → at_ X d cd_M_breach 42 [vR 12 0, vI (c : Int), vI (s : Int), vI (a : Int), vI (b : Int)] [] (hp D) = match (if s.testBit a = true then ff (fun u => ((sW S).1 (18 + a) &&& s).testBit u) b m else none) with
      | some w => some (some (vI ((1000 * c + (20 * a + w) : Nat) : Int)), hp D)
      | none => at_ X d cd_M_breach 27 [vR 12 0, vI (c : Int), vI (s : Int), vI ((a + 1 : Nat) : Int), vU] [] (hp D) := by
    intro c s a m
    induction m with
    | zero =>
      intro b hc hs ha hb
      have e : (if s.testBit a = true then ff (fun u => ((sW S).1 (18 + a) &&& s).testBit u) b 0 else none) = none := by split <;> rfl
      rw [b_M_breach_42, hl 0 (by omega), if_pos (by omega), zb_s (by omega), e]
    | succ m ih =>
      intro b hc hs ha hb
      have h5 := hS.L.s (t := a) (by omega)
      have h7 := ih (b + 1) hc hs ha (by omega)
      rw [b_M_breach_42, hl 0 (by omega), if_neg (by omega), zb_bit (by omega) (by omega), zb_bit (by omega) (by omega)]
      by_cases ba : s.testBit a = true
      · rw [if_pos ba] at h7 ⊢
        rw [if_neg (by omega), if_pos ba, ff]
        by_cases bb : s.testBit b = true
        · rw [if_pos bb, if_neg (by omega), zb_w (n := 18 + (a : Int)) (by omega) (by omega), if_pos (by omega), tn (n := 18 + a) (by omega), hl (18 + a) (by omega), zb_bit (by omega) (by omega)]
          by_cases bl : ((sW S).1 (18 + a)).testBit b = true
          · have e : ((sW S).1 (18 + a) &&& s).testBit b = true := by rw [Nat.testBit_and, bl, bb]; rfl
            rw [if_pos bl, if_neg (by omega), if_pos e, zb_w (n := 1000 * (c : Int)) (by omega) (by omega), zb_w (n := 20 * (a : Int)) (by omega) (by omega), zb_w (n := 1000 * (c : Int) + 20 * (a : Int)) (by omega) (by omega), zb_w (by omega) (by omega)]
            have e9 : 1000 * (c : Int) + 20 * (a : Int) + (b : Int) = ((1000 * c + (20 * a + b) : Nat) : Int) := by omega
            rw [e9]
          · have e : ¬ ((sW S).1 (18 + a) &&& s).testBit b = true := by rw [Nat.testBit_and]; simp [bl]
            rw [if_neg bl, if_pos (by omega), if_neg e, b_M_breach_104, zb_s (by omega)]
            exact h7
        · have e : ¬ ((sW S).1 (18 + a) &&& s).testBit b = true := by rw [Nat.testBit_and]; simp [bb]
          rw [if_neg bb, if_pos (by omega), if_neg e, b_M_breach_104, zb_s (by omega)]
          exact h7
      · rw [if_neg ba] at h7 ⊢
        rw [if_pos (by omega), if_neg ba, b_M_breach_104, zb_s (by omega)]
        exact h7
  have out : ∀ (c s m a : Nat), c < 6 → s < 65536 → a + m = (sW S).1 0 → at_ X d cd_M_breach 27 [vR 12 0, vI (c : Int), vI (s : Int), vI (a : Int), vU] [] (hp D) = match spU (sW S).1 s a m with
      | some z => some (some (vI ((1000 * c + (20 * z.1 + z.2) : Nat) : Int)), hp D)
      | none => at_ X d cd_M_breach 7 [vR 12 0, vI ((c + 1 : Nat) : Int), vU, vU, vU] [] (hp D) := by
    intro c s m
    induction m with
    | zero =>
      intro a hc hs ha
      rw [b_M_breach_27, hl 0 (by omega), if_pos (by omega), zb_s (by omega)]
      rfl
    | succ m ih =>
      intro a hc hs ha
      have h7 := inn c s a m (a + 1) hc hs (by omega) (by omega)
      rw [b_M_breach_27, hl 0 (by omega), if_neg (by omega), zb_s (by omega), h7, spU]
      unfold spi
      rw [show (sW S).1 0 - (a + 1) = m by omega]
      generalize (if s.testBit a = true then ff (fun u => ((sW S).1 (18 + a) &&& s).testBit u) (a + 1) m else none) = o
      cases o with
      | none => exact ih (a + 1) hc hs (by omega)
      | some w => rfl
  have key : ∀ (m c : Nat), c + m = (sW S).2.1.length → at_ X d cd_M_breach 7 [vR 12 0, vI (c : Int), vU, vU, vU] [] (hp D) = some (some (vI (brV (sW S).1 ((sW S).2.1.drop c) c)), hp D) := by
    intro m
    induction m with
    | zero =>
      intro c hc
      rw [b_M_breach_7, hM.n, if_pos (by omega), List.drop_of_length_le (by omega)]
      rfl
    | succ m ih =>
      intro c hc
      have hlt : c < (sW S).2.1.length := by omega
      have ok := hS.oc hlt
      have hb := bs_31 ok.2.2.1
      rw [b_M_breach_7, hM.n, if_neg (by omega), s_M_bitsIn (by omega) (by omega) (hM.mc hlt) ⟨ok.2.1, ok.2.2.1, Nat.le_trans ok.2.2.2 ok.1.2.1⟩]
      simp only [ab_ci]
      have h8 := out c _ ((sW S).1 0) 0 (by omega) hb (by omega)
      rw [show ((0 : Nat) : Int) = 0 from rfl] at h8
      rw [b_M_breach_24, h8, drop_mn hlt, brV]
      unfold spO
      cases hq : spU (sW S).1 (bs (cL (mnD S c))) 0 ((sW S).1 0) with
      | none => exact ih (c + 1) (by omega)
      | some z => rfl
  exact key (sW S).2.1.length 0 (by omega)
-- turned
def trB (lo : List Nat) (a b : Nat) : Nat := if ixI lo b ≠ -1 ∧ ixI lo b < ixI lo a then 1 else 0
def trI (l lo : List Nat) (k : Nat) : Nat → Nat → Nat
  | _, 0 => 0
  | j, m + 1 => trB lo (l.getD k 0) (l.getD j 0) + trI l lo k (j + 1) m
def trO (l lo : List Nat) : Nat → Nat → Nat
  | _, 0 => 0
  | k, m + 1 => trI l lo k (k + 1) m + trO l lo (k + 1) m
def f_turned (S : St) (x y : Int) : Int × St := (if (0 ≤ x ∧ x < ((sW S).2.1.length : Int)) ∧ 0 ≤ y ∧ y < ((sW S).2.1.length : Int) then (trO (cL (mnD S x.toNat)) (cL (mnD S y.toNat)) 0 (cL (mnD S x.toNat)).length : Int) else -2, S)
theorem trB_le (lo : List Nat) (a b : Nat) : trB lo a b ≤ 1 := by unfold trB; split <;> omega
theorem s_C_turned {X : Nat × (Nat → Int)} {d : Nat} {D : DD} {q i j : Nat} {v w : Cr} (hd : 4 ≤ d) (hv : okc v) (hw : okc w) (h : CC D i v) (g : CC D j w) : ev X d m_Company_turnedPairs [vR 2 q, vR 3 i, vR 3 j] (hp D) = some (some (vI (trO (cL v) (cL w) 0 (cL v).length : Int)), hp D) := by
  obtain ⟨d, rfl⟩ : ∃ e, d = e + 1 := ⟨d - 1, by omega⟩
  obtain ⟨h0, h1, h2, h3, h4, h5, h6⟩ := h
  obtain ⟨g0, g1, g2, g3, g4, g5, g6⟩ := g
  have o6 := hv.2.2.2
  have o2 := hv.1.2.1
  have p6 := hw.2.2.2
  have p2 := hw.1.2.1
  have inn : ∀ (m l a k : Nat), k < (cL v).length → l + m = (cL v).length → a ≤ 16 * k + l → at_ X d cd_Company_turnedPairs 32 [vU, vR 3 i, vR 3 j, vI (a : Int), vI (k : Int), vI (ixI (cL w) ((cL v).getD k 0)), vI (l : Int), vU] [] (hp D) = at_ X d cd_Company_turnedPairs 5 [vU, vR 3 i, vR 3 j, vI ((a + trI (cL v) (cL w) k l m : Nat) : Int), vI ((k + 1 : Nat) : Int), vU, vU, vU] [] (hp D) := by
    intro m
    induction m with
    | zero =>
      intro l a k hk hl ha
      rw [b_Company_turnedPairs_32, h2, if_pos (by omega), zb_s (by omega)]
      rfl
    | succ m ih =>
      intro l a k hk hl ha
      have hB := trB_le (cL w) ((cL v).getD k 0) ((cL v).getD l 0)
      have h7 := ih (l + 1) (a + trB (cL w) ((cL v).getD k 0) ((cL v).getD l 0)) k hk (by omega) (by omega)
      rw [b_Company_turnedPairs_32, h2, if_neg (by omega), s_C_thingAt (by omega) h4 hv.2.2.1 (by omega) (by omega)]
      simp only [ab_ci]
      rw [b_Company_turnedPairs_48, s_C_placeOf (by omega) g2 g4 hw.2.2.1 (by omega)]
      simp only [ab_ci]
      rw [b_Company_turnedPairs_51, trI, ← Nat.add_assoc]
      unfold trB at h7 ⊢
      by_cases c1 : ixI (cL w) ((cL v).getD l 0) = -1
      · rw [if_pos c1, b_Company_turnedPairs_69, zb_s (by omega)]
        rw [if_neg (show ¬ (ixI (cL w) ((cL v).getD l 0) ≠ -1 ∧ ixI (cL w) ((cL v).getD l 0) < ixI (cL w) ((cL v).getD k 0)) from fun z => z.1 c1)] at h7 ⊢
        exact h7
      · rw [if_neg c1]
        by_cases c2 : ixI (cL w) ((cL v).getD l 0) < ixI (cL w) ((cL v).getD k 0)
        · rw [if_neg (by omega), zb_s (by omega), b_Company_turnedPairs_69, zb_s (by omega)]
          rw [if_pos (And.intro c1 c2)] at h7 ⊢
          exact h7
        · rw [if_pos (by omega), b_Company_turnedPairs_69, zb_s (by omega)]
          rw [if_neg (show ¬ (ixI (cL w) ((cL v).getD l 0) ≠ -1 ∧ ixI (cL w) ((cL v).getD l 0) < ixI (cL w) ((cL v).getD k 0)) from fun z => c2 z.2)] at h7 ⊢
          exact h7
  have bd : ∀ (m l k : Nat), trI (cL v) (cL w) k l m ≤ m := by
    intro m
    induction m with
    | zero => intro l k; exact Nat.le_refl _
    | succ m ih =>
      intro l k
      have := ih (l + 1) k
      have := trB_le (cL w) ((cL v).getD k 0) ((cL v).getD l 0)
      rw [trI]; omega
  have out : ∀ (m k a : Nat) (v0 : ab_V), k + m = (cL v).length → a ≤ 16 * k → at_ X d cd_Company_turnedPairs 5 [v0, vR 3 i, vR 3 j, vI (a : Int), vI (k : Int), vU, vU, vU] [] (hp D) = some (some (vI ((a + trO (cL v) (cL w) k m : Nat) : Int)), hp D) := by
    intro m
    induction m with
    | zero =>
      intro k a v0 hk ha
      rw [b_Company_turnedPairs_5, h2, if_pos (by omega)]
      rfl
    | succ m ih =>
      intro k a v0 hk ha
      have := bd m (k + 1) k
      have h7 := inn m (k + 1) a k (by omega) (by omega) (by omega)
      rw [b_Company_turnedPairs_5, h2, if_neg (by omega), s_C_thingAt (by omega) h4 hv.2.2.1 (by omega) (by omega)]
      simp only [ab_ci]
      rw [b_Company_turnedPairs_21, s_C_placeOf (by omega) g2 g4 hw.2.2.1 (by omega)]
      simp only [ab_ci]
      rw [b_Company_turnedPairs_24, zb_s (by omega), h7, ih (k + 1) _ vU (by omega) (by omega), trO, Nat.add_assoc]
  rw [e_Company_turnedPairs, b_Company_turnedPairs_0]
  have := out (cL v).length 0 0 (vR 2 q) (by omega) (by omega)
  rw [Nat.zero_add] at this
  exact this
theorem C_turned {X : Nat × (Nat → Int)} {d : Nat} {D : DD} {S : St} {x y : Int} (hd : 8 ≤ d) (hS : SOK S) (hC : CH D S) : cRes X d m_N_turned [vI x, vI y] D (f_turned S x y) := by
  obtain ⟨d, rfl⟩ : ∃ e, d = e + 1 := ⟨d - 1, by omega⟩
  have h6 := hS.n6
  unfold cRes f_turned
  rw [e_N_turned, b_N_turned_0, s_C_isOne (by omega) hC.n]
  simp only [ab_ci]
  rw [b_N_turned_9]
  refine ⟨D, ?_, hC, fr.rf D⟩
  by_cases h1 : 0 ≤ x ∧ x < ((sW S).2.1.length : Int)
  · rw [isI_t h1, if_neg (by decide), s_C_isOne (by omega) hC.n]
    simp only [ab_ci]
    rw [b_N_turned_21]
    by_cases h2 : 0 ≤ y ∧ y < ((sW S).2.1.length : Int)
    · obtain ⟨c, rfl⟩ : ∃ t : Nat, x = (t : Int) := ⟨x.toNat, by omega⟩
      obtain ⟨e, rfl⟩ : ∃ t : Nat, y = (t : Int) := ⟨y.toNat, by omega⟩
      have hc : c < (sW S).2.1.length := by omega
      have he : e < (sW S).2.1.length := by omega
      rw [isI_t h2, if_pos (by decide), if_pos (by omega), Int.toNat_natCast, R46_0 (by omega), if_pos (And.intro h1 h2)]
      simp only [ab_rf]
      rw [b_N_turned_40, if_pos (by omega), Int.toNat_natCast, R46_0 (by omega)]
      simp only [ab_rf]
      rw [b_N_turned_49, s_C_turned (by omega) (hS.oc hc) (hS.oc he) (hC.cc hc) (hC.cc he)]
      simp only [ab_ci]
      rw [b_N_turned_52]
    · rw [isI_f h2, if_neg (by decide), if_neg (fun z => h2 z.2)]
  · rw [isI_f h1, if_pos rfl, if_neg (fun z => h1 z.1)]
theorem ixI_lb (l : List Nat) (t : Nat) : -1 ≤ ixI l t := by unfold ixI; split <;> omega
theorem M_turned {X : Nat × (Nat → Int)} {d : Nat} {D : DD} {S : St} {x y : Int} (hd : 8 ≤ d) (hS : SOK S) (hM : MH D S) : mRes X d m_M_turned [vI x, vI y] D (f_turned S x y) := by
  obtain ⟨d, rfl⟩ : ∃ e, d = e + 1 := ⟨d - 1, by omega⟩
  have h6 := hS.n6
  have hM := hM.th hS
  unfold mRes f_turned
  rw [e_M_turned, b_M_turned_0, s_M_isMan (by omega) hM.n h6]
  simp only [ab_ci]
  rw [b_M_turned_11]
  refine ⟨_, ?_, hM, th_mY D⟩
  by_cases h1 : 0 ≤ x ∧ x < ((sW S).2.1.length : Int)
  · rw [isI_t h1, if_neg (by decide), s_M_isMan (by omega) hM.n h6]
    simp only [ab_ci]
    rw [b_M_turned_20]
    by_cases h2 : 0 ≤ y ∧ y < ((sW S).2.1.length : Int)
    · obtain ⟨c, rfl⟩ : ∃ t : Nat, x = (t : Int) := ⟨x.toNat, by omega⟩
      obtain ⟨e, rfl⟩ : ∃ t : Nat, y = (t : Int) := ⟨y.toNat, by omega⟩
      have hc : c < (sW S).2.1.length := by omega
      have he : e < (sW S).2.1.length := by omega
      rw [isI_t h2, if_pos (by decide), if_pos (And.intro h1 h2), Int.toNat_natCast, Int.toNat_natCast]
      have hv := hS.oc hc
      have hw := hS.oc he
      have h := hM.mc hc
      have g := hM.mc he
      have c6 : c ≤ 6 := by omega
      have e6 : e ≤ 6 := by omega
      generalize u3 D 12 0 0 0 = D at h g ⊢
      generalize mnD S c = v at hv h ⊢
      generalize mnD S e = w at hw g ⊢
      have o6 := hv.2.2.2
      have o2 := hv.1.2.1
      have p6 := hw.2.2.2
      have p2 := hw.1.2.1
      have inn : ∀ (m l a k : Nat), k < (cL v).length → l + m = (cL v).length → a ≤ 16 * k + l → at_ X d cd_M_turned 47 [vR 12 0, vI (c : Int), vI (e : Int), vI (a : Int), vI (k : Int), vI (l : Int), vU, vU] [] (hp D) = at_ X d cd_M_turned 31 [vR 12 0, vI (c : Int), vI (e : Int), vI ((a + trI (cL v) (cL w) k l m : Nat) : Int), vI ((k + 1 : Nat) : Int), vU, vU, vU] [] (hp D) := by
        intro m
        induction m with
        | zero =>
          intro l a k hk hl ha
          rw [b_M_turned_47, s_M_many (by omega) c6 h]
          simp only [ab_ci]
          rw [b_M_turned_54, if_pos (by omega), zb_s (by omega)]
          rfl
        | succ m ih =>
          intro l a k hk hl ha
          have hB := trB_le (cL w) ((cL v).getD k 0) ((cL v).getD l 0)
          have h7 := ih (l + 1) (a + trB (cL w) ((cL v).getD k 0) ((cL v).getD l 0)) k hk (by omega) (by omega)
          rw [b_M_turned_47, s_M_many (by omega) c6 h]
          simp only [ab_ci]
          rw [b_M_turned_54, if_neg (by omega), s_M_thingAt (by omega) c6 h (by omega) (by omega)]
          simp only [ab_ci]
          rw [b_M_turned_66, s_M_placeOf (by omega) e6 g (by omega)]
          simp only [ab_ci]
          rw [b_M_turned_69, s_M_thingAt (by omega) c6 h (by omega) (by omega)]
          simp only [ab_ci]
          rw [b_M_turned_80, s_M_placeOf (by omega) e6 g (by omega)]
          simp only [ab_ci]
          rw [b_M_turned_83, trI, ← Nat.add_assoc, ← h7]
          have lb1 := ixI_lb (cL w) ((cL v).getD l 0)
          have lb2 := ixI_lb (cL w) ((cL v).getD k 0)
          unfold trB
          by_cases c1 : ixI (cL w) ((cL v).getD l 0) ≠ -1 ∧ ixI (cL w) ((cL v).getD l 0) < ixI (cL w) ((cL v).getD k 0)
          · rw [if_pos c1, if_neg (by omega), if_neg (by omega), if_neg (by omega), b_M_turned_110, zb_w (by omega) (by omega), zb_s (by omega)]
            rfl
          · rw [if_neg c1]
            have go : ∀ (v6 v7 : ab_V), at_ X d cd_M_turned 109 [vR 12 0, vI (c : Int), vI (e : Int), vI (a : Int), vI (k : Int), vI (l : Int), v6, v7] [vI (a : Int)] (hp D) = at_ X d cd_M_turned 47 [vR 12 0, vI (c : Int), vI (e : Int), vI ((a + 0 : Nat) : Int), vI (k : Int), vI ((l + 1 : Nat) : Int), vU, vU] [] (hp D) := by
              intro v6 v7
              rw [b_M_turned_109, b_M_turned_110, Int.add_zero, zb_w (by omega) (by omega), zb_s (by omega)]
              rfl
            by_cases d1 : ixI (cL w) ((cL v).getD k 0) = -1
            · rw [if_pos d1, go]
            · rw [if_neg d1]
              by_cases d2 : ixI (cL w) ((cL v).getD l 0) = -1
              · rw [if_pos d2, go]
              · rw [if_neg d2, if_pos (by omega), go]
      have bd : ∀ (m l k : Nat), trI (cL v) (cL w) k l m ≤ m := by
        intro m
        induction m with
        | zero => intro l k; exact Nat.le_refl _
        | succ m ih =>
          intro l k
          have := ih (l + 1) k
          have := trB_le (cL w) ((cL v).getD k 0) ((cL v).getD l 0)
          rw [trI]; omega
      have out : ∀ (m k a : Nat), k + m = (cL v).length → a ≤ 16 * k → at_ X d cd_M_turned 31 [vR 12 0, vI (c : Int), vI (e : Int), vI (a : Int), vI (k : Int), vU, vU, vU] [] (hp D) = some (some (vI ((a + trO (cL v) (cL w) k m : Nat) : Int)), hp D) := by
        intro m
        induction m with
        | zero =>
          intro k a hk ha
          rw [b_M_turned_31, s_M_many (by omega) c6 h]
          simp only [ab_ci]
          rw [b_M_turned_38, if_pos (by omega)]
          rfl
        | succ m ih =>
          intro k a hk ha
          have := bd m (k + 1) k
          have h7 := inn m (k + 1) a k (by omega) (by omega) (by omega)
          rw [b_M_turned_31, s_M_many (by omega) c6 h]
          simp only [ab_ci]
          rw [b_M_turned_38, if_neg (by omega), zb_s (by omega), h7, ih (k + 1) _ (by omega) (by omega), trO, Nat.add_assoc]
      have := out (cL v).length 0 0 (by omega) (by omega)
      rw [Nat.zero_add] at this
      exact this
    · rw [isI_f h2, if_neg (by decide), if_neg (fun z => h2 z.2)]
  · rw [isI_f h1, if_pos rfl, if_neg (fun z => h1 z.1)]
end
