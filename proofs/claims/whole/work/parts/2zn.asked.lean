/-! call: asked -/
section
/-- the least of the fewest: by how many, then by number -/
def aLe (a b : Nat) : Prop := pc a < pc b ∨ (pc a = pc b ∧ a ≤ b)
theorem aLe_anti {a b : Nat} (h1 : aLe a b) (h2 : aLe b a) : a = b := by
  unfold aLe at h1 h2
  omega
def akC (S : St) (due s : Nat) : Prop := nd due (hbU S (fun k => s.testBit k) (sW S).2.1.length) = 0
/-- the class's own way: from set on, m more -/
def akU (S : St) (due : Nat) : Nat → Nat → Nat → Nat
  | 0, _, best => best
  | m + 1, s, best => if pc s < pc best ∧ nd due (hbU S (fun k => s.testBit k) (sW S).2.1.length) = 0 then akU S due m (s + 1) s else akU S due m (s + 1) best
theorem akU_ok {S : St} {due all : Nat} (hall : all < 65536) (hsub : ∀ s, s < all → pc s < pc all) : ∀ (m s best : Nat), s + m = all → akC S due best → (best = all ∨ best < s) → best ≤ all → (∀ s', s' < s → akC S due s' → aLe best s') → akC S due (akU S due m s best) ∧ akU S due m s best ≤ all ∧ ∀ s', s' < all → akC S due s' → aLe (akU S due m s best) s' := by
  intro m
  induction m with
  | zero =>
    intro s best hs h1 h2 h3 h4
    exact ⟨h1, h3, fun s' hs' => h4 s' (by omega)⟩
  | succ m ih =>
    intro s best hs h1 h2 h3 h4
    rw [akU]
    by_cases hc : pc s < pc best ∧ nd due (hbU S (fun k => s.testBit k) (sW S).2.1.length) = 0
    · rw [if_pos hc]
      refine ih (s + 1) s (by omega) hc.2 (Or.inr (by omega)) (by omega) fun s' hs' hc' => ?_
      by_cases e : s' = s
      · subst e; exact Or.inr ⟨rfl, Nat.le_refl _⟩
      · have := h4 s' (by omega) hc'
        unfold aLe at this ⊢
        omega
    · rw [if_neg hc]
      refine ih (s + 1) best (by omega) h1 (by omega) h3 fun s' hs' hc' => ?_
      by_cases e : s' = s
      · subst e
        have h5 : ¬ pc s' < pc best := fun z => hc ⟨z, hc'⟩
        unfold aLe
        rcases h2 with h2 | h2
        · have := hsub s' (by omega)
          rw [h2] at h5
          omega
        · omega
      · exact h4 s' (by omega) hc'
theorem hbU_bit {S : St} {p : Nat → Bool} {k i : Nat} : (hbU S p k).testBit i = true ↔ ∃ c, c < k ∧ p c = true ∧ (bs (cL (mnD S c))).testBit i = true := by
  induction k with
  | zero =>
    rw [hbU, Nat.zero_testBit]
    exact ⟨(fun h => by cases h), (fun ⟨c, h, _⟩ => by omega)⟩
  | succ k ih =>
    rw [hbU]
    by_cases hp9 : p k = true
    · rw [if_pos hp9, Nat.testBit_or, Bool.or_eq_true, ih]
      constructor
      · rintro (⟨c, h1, h2, h3⟩ | h)
        · exact ⟨c, by omega, h2, h3⟩
        · exact ⟨k, by omega, hp9, h⟩
      · rintro ⟨c, h1, h2, h3⟩
        by_cases e : c = k
        · subst e; exact Or.inr h3
        · exact Or.inl ⟨c, by omega, h2, h3⟩
    · rw [if_neg hp9, ih]
      constructor
      · rintro ⟨c, h1, h2, h3⟩
        exact ⟨c, by omega, h2, h3⟩
      · rintro ⟨c, h1, h2, h3⟩
        refine ⟨c, ?_, h2, h3⟩
        have : c ≠ k := fun e => hp9 (e ▸ h2)
        omega
theorem hbU_cong {S : St} {p q : Nat → Bool} {k : Nat} (h : ∀ c, c < k → p c = q c) : hbU S p k = hbU S q k := by
  induction k with
  | zero => rfl
  | succ k ih => rw [hbU, hbU, h k (by omega), ih fun c hc => h c (by omega)]
def f_asked (S : St) (x : Int) : Int × St := (if 0 ≤ x ∧ x < ((2 ^ (sW S).1 0 : Nat) : Int) then (akU S (x.toNat &&& hbU S (fun _ => true) (sW S).2.1.length) (2 ^ (sW S).2.1.length - 1) 0 (2 ^ (sW S).2.1.length - 1) : Int) else -3, S)
theorem all_bit {n k : Nat} (h : k < n) : (2 ^ n - 1).testBit k = true := by
  rw [Nat.testBit_two_pow_sub_one]
  simpa using h
theorem pc_all {n : Nat} (hn : n ≤ 6) : ∀ s, s < 2 ^ n - 1 → pc s < pc (2 ^ n - 1) := by
  intro s hs
  have h1 : 2 ^ n ≤ 2 ^ 6 := p2le hn
  refine pc_lt (by omega) (fun i hi => ?_) (by omega)
  exact all_bit (bit_lt (show s < 2 ^ n by omega) hi)
/-- as s_C_heldBy, with bits looked at only below the number of men -/
theorem s_C_heldBy' {X : Nat × (Nat → Int)} {d : Nat} {D : DD} {S : St} {x : Int} {p : Nat → Bool} (hd : 1 ≤ d) (hS : SOK S) (hC : CH D S) (hx : ∀ t : Nat, t < (sW S).2.1.length → b_an (b_sr x (t : Int)) 1 = if p t = true then 1 else 0) : ev X d m_Company_heldBy [vR 2 0, vI x] (hp D) = some (some (vI (hbU S p (sW S).2.1.length : Int)), hp D) := by
  obtain ⟨d, rfl⟩ : ∃ e, d = e + 1 := ⟨d - 1, by omega⟩
  have h6 := hS.n6
  have key : ∀ (m k : Nat), k + m = (sW S).2.1.length → at_ X d cd_Company_heldBy 4 [vR 2 0, vI x, vI (hbU S p k : Int), vI (k : Int)] [] (hp D) = some (some (vI (hbU S p (sW S).2.1.length : Int)), hp D) := by
    intro m
    induction m with
    | zero =>
      intro k hk
      rw [b_Company_heldBy_4, hC.n, if_pos (by omega), show k = (sW S).2.1.length by omega]
    | succ m ih =>
      intro k hk
      have hlt : k < (sW S).2.1.length := by omega
      have h7 := ih (k + 1) (by omega)
      have h8 := hbU_lt hS p (k := k) (by omega)
      have h9 := bs_31 (hS.oc hlt).2.2.1
      rw [hbU] at h7
      rw [b_Company_heldBy_4, hC.n, if_neg (by omega), hx k hlt]
      by_cases hb : p k = true
      · rw [if_pos hb] at h7
        rw [if_pos hb, if_neg (by decide), if_pos (by omega), Int.toNat_natCast, R46_0 (by omega)]
        simp only [ab_rf]
        rw [b_Company_heldBy_27, (hC.cc hlt).2.2.2.1, zb_or (by omega) (by omega), b_Company_heldBy_32, zb_s (by omega)]
        exact h7
      · rw [if_neg hb] at h7
        rw [if_neg hb, if_pos rfl, b_Company_heldBy_32, zb_s (by omega)]
        exact h7
  rw [e_Company_heldBy, b_Company_heldBy_0]
  exact key (sW S).2.1.length 0 (by omega)
theorem C_asked {X : Nat × (Nat → Int)} {d : Nat} {D : DD} {S : St} {x : Int} (hd : 8 ≤ d) (hS : SOK S) (hx : i32 x) (hC : CH D S) : cRes X d m_N_asked [vI x] D (f_asked S x) := by
  obtain ⟨d, rfl⟩ : ∃ e, d = e + 1 := ⟨d - 1, by omega⟩
  have h6 := hS.n6
  have h16 : 2 ^ (sW S).1 0 ≤ 2 ^ 16 := p2le hS.L.1.1
  have hA : 2 ^ (sW S).2.1.length ≤ 2 ^ 6 := p2le h6
  have hA0 : 0 < 2 ^ (sW S).2.1.length := Nat.pow_pos (by omega)
  unfold cRes f_asked
  rw [e_N_asked, b_N_asked_0, s_C_isSet (by omega) hS.L hC.l hx.1 hx.2]
  simp only [ab_ci]
  rw [b_N_asked_8]
  refine ⟨D, ?_, hC, fr.rf D⟩
  by_cases h1 : 0 ≤ x ∧ x < ((2 ^ (sW S).1 0 : Nat) : Int)
  · obtain ⟨w, rfl⟩ : ∃ t : Nat, x = (t : Int) := ⟨x.toNat, by omega⟩
    have hw : w < 65536 := by omega
    obtain ⟨d, rfl⟩ : ∃ e, d = e + 1 := ⟨d - 1, by omega⟩
    rw [setI_t h1, if_neg (by decide), if_pos h1, Int.toNat_natCast, e_Company_fewestHolding, b_Company_fewestHolding_0, hC.n, zb_sl (by omega)]
    have eA : w32 (((2 ^ (sW S).2.1.length : Nat) : Int) - 1) = ((2 ^ (sW S).2.1.length - 1 : Nat) : Int) := by
      generalize 2 ^ (sW S).2.1.length = v at hA hA0
      rw [zb_w (by omega) (by omega)]
      omega
    have hall : 2 ^ (sW S).2.1.length - 1 < 65536 := by omega
    rw [eA, s_C_heldBy' (p := fun _ => true) (by omega) hS hC (fun t ht => by rw [zb_bit (by omega) (by omega), all_bit ht])]
    simp only [ab_ci]
    have hH := hbU_lt hS (fun _ => true) (Nat.le_refl (sW S).2.1.length)
    have hdue : w &&& hbU S (fun _ => true) (sW S).2.1.length ≤ w := Nat.and_le_left
    rw [b_Company_fewestHolding_15, zb_an (by omega) (by omega)]
    generalize w &&& hbU S (fun _ => true) (sW S).2.1.length = due at hdue
    generalize 2 ^ (sW S).2.1.length - 1 = all at hall
    have key : ∀ (m s best : Nat) (v1 : ab_V), s + m = all → best ≤ all → at_ X d cd_Company_fewestHolding 23 [vR 2 0, v1, vI (all : Int), vI (due : Int), vI (best : Int), vI (s : Int)] [] (hp D) = some (some (vI (akU S due m s best : Int)), hp D) := by
      intro m
      induction m with
      | zero =>
        intro s best v1 hs hb
        rw [b_Company_fewestHolding_23, if_pos (by omega)]
        rfl
      | succ m ih =>
        intro s best v1 hs hb
        have hh := hbU_lt hS (fun k => s.testBit k) (Nat.le_refl (sW S).2.1.length)
        rw [b_Company_fewestHolding_23, if_neg (by omega), s_bitCount (by omega) (by omega)]
        simp only [ab_ci]
        rw [b_Company_fewestHolding_34, s_bitCount (by omega) (by omega)]
        simp only [ab_ci]
        rw [b_Company_fewestHolding_39, akU]
        by_cases c1 : pc s < pc best
        · rw [if_neg (by omega), s_C_heldBy' (p := fun k => s.testBit k) (by omega) hS hC (fun t ht => by rw [zb_bit (by omega) (by omega)])]
          simp only [ab_ci]
          rw [b_Company_fewestHolding_49, zb_nd (by omega) (by omega)]
          by_cases c2 : nd due (hbU S (fun k => s.testBit k) (sW S).2.1.length) = 0
          · rw [if_neg (by omega), if_pos (And.intro c1 c2), b_Company_fewestHolding_59, zb_s (by omega)]
            exact ih (s + 1) s vU (by omega) (by omega)
          · rw [if_pos (by omega), if_neg (fun z => c2 z.2), b_Company_fewestHolding_59, zb_s (by omega)]
            exact ih (s + 1) best vU (by omega) hb
        · rw [if_pos (by omega), if_neg (fun z => c1 z.1), b_Company_fewestHolding_59, zb_s (by omega)]
          exact ih (s + 1) best vU (by omega) hb
    have e := key all 0 all (vI (w : Int)) (by omega) (Nat.le_refl _)
    rw [show ((0 : Nat) : Int) = 0 from rfl] at e
    rw [e]
    simp only []
    rw [b_N_asked_19]
  · rw [setI_f h1, if_pos rfl, if_neg h1]
def akI (S : St) (due s : Nat) (o : Option Nat) : Prop := match o with
  | none => ∀ s', s' < s → ¬ akC S due s'
  | some b => akC S due b ∧ b < s ∧ ∀ s', s' < s → akC S due s' → aLe b s'
theorem M_asked {X : Nat × (Nat → Int)} {d : Nat} {D : DD} {S : St} {x : Int} (hd : 8 ≤ d) (hS : SOK S) (hM : MH D S) : mRes X d m_M_asked [vI x] D (f_asked S x) := by
  obtain ⟨d, rfl⟩ : ∃ e, d = e + 1 := ⟨d - 1, by omega⟩
  have h6 := hS.n6
  have h16 : 2 ^ (sW S).1 0 ≤ 2 ^ 16 := p2le hS.L.1.1
  have hA : 2 ^ (sW S).2.1.length ≤ 2 ^ 6 := p2le h6
  have hA0 : 0 < 2 ^ (sW S).2.1.length := Nat.pow_pos (by omega)
  have ok9 : ∀ e, e < (sW S).2.1.length → okl 9 (cL (mnD S e)) := fun e he => ⟨(hS.oc he).2.1, (hS.oc he).2.2.1, Nat.le_trans (hS.oc he).2.2.2 (hS.oc he).1.2.1⟩
  have hM := hM.th hS
  unfold mRes f_asked
  rw [e_M_asked, b_M_asked_0, s_M_isSet (by omega) hS.L hM.l]
  simp only [ab_ci]
  rw [b_M_asked_10]
  refine ⟨_, ?_, hM, th_mY D⟩
  by_cases h1 : 0 ≤ x ∧ x < ((2 ^ (sW S).1 0 : Nat) : Int)
  · obtain ⟨w, rfl⟩ : ∃ t : Nat, x = (t : Int) := ⟨x.toNat, by omega⟩
    have hw : w < 65536 := by omega
    rw [setI_t h1, if_pos (by decide), if_pos h1, Int.toNat_natCast]
    generalize u3 D 12 0 0 0 = D at hM ⊢
    have held : ∀ (m k : Nat), k + m = (sW S).2.1.length → at_ X d cd_M_asked 20 [vR 12 0, vI (w : Int), vI ((w &&& hbU S (fun _ => true) k : Nat) : Int), vI (k : Int), vU, vU, vU] [] (hp D) = at_ X d cd_M_asked 53 [vR 12 0, vU, vI ((w &&& hbU S (fun _ => true) (sW S).2.1.length : Nat) : Int), vI (-1), vI 0, vU, vU] [] (hp D) := by
      intro m
      induction m with
      | zero =>
        intro k hk
        rw [b_M_asked_20, hM.n, if_pos (by omega), show k = (sW S).2.1.length by omega]
      | succ m ih =>
        intro k hk
        have hlt : k < (sW S).2.1.length := by omega
        have h7 := ih (k + 1) (by omega)
        have h9 := bs_31 (hS.oc hlt).2.2.1
        have a1 : w &&& hbU S (fun _ => true) k ≤ w := Nat.and_le_left
        have a2 : bs (cL (mnD S k)) &&& w ≤ bs (cL (mnD S k)) := Nat.and_le_left
        rw [b_M_asked_20, hM.n, if_neg (by omega), s_M_bitsIn (by omega) (by omega) (hM.mc hlt) (ok9 k hlt)]
        simp only [ab_ci]
        rw [b_M_asked_38, zb_an (by omega) (by omega), zb_or (by omega) (by omega), zb_s (by omega)]
        have e : w &&& hbU S (fun _ => true) k ||| bs (cL (mnD S k)) &&& w = w &&& hbU S (fun _ => true) (k + 1) := by
          rw [hbU, if_pos rfl]
          apply Nat.eq_of_testBit_eq
          intro i
          rw [Nat.testBit_or, Nat.testBit_and, Nat.testBit_and, Nat.testBit_and, Nat.testBit_or]
          cases w.testBit i <;> cases (bs (cL (mnD S k))).testBit i <;> cases (hbU S (fun _ => true) k).testBit i <;> rfl
        rw [e]
        exact h7
    have e0 := held (sW S).2.1.length 0 (by omega)
    have ez : w &&& hbU S (fun _ => true) 0 = 0 := Nat.and_zero w
    rw [ez, show ((0 : Nat) : Int) = 0 from rfl] at e0
    refine Eq.trans e0 ?_
    have hdue0 : w &&& hbU S (fun _ => true) (sW S).2.1.length ≤ w := Nat.and_le_left
    have hcall : akC S (w &&& hbU S (fun _ => true) (sW S).2.1.length) (2 ^ (sW S).2.1.length - 1) := by
      unfold akC
      apply Nat.eq_of_testBit_eq
      intro i
      have ec : hbU S (fun k => (2 ^ (sW S).2.1.length - 1).testBit k) (sW S).2.1.length = hbU S (fun _ => true) (sW S).2.1.length := hbU_cong fun c hc => all_bit hc
      rw [Nat.zero_testBit, nd_bit, ec, Nat.testBit_and]
      cases (hbU S (fun _ => true) (sW S).2.1.length).testBit i <;> simp
    generalize w &&& hbU S (fun _ => true) (sW S).2.1.length = due at hdue0 hcall ⊢
    have its : ∀ (m c s : Nat) (l3 : Int), s < 65536 → c + m = (sW S).2.1.length → at_ X d cd_M_asked 74 [vR 12 0, vU, vI (due : Int), vI l3, vI (s : Int), vI (hbU S (fun k => s.testBit k) c : Int), vI (c : Int)] [] (hp D) = at_ X d cd_M_asked 74 [vR 12 0, vU, vI (due : Int), vI l3, vI (s : Int), vI (hbU S (fun k => s.testBit k) (sW S).2.1.length : Int), vI ((sW S).2.1.length : Int)] [] (hp D) := by
      intro m
      induction m with
      | zero =>
        intro c s l3 hs hc
        rw [show c = (sW S).2.1.length by omega]
      | succ m ih =>
        intro c s l3 hs hc
        have hlt : c < (sW S).2.1.length := by omega
        have h7 := ih (c + 1) s l3 hs (by omega)
        have h8 := hbU_lt hS (fun k => s.testBit k) (k := c) (by omega)
        have h9 := bs_31 (hS.oc hlt).2.2.1
        rw [hbU] at h7
        refine Eq.trans ?_ h7
        rw [b_M_asked_74, hM.n, if_neg (by omega), zb_bit (by omega) (by omega)]
        by_cases hb : s.testBit c = true
        · rw [if_pos hb, if_neg (by decide), if_pos hb, s_M_bitsIn (by omega) (by omega) (hM.mc hlt) (ok9 c hlt)]
          simp only [ab_ci]
          rw [b_M_asked_106, b_M_asked_110, zb_or (by omega) (by omega), zb_s (by omega)]
        · have e0 := zb_or (n := hbU S (fun k => s.testBit k) c) (m := 0) (by omega) (by omega)
          rw [Nat.or_zero, show ((0 : Nat) : Int) = 0 from rfl] at e0
          rw [if_neg hb, if_pos (by decide), if_neg hb, b_M_asked_110, e0, zb_s (by omega)]
    have run : ∀ (m s : Nat) (o : Option Nat), s + m = 2 ^ (sW S).2.1.length → akI S due s o → ∃ b : Nat, at_ X d cd_M_asked 53 [vR 12 0, vU, vI (due : Int), vI (goI o), vI (s : Int), vU, vU] [] (hp D) = some (some (vI (b : Int)), hp D) ∧ akC S due b ∧ b < 2 ^ (sW S).2.1.length ∧ ∀ s', s' < 2 ^ (sW S).2.1.length → akC S due s' → aLe b s' := by
      intro m
      induction m with
      | zero =>
        intro s o hs ho
        rw [b_M_asked_53, hM.n, zb_sl (by omega), if_pos (by omega)]
        cases o with
        | none => exact absurd hcall (ho _ (by omega))
        | some b =>
          obtain ⟨b1, b2, b3⟩ := ho
          exact ⟨b, rfl, b1, by omega, fun s' h1 h2 => b3 s' (by omega) h2⟩
      | succ m ih =>
        intro s o hs ho
        have hh := hbU_lt hS (fun k => s.testBit k) (Nat.le_refl (sW S).2.1.length)
        have e1 := its (sW S).2.1.length 0 s (goI o) (by omega) (by omega)
        rw [show ((hbU S (fun k => s.testBit k) 0 : Nat) : Int) = 0 from rfl, show ((0 : Nat) : Int) = 0 from rfl] at e1
        have nx : ∀ (l3 : Int) (v5 : ab_V), at_ X d cd_M_asked 151 [vR 12 0, vU, vI (due : Int), vI l3, vI (s : Int), v5, vU] [] (hp D) = at_ X d cd_M_asked 53 [vR 12 0, vU, vI (due : Int), vI l3, vI ((s + 1 : Nat) : Int), vU, vU] [] (hp D) := fun l3 v5 => by rw [b_M_asked_151, zb_s (by omega)]
        have keep : akI S due (s + 1) o → ∃ b : Nat, at_ X d cd_M_asked 53 [vR 12 0, vU, vI (due : Int), vI (goI o), vI ((s + 1 : Nat) : Int), vU, vU] [] (hp D) = some (some (vI (b : Int)), hp D) ∧ akC S due b ∧ b < 2 ^ (sW S).2.1.length ∧ ∀ s', s' < 2 ^ (sW S).2.1.length → akC S due s' → aLe b s' := fun z => ih (s + 1) o (by omega) z
        have take : (akC S due s ∧ ∀ s', s' < s + 1 → akC S due s' → aLe s s') → ∃ b : Nat, at_ X d cd_M_asked 53 [vR 12 0, vU, vI (due : Int), vI (s : Int), vI ((s + 1 : Nat) : Int), vU, vU] [] (hp D) = some (some (vI (b : Int)), hp D) ∧ akC S due b ∧ b < 2 ^ (sW S).2.1.length ∧ ∀ s', s' < 2 ^ (sW S).2.1.length → akC S due s' → aLe b s' := fun z => ih (s + 1) (some s) (by omega) ⟨z.1, by omega, z.2⟩
        rw [b_M_asked_53, hM.n, zb_sl (by omega), if_neg (by omega), e1, b_M_asked_74, hM.n, if_pos (by omega), zb_nd (by omega) (by omega)]
        by_cases hc : nd due (hbU S (fun k => s.testBit k) (sW S).2.1.length) = 0
        · rw [if_neg (by omega)]
          cases o with
          | none =>
            rw [if_pos (show goI none = -1 from rfl), b_M_asked_148, nx]
            refine take ⟨hc, fun s' h1 h2 => ?_⟩
            by_cases e : s' = s
            · subst e; exact Or.inr ⟨rfl, Nat.le_refl _⟩
            · exact absurd h2 (ho s' (by omega))
          | some b =>
            have hg : goI (some b) = (b : Int) := rfl
            obtain ⟨b1, b2, b3⟩ := ho
            rw [hg] at keep ⊢
            rw [if_neg (by omega), s_M_bitsOf (by omega) (by omega)]
            simp only [ab_ci]
            rw [b_M_asked_138, s_M_bitsOf (by omega) (by omega)]
            simp only [ab_ci]
            rw [b_M_asked_142]
            by_cases c2 : pc s < pc b
            · rw [if_pos (by omega), b_M_asked_148, nx]
              refine take ⟨hc, fun s' h1 h2 => ?_⟩
              by_cases e : s' = s
              · subst e; exact Or.inr ⟨rfl, Nat.le_refl _⟩
              · have := b3 s' (by omega) h2
                unfold aLe at this ⊢
                omega
            · rw [if_neg (by omega), nx]
              refine keep ⟨b1, by omega, fun s' h1 h2 => ?_⟩
              by_cases e : s' = s
              · subst e; unfold aLe; omega
              · exact b3 s' (by omega) h2
        · rw [if_pos (by omega), nx]
          refine keep ?_
          cases o with
          | none =>
            intro s' h1 h2
            by_cases e : s' = s
            · subst e; exact hc h2
            · exact ho s' (by omega) h2
          | some b =>
            obtain ⟨b1, b2, b3⟩ := ho
            refine ⟨b1, by omega, fun s' h1 h2 => ?_⟩
            by_cases e : s' = s
            · subst e; exact absurd h2 hc
            · exact b3 s' (by omega) h2
    obtain ⟨b, r1, r2, r3, r4⟩ := run (2 ^ (sW S).2.1.length) 0 none (by omega) (fun s' h => by omega)
    obtain ⟨q1, q2, q3⟩ := akU_ok (S := S) (due := due) (all := 2 ^ (sW S).2.1.length - 1) (by omega) (pc_all h6) (2 ^ (sW S).2.1.length - 1) 0 (2 ^ (sW S).2.1.length - 1) (by omega) hcall (Or.inl rfl) (Nat.le_refl _) (fun s' h => by omega)
    have hle : aLe (akU S due (2 ^ (sW S).2.1.length - 1) 0 (2 ^ (sW S).2.1.length - 1)) b := by
      by_cases e : b = 2 ^ (sW S).2.1.length - 1
      · by_cases e2 : akU S due (2 ^ (sW S).2.1.length - 1) 0 (2 ^ (sW S).2.1.length - 1) = 2 ^ (sW S).2.1.length - 1
        · rw [e2, e]; exact Or.inr ⟨rfl, Nat.le_refl _⟩
        · rw [e]; exact Or.inl (pc_all h6 _ (by omega))
      · exact q3 b (by omega) r2
    rw [aLe_anti hle (r4 _ (by omega) q1)]
    rw [show ((0 : Nat) : Int) = 0 from rfl] at r1
    exact r1
  · rw [setI_f h1, if_neg (by decide), if_neg h1]
end
