/-! seeds: both sides -/
section
def SD (D : DD) (n : Nat) (R : Nat → Nat) (w : Nat) : Prop := ∀ t, t < n → D 63 0 t = (R t : Int) ∧ D 64 0 t = (upN R (t + 1) : Int) ∧ D 65 0 t = (moN R w (t + 1) : Int)
theorem upN_lt {R : Nat → Nat} {n : Nat} (hR : ∀ t, t < n → R t < 65536) (k : Nat) (hk : k ≤ n) : upN R k < 65536 := by
  induction k with
  | zero => exact (by decide : (0 : Nat) < 65536)
  | succ k ih => exact Nat.or_lt_two_pow (n := 16) (ih (by omega)) (hR k (by omega))
theorem moN_le (R : Nat → Nat) (w k : Nat) : moN R w k ≤ 16 := by
  induction k with
  | zero => exact Nat.zero_le _
  | succ k ih =>
    rw [moN]
    have := pc_le (R k &&& w)
    split <;> omega
def sP : Nat → Nat → Nat → Prop := fun t i _ => i = 0 ∧ (t = 63 ∨ t = 64 ∨ t = 65)
theorem s_C_prepare {X : Nat × (Nat → Int)} {d : Nat} {D : DD} {q w : Nat} {L : Nat → Nat} (hd : 3 ≤ d) (hL : LOK L) (hl : LC D q L) (hw : w < 65536) (hR : ∀ t, t < L 0 → reL L t < 65536) : ∃ D', ev X d m_Seeds_prepare [vR 9 0, vR 5 q, vI (w : Int)] (hp D) = some (none, hp D') ∧ SD D' (L 0) (reL L) w ∧ fr sP D D' := by
  obtain ⟨d, rfl⟩ : ∃ e, d = e + 1 := ⟨d - 1, by omega⟩
  have h16 := hL.1.1
  have key : ∀ (m k : Nat) (D1 : DD), k + m = L 0 → fr sP D D1 → SD D1 k (reL L) w → ∃ D', at_ X d cd_Seeds_prepare 8 [vR 9 0, vR 5 q, vI (w : Int), vI (upN (reL L) k : Int), vI (moN (reL L) w k : Int), vI (k : Int)] [] (hp D1) = some (none, hp D') ∧ SD D' (L 0) (reL L) w ∧ fr sP D D' := by
    intro m
    induction m with
    | zero =>
      intro k D1 hk hf hs
      have hl1 : LC D1 q L := hl.on fun t j ht => hf t q j (by unfold sP; omega)
      have e : k = L 0 := by omega
      rw [b_Seeds_prepare_8, hl1.1.1, if_pos (by omega)]
      refine ⟨D1, rfl, ?_, hf⟩
      rw [← e]
      exact hs
    | succ m ih =>
      intro k D1 hk hf hs
      have hl1 : LC D1 q L := hl.on fun t j ht => hf t q j (by unfold sP; omega)
      have hp9 : 2 ^ k < 2 ^ 16 := zb_p2 (by omega)
      have hr := hR k (by omega)
      have hr2 : clo L (2 ^ k) < 65536 := hr
      have hup := upN_lt hR k (by omega)
      have han : reL L k &&& w < 65536 := Nat.lt_of_le_of_lt Nat.and_le_left hr
      have emax : (if (moN (reL L) w k : Int) < (pc (reL L k &&& w) : Int) then (pc (reL L k &&& w) : Int) else (moN (reL L) w k : Int)) = (moN (reL L) w (k + 1) : Int) := by
        rw [moN]
        by_cases e : moN (reL L) w k < pc (reL L k &&& w)
        · rw [if_pos (by omega), if_pos e]
        · rw [if_neg (by omega), if_neg e]
      rw [b_Seeds_prepare_8, hl1.1.1, if_neg (by omega), zb_sl (by omega), s_C_comeBack (by omega) hL hl1 (by omega)]
      simp only [ab_ci]
      rw [b_Seeds_prepare_31, if_pos (by omega), if_pos (by omega), if_pos (by omega), Int.toNat_natCast, u3_eq, zb_an (by omega) (by omega), s_bitCount (by omega) han]
      simp only [ab_ci]
      rw [b_Seeds_prepare_56, if_pos (by omega), if_pos (by omega), Int.toNat_natCast, zb_or (by omega) (by omega), emax, zb_s (by omega)]
      refine ih (k + 1) _ (by omega) (((hf.u ⟨rfl, Or.inl rfl⟩).u ⟨rfl, Or.inr (Or.inl rfl)⟩).u ⟨rfl, Or.inr (Or.inr rfl)⟩) fun t ht => ?_
      by_cases e : t = k
      · subst e
        refine ⟨?_, ?_, ?_⟩
        · rw [u3_t (by omega), u3_t (by omega), u3_eq]
        · rw [u3_t (by omega), u3_eq]; rfl
        · rw [u3_eq]
      · obtain ⟨c1, c2, c3⟩ := hs t (by omega)
        refine ⟨?_, ?_, ?_⟩
        · rw [u3_t (by omega), u3_t (by omega), u3_k e, c1]
        · rw [u3_t (by omega), u3_k e, u3_t (by omega), c2]
        · rw [u3_k e, u3_t (by omega), u3_t (by omega), c3]
  rw [e_Seeds_prepare, b_Seeds_prepare_0]
  exact key (L 0) 0 D (by omega) (fr.rf D) (fun t ht => by omega)
theorem sd_lt (R : Nat → Nat) (w : Nat) : ∀ (k m o s : Nat), sdL R w k m o = some s → s < 2 ^ k := by
  intro k
  induction k with
  | zero =>
    intro m o s h
    rw [sdL] at h
    split at h
    · cases h; exact Nat.one_pos
    · cases h
  | succ k ih =>
    intro m o s h
    have hpk : 2 ^ (k + 1) = 2 ^ k + 2 ^ k := by rw [Nat.pow_succ]; omega
    have hpp := Nat.two_pow_pos k
    rw [sdL] at h
    split at h
    · cases h; omega
    · split at h
      · cases h
      · split at h
        · cases h
        · split at h
          · rename_i s' q
            cases h
            have := ih _ _ _ q
            omega
          · split at h
            · rename_i s' q
              cases h
              have := ih _ _ _ q
              rw [or_add this]
              omega
            · cases h
theorem s_C_leastSet {X : Nat × (Nat → Int)} {D : DD} {n w : Nat} {R : Nat → Nat} (hn : n ≤ 16) (hR : ∀ t, t < n → R t < 65536) (hs : SD D n R w) : ∀ (k m o d : Nat), k ≤ n → m ≤ 16 → o < 65536 → k + 2 ≤ d → ev X d m_Seeds_leastSet [vR 9 0, vI ((k : Int) - 1), vI (m : Int), vI (o : Int)] (hp D) = some (some (vI (goI (sdL R w k m o))), hp D) := by
  intro k
  induction k with
  | zero =>
    intro m o d hk hm ho hd
    obtain ⟨d, rfl⟩ : ∃ e, d = e + 1 := ⟨d - 1, by omega⟩
    rw [e_Seeds_leastSet, b_Seeds_leastSet_0, sdL]
    by_cases e : o = 0
    · rw [if_neg (by omega), if_pos e]; rfl
    · rw [if_pos (by omega), if_pos (by omega), if_neg e]; rfl
  | succ k ih =>
    intro m o d hk hm ho hd
    obtain ⟨d, rfl⟩ : ∃ e, d = e + 1 := ⟨d - 1, by omega⟩
    obtain ⟨c1, c2, c3⟩ := hs k (by omega)
    have hup := upN_lt hR (k + 1) hk
    have hr := hR k (by omega)
    have ek : ((k + 1 : Nat) : Int) - 1 = (k : Int) := by omega
    rw [e_Seeds_leastSet, b_Seeds_leastSet_0, sdL, ek]
    by_cases e : o = 0
    · rw [if_neg (by omega), if_pos e]; rfl
    rw [if_pos (by omega), if_neg (by omega), if_pos (by omega), if_neg e, Int.toNat_natCast, c2, zb_nd (by omega) (by omega)]
    by_cases p1 : nd o (upN R (k + 1)) ≠ 0
    · rw [if_pos (by omega), if_pos p1]; rfl
    rw [if_neg (by omega), if_neg p1, s_bitCount (by omega) ho]
    simp only [ab_ci]
    have hmo := moN_le R w (k + 1)
    have hmul : m * moN R w (k + 1) ≤ 16 * 16 := Nat.mul_le_mul hm hmo
    rw [b_Seeds_leastSet_27, if_pos (by omega), Int.toNat_natCast, c3, ← Int.natCast_mul]
    have hm1 : 0 < m * moN R w (k + 1) → 1 ≤ m := fun h => Nat.pos_of_mul_pos_right h
    generalize m * moN R w (k + 1) = mm at hmul hm1 ⊢
    rw [zb_w (by omega) (by omega)]
    by_cases p2 : mm < pc o
    · rw [if_neg (by omega), if_pos p2]; rfl
    have hpo : 0 < pc o := by
      apply Nat.pos_of_ne_zero
      intro z
      have : els o = [] := List.eq_nil_of_length_eq_zero z
      have h0 := bs_els ho
      rw [this] at h0
      exact e h0.symm
    rw [if_pos (by omega), if_neg p2, zb_w (by omega) (by omega), ih m o d (by omega) hm ho (by omega)]
    simp only [ab_ci]
    rw [b_Seeds_leastSet_49]
    cases q : sdL R w k m o with
    | some s =>
      rw [show goI (some s) = (s : Int) from rfl, if_neg (by omega)]
    | none =>
      rw [show goI none = -1 from rfl, if_pos rfl, if_pos (by omega), Int.toNat_natCast, c1, zb_nd (by omega) (by omega), zb_w (n := (k : Int) - 1) (by omega) (by omega)]
      have h1 := hm1 (by omega)
      have em : w32 ((m : Int) - 1) = ((m - 1 : Nat) : Int) := by rw [zb_w (by omega) (by omega)]; omega
      rw [em, ih (m - 1) (nd o (R k)) d (by omega) (by omega) (nd_lt (k := 16) ho) (by omega)]
      simp only [ab_ci]
      rw [b_Seeds_leastSet_80]
      cases q2 : sdL R w k (m - 1) (nd o (R k)) with
      | none => rw [show goI none = -1 from rfl, if_neg (by omega)]
      | some s =>
        have hp9 : 2 ^ k < 2 ^ 16 := zb_p2 (by omega)
        have hs9 : s < 65536 := by
          have a := sd_lt R w k (m - 1) (nd o (R k)) s q2
          have := p2le (a := k) (b := 16) (by omega)
          omega
        rw [show goI (some s) = (s : Int) from rfl, if_pos (by omega), zb_sl (by omega), zb_or (by omega) (by omega)]
        rfl
theorem s_C_fewestFor {X : Nat × (Nat → Int)} {d : Nat} {D : DD} {q w : Nat} {L : Nat → Nat} (hd : 24 ≤ d) (hL : LOK L) (hl : LC D q L) (hw : w < 2 ^ L 0) (hR : ∀ t, t < L 0 → reL L t < 65536) : ∃ D', ev X d m_Seeds_fewestFor [vR 9 0, vR 5 q, vI (w : Int)] (hp D) = some (some (vI (sdU (L 0) (reL L) w (L 0) 0 : Int)), hp D') ∧ fr sP D D' := by
  obtain ⟨d, rfl⟩ : ∃ e, d = e + 1 := ⟨d - 1, by omega⟩
  have h16 := hL.1.1
  have hp9 : 2 ^ L 0 ≤ 2 ^ 16 := p2le h16
  obtain ⟨D1, a1, a2, a3⟩ := s_C_prepare (X := X) (d := d) (D := D) (q := q) (w := w) (by omega) hL hl (by omega) hR
  have hl1 : LC D1 q L := hl.on fun t j ht => a3 t q j (by unfold sP; omega)
  have key : ∀ (m many : Nat), many + m = L 0 → at_ X d cd_Seeds_fewestFor 8 [vR 9 0, vR 5 q, vI (w : Int), vI (many : Int), vU] [] (hp D1) = some (some (vI (sdU (L 0) (reL L) w m many : Int)), hp D1) := by
    intro m
    induction m with
    | zero =>
      intro many hm
      rw [b_Seeds_fewestFor_8, hl1.1.1, if_pos (by omega), s_C_allThings (by omega) hL hl1]
      simp only [ab_ci]
      rw [b_Seeds_fewestFor_49, sdU]
    | succ m ih =>
      intro many hm
      rw [b_Seeds_fewestFor_8, hl1.1.1, if_neg (by omega), zb_w (by omega) (by omega), s_C_leastSet h16 hR a2 (L 0) many w d (Nat.le_refl _) (by omega) (by omega) (by omega)]
      simp only [ab_ci]
      rw [b_Seeds_fewestFor_28, sdU]
      cases sdL (reL L) w (L 0) many w with
      | some s => rw [show goI (some s) = (s : Int) from rfl, if_neg (by omega)]
      | none =>
        rw [show goI none = -1 from rfl, if_pos rfl, zb_s (by omega)]
        exact ih (many + 1) (by omega)
  rw [e_Seeds_fewestFor, b_Seeds_fewestFor_0, a1]
  simp only [ab_cv]
  rw [b_Seeds_fewestFor_6]
  exact ⟨D1, key (L 0) 0 (by omega), a3⟩
theorem reL_lt {L : Nat → Nat} (hL : LOK L) : ∀ t, t < L 0 → reL L t < 65536 := by
  intro t ht
  have h1 := (clo_fix hL (s := 2 ^ t) (zb_p2 ht)).2
  have h2 : 2 ^ L 0 ≤ 2 ^ 16 := p2le hL.1.1
  show clo L (2 ^ t) < 65536
  omega
theorem sd_bst {L : Nat → Nat} (hL : LOK L) {w : Nat} (hw : w < 2 ^ L 0) : BST (L 0) (reL L) w (sdU (L 0) (reL L) w (L 0) 0) := sdU_ok hL.1.1 (reL_lt hL) hw (fun t => itS_self _ _ _ Nat.testBit_two_pow_self) (L 0) 0 (by omega) (fun s _ h => by omega)
def f_seeds (S : St) (x : Int) : Int × St := (if 0 ≤ x ∧ x < ((2 ^ (sW S).1 0 : Nat) : Int) then (sdU ((sW S).1 0) (reL (sW S).1) x.toNat ((sW S).1 0) 0 : Int) else -3, S)
theorem sP_cX {t i k : Nat} (h : sP t i k) : cX t i k := by unfold sP at h; unfold cX; omega
theorem C_seeds {X : Nat × (Nat → Int)} {d : Nat} {D : DD} {S : St} {x : Int} (hd : 32 ≤ d) (hS : SOK S) (hx : i32 x) (hC : CH D S) : cRes X d m_N_seeds [vI x] D (f_seeds S x) := by
  obtain ⟨d, rfl⟩ : ∃ e, d = e + 1 := ⟨d - 1, by omega⟩
  unfold cRes f_seeds
  rw [e_N_seeds, b_N_seeds_0, s_C_isSet (by omega) hS.L hC.l hx.1 hx.2]
  simp only [ab_ci]
  rw [b_N_seeds_8]
  by_cases h1 : 0 ≤ x ∧ x < ((2 ^ (sW S).1 0 : Nat) : Int)
  · obtain ⟨w, rfl⟩ : ∃ t : Nat, x = (t : Int) := ⟨x.toNat, by omega⟩
    obtain ⟨D1, a1, a2⟩ := s_C_fewestFor (X := X) (d := d) (D := D) (q := 1) (w := w) (by omega) hS.L hC.l (by omega) (reL_lt hS.L)
    rw [setI_t h1, if_neg (by decide), if_pos h1, a1]
    simp only [ab_ci]
    rw [b_N_seeds_23, Int.toNat_natCast]
    exact ⟨D1, rfl, hC.scr hS (a2.mo fun _ _ _ z => sP_cX z), a2.mo fun _ _ _ z => cX_cY (sP_cX z)⟩
  · rw [setI_f h1, if_pos rfl, if_neg h1]
    exact ⟨D, rfl, hC, fr.rf D⟩
theorem M_seeds {X : Nat × (Nat → Int)} {d : Nat} {D : DD} {S : St} {x : Int} (hd : 8 ≤ d) (hS : SOK S) (hM : MH D S) : mRes X d m_M_seeds [vI x] D (f_seeds S x) := by
  obtain ⟨d, rfl⟩ : ∃ e, d = e + 1 := ⟨d - 1, by omega⟩
  have hM := hM.th hS
  have h16 := hS.L.1.1
  have hp9 : 2 ^ (sW S).1 0 ≤ 2 ^ 16 := p2le h16
  unfold mRes f_seeds
  rw [e_M_seeds, b_M_seeds_0, s_M_isSet (by omega) hS.L hM.l]
  simp only [ab_ci]
  rw [b_M_seeds_10]
  refine ⟨_, ?_, hM, th_mY D⟩
  by_cases h1 : 0 ≤ x ∧ x < ((2 ^ (sW S).1 0 : Nat) : Int)
  · obtain ⟨w, rfl⟩ : ∃ t : Nat, x = (t : Int) := ⟨x.toNat, by omega⟩
    rw [setI_t h1, if_pos (by decide), if_pos h1, Int.toNat_natCast]
    generalize u3 D 12 0 0 0 = D0 at hM ⊢
    have e0 : D0 22 0 0 = ((sW S).1 0 : Int) := hM.l 0 (by omega)
    have hb := sd_bst hS.L (w := w) (by omega)
    have step : ∀ (best set : Nat), best < 2 ^ (sW S).1 0 → set < 2 ^ (sW S).1 0 → at_ X d cd_M_seeds 20 [vR 12 0, vI (w : Int), vI (best : Int), vI (set : Int), vU] [] (hp D0) = at_ X d cd_M_seeds 20 [vR 12 0, vI (w : Int), vI ((if (pc set < pc best ∨ (pc set = pc best ∧ set < best)) ∧ nd w (clo (sW S).1 set) = 0 then set else best : Nat) : Int), vI ((set + 1 : Nat) : Int), vU] [] (hp D0) := by
      intro best set hbest hset
      have hcl := (clo_fix hS.L hset).2
      rw [b_M_seeds_20, e0, zb_sl (by omega), if_neg (by omega), s_M_bitsOf (by omega) (by omega)]
      simp only [ab_ci]
      rw [b_M_seeds_36, s_M_bitsOf (by omega) (by omega)]
      simp only [ab_ci]
      rw [b_M_seeds_44]
      have skip : ∀ v4 : ab_V, ¬ ((pc set < pc best ∨ (pc set = pc best ∧ set < best)) ∧ nd w (clo (sW S).1 set) = 0) → at_ X d cd_M_seeds 78 [vR 12 0, vI (w : Int), vI (best : Int), vI (set : Int), v4] [] (hp D0) = at_ X d cd_M_seeds 20 [vR 12 0, vI (w : Int), vI ((if (pc set < pc best ∨ (pc set = pc best ∧ set < best)) ∧ nd w (clo (sW S).1 set) = 0 then set else best : Nat) : Int), vI ((set + 1 : Nat) : Int), vU] [] (hp D0) := by
        intro v4 hne
        rw [b_M_seeds_78, zb_s (by omega), if_neg hne]
      have go : ∀ v4 : ab_V, (pc set < pc best ∨ (pc set = pc best ∧ set < best)) → at_ X d cd_M_seeds 64 [vR 12 0, vI (w : Int), vI (best : Int), vI (set : Int), v4] [] (hp D0) = at_ X d cd_M_seeds 20 [vR 12 0, vI (w : Int), vI ((if (pc set < pc best ∨ (pc set = pc best ∧ set < best)) ∧ nd w (clo (sW S).1 set) = 0 then set else best : Nat) : Int), vI ((set + 1 : Nat) : Int), vU] [] (hp D0) := by
        intro v4 hlt
        rw [b_M_seeds_64, s_M_backOf (by omega) hS.L hM.l hset]
        simp only [ab_ci]
        rw [b_M_seeds_70, zb_nd (by omega) (by omega)]
        by_cases e : nd w (clo (sW S).1 set) = 0
        · rw [if_neg (by omega), b_M_seeds_78, zb_s (by omega), if_pos ⟨hlt, e⟩]
        · rw [if_pos (by omega)]
          exact skip vU fun z => e z.2
      by_cases c1 : pc best < pc set
      · rw [if_pos (by omega)]
        exact skip _ fun z => by omega
      · rw [if_neg (by omega), s_M_bitsOf (by omega) (by omega)]
        simp only [ab_ci]
        rw [b_M_seeds_53]
        by_cases c2 : pc set = pc best
        · rw [if_neg (by omega)]
          by_cases c3 : set < best
          · rw [if_pos (by omega)]
            exact go _ (Or.inr ⟨c2, c3⟩)
          · rw [if_neg (by omega)]
            exact skip _ fun z => by omega
        · rw [if_pos (by omega)]
          exact go _ (Or.inl (by omega))
    have key : ∀ (m set best : Nat), set + m = 2 ^ (sW S).1 0 → best < 2 ^ (sW S).1 0 → cov (reL (sW S).1) w best → (∀ s, s < set → cov (reL (sW S).1) w s → pc best < pc s ∨ (pc best = pc s ∧ best ≤ s)) → at_ X d cd_M_seeds 20 [vR 12 0, vI (w : Int), vI (best : Int), vI (set : Int), vU] [] (hp D0) = some (some (vI (sdU ((sW S).1 0) (reL (sW S).1) w ((sW S).1 0) 0 : Int)), hp D0) := by
      intro m
      induction m with
      | zero =>
        intro set best hm h1 h2 h3
        have : BST ((sW S).1 0) (reL (sW S).1) w best := ⟨⟨h1, h2⟩, fun s hs hc => h3 s (by omega) hc⟩
        rw [b_M_seeds_20, e0, zb_sl (by omega), if_pos (by omega), BST_u hb this]
      | succ m ih =>
        intro set best hm h1 h2 h3
        rw [step best set h1 (by omega)]
        by_cases e : (pc set < pc best ∨ (pc set = pc best ∧ set < best)) ∧ nd w (clo (sW S).1 set) = 0
        · rw [if_pos e]
          refine ih (set + 1) set (by omega) (by omega) (cov_clo.mp e.2) fun s hs hc => ?_
          by_cases e2 : s = set
          · subst e2; exact Or.inr ⟨rfl, Nat.le_refl _⟩
          · have := h3 s (by omega) hc
            have := e.1
            omega
        · rw [if_neg e]
          refine ih (set + 1) best (by omega) h1 h2 fun s hs hc => ?_
          by_cases e2 : s = set
          · subst e2
            have : ¬ (pc s < pc best ∨ (pc s = pc best ∧ s < best)) := fun z => e ⟨z, cov_clo.mpr hc⟩
            omega
          · exact h3 s (by omega) hc
    exact key (2 ^ (sW S).1 0) 0 w (by omega) (by omega) (fun i hi => ⟨i, hi, itS_self _ _ _ Nat.testBit_two_pow_self⟩) (fun s hs => by omega)
  · rw [setI_f h1, if_neg (by decide), if_neg h1]
end
