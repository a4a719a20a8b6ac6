/-! men and loads: the reference's table, pure and its filling -/
section
def p3 (i : Nat) : Nat := 3 ^ i
theorem p3_s (i : Nat) : p3 (i + 1) = p3 i * 3 := by unfold p3; rw [Nat.pow_succ]
theorem p3_le {i : Nat} (h : i ≤ 16) : p3 i ≤ 43046721 := Nat.le_trans (Nat.pow_le_pow_right (by decide) h) (by decide)
theorem p3_pos (i : Nat) : 0 < p3 i := Nat.pow_pos (by decide)
noncomputable def mnQ (L : Nat → Nat) (e B s c : Nat) : Nat := mnC L e (mkS s (fun i => decide (dgB B c i = 1))) (mkS s (fun i => decide (dgB B c i = 2)))
theorem dj_D {s B c : Nat} : ∀ t, (mkS s (fun i => decide (dgB B c i = 1))).testBit t = true → (mkS s (fun i => decide (dgB B c i = 2))).testBit t = false := fun t h => by
  obtain ⟨i, i1, i2, i3⟩ := mkS_bit.mp h
  rw [← i3, mkS_at i1]
  have := of_decide_eq_true i2
  exact decide_eq_false (by omega)
theorem pc_D {s B c : Nat} (hs : s < 65536) (h : (B = 2) ∨ (B = 3 ∧ pc s ≤ 8)) : pc (mkS s (fun i => decide (dgB B c i = 1))) + 2 * pc (mkS s (fun i => decide (dgB B c i = 2))) ≤ 16 := by
  have hpm : ∀ P : Nat → Bool, pc (mkS s P) = (kL (pc s)).countP P := fun P => by
    unfold mkS
    rw [pc_bs, List.length_map, ← List.countP_eq_length_filter]
    · have hn : ((kL (pc s)).filter P).Nodup := List.Pairwise.filter _ (kL_nd _)
      have hinj : ∀ l : List Nat, l.Nodup → (∀ i ∈ l, i < pc s) → (l.map (fun i => (els s).getD i 0)).Nodup := by
        intro l
        induction l with
        | nil => intro _ _; exact List.nodup_nil
        | cons a l ih =>
          intro hn hm
          obtain ⟨n1, n2⟩ := List.nodup_cons.mp hn
          rw [List.map_cons]
          refine List.nodup_cons.mpr ⟨fun z => ?_, ih n2 fun i hi => hm i (List.mem_cons_of_mem _ hi)⟩
          obtain ⟨b, hb, e⟩ := List.mem_map.mp z
          have := getD_inj (els_nd s) b a (hm b (List.mem_cons_of_mem _ hb)) (hm a List.mem_cons_self) e
          exact n1 (this ▸ hb)
      exact hinj _ hn fun i hi => kL_mem.mp (List.mem_filter.mp hi).1
    · intro t ht
      obtain ⟨i, hi, e⟩ := List.mem_map.mp ht
      rw [← e]
      exact (th_mem hs (kL_mem.mp (List.mem_filter.mp hi).1)).1
  rw [hpm, hpm]
  have hpc := pc_le s
  rcases h with rfl | ⟨_, h8⟩
  · have : (kL (pc s)).countP (fun i => decide (dgB 2 c i = 2)) = 0 := cn_0 fun i _ => decide_eq_false (by unfold dgB; omega)
    have h2 : (kL (pc s)).countP (fun i => decide (dgB 2 c i = 1)) ≤ pc s := Nat.le_trans cn_len (Nat.le_of_eq (kL_len _))
    omega
  · have h1 := cn_split (kL (pc s)) (fun i => decide (dgB B c i = 1) || decide (dgB B c i = 2)) (fun i => decide (dgB B c i = 2))
    have h2 : (kL (pc s)).countP (fun i => decide (dgB B c i = 1) || decide (dgB B c i = 2)) ≤ pc s := Nat.le_trans cn_len (Nat.le_of_eq (kL_len _))
    have h3 : (kL (pc s)).countP (fun x => (decide (dgB B c x = 1) || decide (dgB B c x = 2)) && decide (dgB B c x = 2)) = (kL (pc s)).countP (fun i => decide (dgB B c i = 2)) := cn_eq fun i _ => by cases decide (dgB B c i = 1) <;> cases decide (dgB B c i = 2) <;> rfl
    have h4 : (kL (pc s)).countP (fun x => (decide (dgB B c x = 1) || decide (dgB B c x = 2)) && !decide (dgB B c x = 2)) = (kL (pc s)).countP (fun i => decide (dgB B c i = 1)) := cn_eq fun i _ => by
      by_cases a1 : dgB B c i = 1
      · rw [decide_eq_true a1, decide_eq_false (by omega : ¬ dgB B c i = 2)]; rfl
      · rw [decide_eq_false a1]; cases decide (dgB B c i = 2) <;> rfl
    omega
theorem mnD_ok {L : Nat → Nat} {e B s c : Nat} (hL : LOK L) (he : 1 ≤ e) (hs : s < 65536) (h : (B = 2) ∨ (B = 3 ∧ pc s ≤ 8)) : mnQ L e B s c ≤ 16 ∧ Cv L e (mnQ L e B s c) (mkS s (fun i => decide (dgB B c i = 1))) (mkS s (fun i => decide (dgB B c i = 2))) ∧ ∀ j, j < mnQ L e B s c → ¬ Cv L e j (mkS s (fun i => decide (dgB B c i = 1))) (mkS s (fun i => decide (dgB B c i = 2))) := mnC_ok hL he (mkS_lt hs _) (mkS_lt hs _) (pc_D hs h)
/-- what is due behind a load -/
theorem rest_D {s B c x : Nat} (hB : B = 2 ∨ B = 3) (h : ∀ i, i < pc s → x.testBit i = true → 1 ≤ dgB B c i) : mkS s (fun i => decide (dgB B (woB B (pc s) x c) i = 1)) = rO (mkS s (fun i => decide (dgB B c i = 1))) (mkS s (fun i => decide (dgB B c i = 2))) (mkS s x.testBit) ∧ mkS s (fun i => decide (dgB B (woB B (pc s) x c) i = 2)) = nd (mkS s (fun i => decide (dgB B c i = 2))) (mkS s x.testBit) := by
  have hB2 : 2 ≤ B := by omega
  obtain ⟨_, w2⟩ := wo_dg hB2 h
  have hdl : ∀ i, dgB B c i ≤ 2 := fun i => by
    have : dgB B c i < B := Nat.mod_lt _ (by omega)
    omega
  constructor
  · refine (mkS_ext (fun t ht => ?_) (fun i hi => ?_)).symm
    · rw [rO_bit, Bool.or_eq_true, Bool.and_eq_true, Bool.and_eq_true] at ht
      rcases ht with z | z
      · obtain ⟨i, i1, _, i3⟩ := mkS_bit.mp z.1
        exact ⟨i, i1, i3⟩
      · obtain ⟨i, i1, _, i3⟩ := mkS_bit.mp z.1
        exact ⟨i, i1, i3⟩
    · rw [rO_bit, mkS_at hi, mkS_at hi, mkS_at hi, w2]
      have h1 := hdl i
      have h2 := h i hi
      cases hx : x.testBit i with
      | false =>
        rw [if_neg (by intro z; cases z.2)]
        cases decide (dgB B c i = 1) <;> cases decide (dgB B c i = 2) <;> rfl
      | true =>
        have h3 := h2 hx
        rw [if_pos ⟨hi, rfl⟩]
        by_cases a1 : dgB B c i = 1
        · rw [decide_eq_true a1, decide_eq_false (by omega : ¬ dgB B c i = 2), decide_eq_false (by omega : ¬ dgB B c i - 1 = 1)]; rfl
        · rw [decide_eq_false a1, decide_eq_true (by omega : dgB B c i = 2), decide_eq_true (by omega : dgB B c i - 1 = 1)]; rfl
  · refine (mkS_ext (fun t ht => ?_) (fun i hi => ?_)).symm
    · rw [nd_bit, Bool.and_eq_true] at ht
      obtain ⟨i, i1, _, i3⟩ := mkS_bit.mp ht.1
      exact ⟨i, i1, i3⟩
    · rw [nd_bit, mkS_at hi, mkS_at hi, w2]
      have h1 := hdl i
      have h2 := h i hi
      cases hx : x.testBit i with
      | false =>
        rw [if_neg (by intro z; cases z.2)]
        cases decide (dgB B c i = 2) <;> rfl
      | true =>
        rw [if_pos ⟨hi, rfl⟩, decide_eq_false (by omega : ¬ dgB B c i - 1 = 2), Bool.not_true, Bool.and_false]
/-- a load for one that is due, as a dense set -/
theorem pick_D {L : Nat → Nat} {e B s c m i0 : Nat} (hB : B = 2 ∨ B = 3) (hi : i0 < pc s) (h0 : 1 ≤ dgB B c i0) (hcv : Cv L e (m + 1) (mkS s (fun i => decide (dgB B c i = 1))) (mkS s (fun i => decide (dgB B c i = 2)))) : ∃ y, y < 2 ^ pc s ∧ y.testBit i0 = true ∧ (∀ i, i < pc s → y.testBit i = true → 1 ≤ dgB B c i) ∧ Ld L e (mkS s y.testBit) ∧ Cv L e m (mkS s (fun i => decide (dgB B (woB B (pc s) y c) i = 1))) (mkS s (fun i => decide (dgB B (woB B (pc s) y c) i = 2))) := by
  have hdl : ∀ i, dgB B c i ≤ 2 := fun i => by
    have : dgB B c i < B := Nat.mod_lt _ (by omega)
    omega
  have hd0 := hdl i0
  obtain ⟨x, x1, x2, x3⟩ := Cv_pick (t := (els s).getD i0 0) hcv (by
    rw [mkS_at hi, mkS_at hi, decide_eq_true_iff, decide_eq_true_iff]; omega)
  have hyb : ∀ i, (bs ((kL (pc s)).filter (fun i => x.testBit ((els s).getD i 0) && decide (1 ≤ dgB B c i)))).testBit i = true ↔ i < pc s ∧ x.testBit ((els s).getD i 0) = true ∧ 1 ≤ dgB B c i := fun i => by
    rw [bs_bit, decide_eq_true_iff, List.mem_filter, kL_mem, Bool.and_eq_true, decide_eq_true_iff]
  have hylt : bs ((kL (pc s)).filter (fun i => x.testBit ((els s).getD i 0) && decide (1 ≤ dgB B c i))) < 2 ^ pc s := bs_lt fun t ht => kL_mem.mp (List.mem_filter.mp ht).1
  generalize bs ((kL (pc s)).filter (fun i => x.testBit ((els s).getD i 0) && decide (1 ≤ dgB B c i))) = y at hyb hylt
  have hsub : ∀ t, (mkS s y.testBit).testBit t = true → x.testBit t = true := fun t ht => by
    obtain ⟨i, i1, i2, i3⟩ := mkS_bit.mp ht
    rw [← i3]
    exact ((hyb i).mp i2).2.1
  have hle : ∀ i, i < pc s → y.testBit i = true → 1 ≤ dgB B c i := fun i _ h => ((hyb i).mp h).2.2
  obtain ⟨r1, r2⟩ := rest_D hB hle
  refine ⟨y, hylt, (hyb i0).mpr ⟨hi, x2, h0⟩, hle, Ld_sub x1 hsub (Nat.lt_of_le_of_lt (Nat.le_of_eq rfl) ?_), ?_⟩
  · have : mkS s y.testBit &&& x = mkS s y.testBit := Nat.eq_of_testBit_eq fun t => by
      rw [Nat.testBit_and]
      cases h : (mkS s y.testBit).testBit t with
      | false => rfl
      | true => rw [hsub t h]; rfl
    rw [← this]
    exact Nat.lt_of_le_of_lt Nat.and_le_right x1.1
  · rw [r1, r2]
    have same : ∀ t, ((mkS s (fun i => decide (dgB B c i = 1))).testBit t = true ∨ (mkS s (fun i => decide (dgB B c i = 2))).testBit t = true) → (mkS s y.testBit).testBit t = x.testBit t := fun t ht => by
      have : ∃ i, i < pc s ∧ 1 ≤ dgB B c i ∧ (els s).getD i 0 = t := by
        rcases ht with z | z
        · obtain ⟨i, i1, i2, i3⟩ := mkS_bit.mp z
          exact ⟨i, i1, by have := of_decide_eq_true i2; omega, i3⟩
        · obtain ⟨i, i1, i2, i3⟩ := mkS_bit.mp z
          exact ⟨i, i1, by have := of_decide_eq_true i2; omega, i3⟩
      obtain ⟨i, i1, i2, i3⟩ := this
      rw [← i3, mkS_at i1]
      cases hx : x.testBit ((els s).getD i 0) with
      | true => exact (hyb i).mpr ⟨i1, hx, i2⟩
      | false =>
        cases hy : y.testBit i with
        | false => rfl
        | true => have := ((hyb i).mp hy).2.1; rw [hx] at this; cases this
    refine Cv_mono x3 (fun t z => ?_) (fun t z => Or.inl ?_)
    · rw [nd_bit, Bool.and_eq_true] at z
      rw [nd_bit, ← same t (Or.inr z.1), z.1, z.2]; rfl
    · rw [rO_bit, Bool.or_eq_true, Bool.and_eq_true, Bool.and_eq_true] at z
      rw [rO_bit]
      rcases z with z | z
      · rw [← same t (Or.inl z.1), z.1, z.2]; rfl
      · rw [← same t (Or.inr z.1), z.1, z.2]; exact Bool.or_true _
def hM : Nat → Nat → Nat → Prop := fun t i k => i = 0 ∧ ((t = 12 ∧ k = 27) ∨ (32 ≤ t ∧ t ≤ 35))
theorem hM_mX {t i k : Nat} (h : hM t i k) : mX t i k := by unfold hM at h; unfold mX; omega
theorem TH.on {D D' : DD} {s B : Nat} (h : TH D s B) (e1 : D' 12 0 27 = D 12 0 27) (e2 : ∀ t k, t = 33 ∨ t = 34 → D' t 0 k = D t 0 k) : TH D' s B := ⟨e1.trans h.1, fun i hi => ⟨(e2 33 i (Or.inl rfl)).trans (h.2 i hi).1, (e2 34 i (Or.inr rfl)).trans (h.2 i hi).2⟩⟩
/-- the first stage: the things, their weights -/
theorem s_M_lays1 {X : Nat × (Nat → Int)} {d : Nat} {D : DD} {L : Nat → Nat} {s B : Nat} {e dbl : Int} (hL : LOK L) (hl : LM D L) (hs : s < 2 ^ L 0) (hB : (dbl = 0 ∧ B = 2) ∨ (dbl ≠ 0 ∧ ∀ i, B ^ i = p3 i)) (hBp : ∀ i, 0 < B ^ i) (hB9 : ∀ i, i ≤ pc s → B ^ i ≤ 65536) : ∃ D', at_ X d cd_M_laysMen 0 [vR 12 0, vI (s : Int), vI e, vI dbl, vU, vU, vU, vU, vU, vU, vU, vU, vU, vU, vU] [] (hp D) = at_ X d cd_M_laysMen 119 [vR 12 0, vU, vI e, vI dbl, vI ((B ^ pc s - 1 : Nat) : Int), vU, vI 0, vU, vU, vU, vU, vU, vU, vU, vU] [] (hp D') ∧ TH D' s B ∧ fr hM D D' := by
  have h16 := hL.1.1
  have hp9 : 2 ^ L 0 ≤ 2 ^ 16 := p2le hL.1.1
  have hs9 : s < 65536 := by omega
  have hpc := pc_le s
  have key : ∀ (m t i : Nat) (D1 : DD), t + m = L 0 → i ≤ pc s → (∀ j, j < i → (els s).getD j 0 < t) → (∀ j, i ≤ j → j < pc s → t ≤ (els s).getD j 0) → D1 12 0 27 = (i : Int) → (∀ j, j < i → D1 33 0 j = ((els s).getD j 0 : Nat) ∧ D1 34 0 j = ((B ^ j : Nat) : Int)) → fr hM D D1 → ∃ D', at_ X d cd_M_laysMen 14 [vR 12 0, vI (s : Int), vI e, vI dbl, vI ((B ^ i - 1 : Nat) : Int), vI (p3 i : Int), vI (t : Int), vU, vU, vU, vU, vU, vU, vU, vU] [] (hp D1) = at_ X d cd_M_laysMen 119 [vR 12 0, vU, vI e, vI dbl, vI ((B ^ pc s - 1 : Nat) : Int), vU, vI 0, vU, vU, vU, vU, vU, vU, vU, vU] [] (hp D') ∧ TH D' s B ∧ fr hM D D' := by
    intro m
    induction m with
    | zero =>
      intro t i D1 ht hi h1 h2 h3 h4 hf
      have hl1 : D1 22 0 0 = (L 0 : Int) := (hf 22 0 0 (by unfold hM; omega)).trans (hl 0 (by omega))
      have ei : i = pc s := by
        apply Classical.byContradiction
        intro z
        have a1 := h2 i (Nat.le_refl _) (by omega)
        have a2 := bit_lt hs (th_mem hs9 (show i < pc s by omega)).2
        omega
      subst ei
      rw [b_M_laysMen_14, hl1, if_pos (by omega)]
      exact ⟨D1, rfl, ⟨h3, h4⟩, hf⟩
    | succ m ih =>
      intro t i D1 ht hi h1 h2 h3 h4 hf
      have hl1 : D1 22 0 0 = (L 0 : Int) := (hf 22 0 0 (by unfold hM; omega)).trans (hl 0 (by omega))
      rw [b_M_laysMen_14, hl1, if_neg (by omega), zb_bit (by omega) (by omega)]
      by_cases hb : s.testBit t = true
      · obtain ⟨j, j1, j2⟩ := mem_getD ((els_mem hs9).mpr hb)
        have j1 : j < pc s := j1
        have hij : i ≤ j := by
          apply Classical.byContradiction
          intro z
          have := h1 j (by omega)
          omega
        have eij : j = i := by
          apply Classical.byContradiction
          intro z
          have a1 := els_asc (s := s) i j (by omega) j1
          have a2 := h2 i (Nat.le_refl _) (by omega)
          omega
        subst eij
        have hpos := hBp j
        have hB1 := hB9 j (by omega)
        have hB2 := hB9 (j + 1) (by omega)
        have hp3 := p3_le (i := j + 1) (by omega)
        have hp4 := p3_le (i := j) (by omega)
        have hp5 := p3_pos j
        have hps := p3_s j
        rw [if_pos hb, if_pos (by decide), h3, if_pos (by omega), Int.toNat_natCast, u3_t (by omega), h3]
        have last : ∀ y : Int, y = ((B ^ j : Nat) : Int) → ∃ D', at_ X d cd_M_laysMen 71 [vR 12 0, vI (s : Int), vI e, vI dbl, vI ((B ^ j - 1 : Nat) : Int), vI (p3 j : Int), vI (t : Int), vU, vU, vU, vU, vU, vU, vU, vU] [vI y, vI (j : Int), vR 34 0] (hp (u3 D1 33 0 j (t : Int))) = at_ X d cd_M_laysMen 119 [vR 12 0, vU, vI e, vI dbl, vI ((B ^ pc s - 1 : Nat) : Int), vU, vI 0, vU, vU, vU, vU, vU, vU, vU, vU] [] (hp D') ∧ TH D' s B ∧ fr hM D D' := by
          intro y hy
          subst hy
          have nx := ih (t + 1) (j + 1) (u3 (u3 (u3 D1 33 0 j (t : Int)) 34 0 j ((B ^ j : Nat) : Int)) 12 0 27 ((j + 1 : Nat) : Int)) (by omega) (by omega) (fun k hk => by
              by_cases ek : k = j
              · rw [ek, j2]; omega
              · have := h1 k (by omega); omega) (fun k hk hk2 => by
              have := els_asc (s := s) j k (by omega) hk2
              omega) (by rw [u3_eq]) (fun k hk => by
              by_cases ek : k = j
              · subst ek
                refine ⟨?_, ?_⟩
                · rw [u3_t (show (33 : Nat) ≠ 12 by decide), u3_t (show (33 : Nat) ≠ 34 by decide), u3_eq, j2]
                · rw [u3_t (show (34 : Nat) ≠ 12 by decide), u3_eq]
              · refine ⟨?_, ?_⟩
                · rw [u3_t (show (33 : Nat) ≠ 12 by decide), u3_t (show (33 : Nat) ≠ 34 by decide), u3_k ek]
                  exact (h4 k (by omega)).1
                · rw [u3_t (show (34 : Nat) ≠ 12 by decide), u3_k ek, u3_t (show (34 : Nat) ≠ 33 by decide)]
                  exact (h4 k (by omega)).2) (((hf.u ⟨rfl, Or.inr ⟨by omega, by omega⟩⟩).u ⟨rfl, Or.inr ⟨by omega, by omega⟩⟩).u ⟨rfl, Or.inl ⟨rfl, rfl⟩⟩)
          rw [b_M_laysMen_71, if_pos (by omega), Int.toNat_natCast]
          have e27 : u3 (u3 D1 33 0 j (t : Int)) 34 0 j ((B ^ j : Nat) : Int) 12 0 27 = (j : Int) := by rw [u3_t (by omega), u3_t (by omega), h3]
          rcases hB with ⟨c0, rfl⟩ | ⟨c0, hb3⟩
          · rw [if_pos c0, e27, zb_sl (by omega), b_M_laysMen_91, e27, zb_s (by omega), b_M_laysMen_110, zb_s (by omega)]
            have e4 : w32 (((2 ^ j - 1 : Nat) : Int) + ((2 ^ j : Nat) : Int)) = ((2 ^ (j + 1) - 1 : Nat) : Int) := by
              have hsu : 2 ^ (j + 1) = 2 ^ j * 2 := Nat.pow_succ 2 j
              generalize 2 ^ (j + 1) = a at *
              generalize 2 ^ j = b at *
              rw [zb_w (by omega) (by omega)]
              omega
            have e5 : w32 ((p3 j : Int) * 3) = (p3 (j + 1) : Int) := by rw [zb_w (by omega) (by omega)]; omega
            rw [e4, e5]
            exact nx
          · rw [if_neg c0, b_M_laysMen_91, e27, zb_s (by omega), b_M_laysMen_110, zb_s (by omega)]
            have e4 : w32 (((B ^ j - 1 : Nat) : Int) + w32 (2 * (p3 j : Int))) = ((B ^ (j + 1) - 1 : Nat) : Int) := by
              rw [hb3 j, hb3 (j + 1)] at *
              rw [zb_w (n := 2 * (p3 j : Int)) (by omega) (by omega), zb_w (by omega) (by omega)]
              omega
            have e5 : w32 ((p3 j : Int) * 3) = (p3 (j + 1) : Int) := by rw [zb_w (by omega) (by omega)]; omega
            rw [e4, e5]
            exact nx
        rcases hB with ⟨c0, hb2⟩ | ⟨c0, hb3⟩
        · rw [if_pos c0, zb_sl (by omega)]
          exact last _ (by rw [hb2])
        · rw [if_neg c0]
          exact last _ (by rw [hb3])
      · rw [if_neg hb, if_neg (by decide), b_M_laysMen_110, zb_s (by omega)]
        refine ih (t + 1) i D1 (by omega) hi (fun j hj => by have := h1 j hj; omega) (fun j hj hj2 => ?_) h3 h4 hf
        have a1 := h2 j hj hj2
        have : (els s).getD j 0 ≠ t := fun z => hb (z ▸ (th_mem hs9 hj2).2)
        omega
  rw [b_M_laysMen_0]
  have := key (L 0) 0 0 (u3 D 12 0 27 0) (by omega) (Nat.zero_le _) (fun j hj => by omega) (fun j _ _ => Nat.zero_le _) (by rw [u3_eq]; rfl) (fun j hj => by omega) ((fr.rf D).u ⟨rfl, Or.inl ⟨rfl, rfl⟩⟩)
  rw [Nat.pow_zero] at this
  exact this
end
