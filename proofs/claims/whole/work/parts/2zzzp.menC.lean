/-! men and loads: the class's calls -/
section
noncomputable def mnF (L : Nat → Nat) (e o w : Nat) : Nat → Nat → Nat
  | 0, m => m
  | f + 1, m => if dcP (Cv L e m o w) = true then m else mnF L e o w f (m + 1)
noncomputable def mnC (L : Nat → Nat) (e o w : Nat) : Nat := mnF L e o w 16 0
theorem mnF_ok {L : Nat → Nat} {e o w : Nat} : ∀ (f m : Nat), (∀ j, j < m → ¬ Cv L e j o w) → mnF L e o w f m ≤ m + f ∧ (∀ j, j < mnF L e o w f m → ¬ Cv L e j o w) ∧ (mnF L e o w f m < m + f → Cv L e (mnF L e o w f m) o w) := by
  intro f
  induction f with
  | zero => exact fun m h => ⟨by rw [mnF]; omega, by rw [mnF]; exact h, by rw [mnF]; omega⟩
  | succ f ih =>
    intro m h
    rw [mnF]
    by_cases c : Cv L e m o w
    · rw [if_pos (dcP_iff.mpr c)]
      exact ⟨by omega, h, fun _ => c⟩
    · rw [if_neg (fun z => c (dcP_iff.mp z))]
      obtain ⟨g1, g2, g3⟩ := ih (m + 1) (fun j hj => by
        by_cases ej : j = m
        · rw [ej]; exact c
        · exact h j (by omega))
      exact ⟨by omega, g2, fun z => g3 (by omega)⟩
theorem Cv_16 {L : Nat → Nat} {e o w : Nat} (hL : LOK L) (he : 1 ≤ e) (ho : o < 65536) (hw : w < 65536) (h : pc o + 2 * pc w ≤ 16) : Cv L e 16 o w := by
  have h1 : Cv L e (pc o + (pc w + pc w)) o w := by
    have hl : ∀ x t, t < 16 → x = 2 ^ t → Ld L e x := fun x t ht hx => by
      subst hx
      refine ⟨zb_p2 (k := 16) ht, ?_, fun a b ha hb => ?_⟩
      · have : pc (0 ||| 2 ^ t) ≤ pc 0 + 1 := pc_or (by omega) ht
        rw [Nat.zero_or] at this
        have z0 : pc 0 = 0 := by decide
        omega
      · rw [Nat.testBit_two_pow, decide_eq_true_iff] at ha hb
        rw [← ha, ← hb]; exact hL.2.2.2.2.1 t ht
    refine ⟨(els o).map (fun t => 2 ^ t) ++ ((els w).map (fun t => 2 ^ t) ++ (els w).map (fun t => 2 ^ t)), ?_, fun x hx => ?_, fun t => ?_⟩
    · rw [List.length_append, List.length_append, List.length_map, List.length_map]; rfl
    · rcases List.mem_append.mp hx with z | z
      · obtain ⟨t, ht, rfl⟩ := List.mem_map.mp z
        exact hl _ t (els_lt ht) rfl
      · rcases List.mem_append.mp z with z | z
        · obtain ⟨t, ht, rfl⟩ := List.mem_map.mp z
          exact hl _ t (els_lt ht) rfl
        · obtain ⟨t, ht, rfl⟩ := List.mem_map.mp z
          exact hl _ t (els_lt ht) rfl
    · have hone : ∀ n, n < 65536 → n.testBit t = true → 1 ≤ ((els n).map (fun t => 2 ^ t)).countP (fun x => x.testBit t) := fun n hn ht => cn_pos (x := 2 ^ t) (List.mem_map.mpr ⟨t, (els_mem hn).mpr ht, rfl⟩) (by rw [Nat.testBit_two_pow]; exact decide_eq_true rfl)
      unfold ctB
      rw [List.countP_append, List.countP_append]
      refine ⟨fun z => ?_, fun z => ?_⟩
      · have := hone o ho z; omega
      · have := hone w hw z; omega
  have up : ∀ k, Cv L e (pc o + (pc w + pc w) + k) o w := by
    intro k
    induction k with
    | zero => exact h1
    | succ k ih => exact Cv_more (o' := 0) (w' := 0) ih
  have := up (16 - (pc o + (pc w + pc w)))
  rw [show pc o + (pc w + pc w) + (16 - (pc o + (pc w + pc w))) = 16 by omega] at this
  exact this
theorem mnC_ok {L : Nat → Nat} {e o w : Nat} (hL : LOK L) (he : 1 ≤ e) (ho : o < 65536) (hw : w < 65536) (h : pc o + 2 * pc w ≤ 16) : mnC L e o w ≤ 16 ∧ Cv L e (mnC L e o w) o w ∧ ∀ j, j < mnC L e o w → ¬ Cv L e j o w := by
  obtain ⟨g1, g2, g3⟩ := mnF_ok (L := L) (e := e) (o := o) (w := w) 16 0 (fun j hj => by omega)
  unfold mnC
  rw [Nat.zero_add] at g1 g3
  refine ⟨g1, ?_, g2⟩
  by_cases c : mnF L e o w 16 0 < 16
  · exact g3 c
  · rw [show mnF L e o w 16 0 = 16 by omega]
    exact Cv_16 hL he ho hw h
noncomputable def lsN (P : Nat → Prop) : Nat := Classical.epsilon (fun n => P n ∧ ∀ j, P j → n ≤ j)
theorem lsN_eq {P : Nat → Prop} {r : Nat} (h1 : P r) (h2 : ∀ j, P j → r ≤ j) : lsN P = r := by
  have h := Classical.epsilon_spec (p := fun n => P n ∧ ∀ j, P j → n ≤ j) ⟨r, h1, h2⟩
  have a1 := h.2 r h1
  have a2 := h2 _ h.1
  unfold lsN
  omega
theorem LX_ex {L : Nat → Nat} {e k o w : Nat} (h : Cv L e (k + 1) o w) : ∃ y, LX L e k o w y := by
  obtain ⟨x, x1, x2⟩ := Cv_cons.mp h
  have hb : ∀ t, (x &&& (o ||| w)).testBit t = (x.testBit t && (o.testBit t || w.testBit t)) := fun t => by rw [Nat.testBit_and, Nat.testBit_or]
  refine ⟨x &&& (o ||| w), Ld_sub x1 (fun t z => by rw [hb] at z; exact (Bool.and_eq_true_iff.mp z).1) (Nat.lt_of_le_of_lt Nat.and_le_left x1.1), fun t z => by rw [Nat.testBit_and] at z; exact (Bool.and_eq_true_iff.mp z).2, Cv_mono x2 (fun t z => ?_) (fun t z => Or.inl ?_)⟩
  · rw [nd_bit, hb] at z
    rw [nd_bit]
    cases hw' : w.testBit t <;> cases hx' : x.testBit t <;> simp [hw', hx'] at z ⊢
  · rw [rO_bit, hb] at z
    rw [rO_bit]
    cases hw' : w.testBit t <;> cases ho' : o.testBit t <;> cases hx' : x.testBit t <;> simp [hw', hx', ho'] at z ⊢
noncomputable def ldF (L : Nat → Nat) (e : Nat) : Nat → Nat → Nat → Nat → Nat
  | 0, o, w, k => lsN (LX L e (k - 1) o w)
  | r + 1, o, w, k => ldF L e r (rO o w (lsN (LX L e (k - 1) o w))) (nd w (lsN (LX L e (k - 1) o w))) (k - 1)
def kF : Nat → Nat → Nat → Prop := fun t i _ => (t = 1 ∨ t = 45) ∧ i = 0
theorem kF_cX {t i k : Nat} (h : kF t i k) : cX t i k := by unfold kF at h; unfold cX; omega
theorem s_C_fewest {X : Nat × (Nat → Int)} {d : Nat} {D : DD} {L : Nat → Nat} {e s : Nat} {dbl : Int} (hd : 50 ≤ d) (hL : LOK L) (hl : LC D 1 L) (he : 1 ≤ e) (he9 : e ≤ 9) (hs : s < 65536) : ∃ D', ev X d m_Carriers_fewest [vR 1 0, vR 5 1, vI (s : Int), vI (e : Int), vI dbl] (hp D) = some (some (vI (mnC L e (if dbl = 0 then s else 0) (if dbl = 0 then 0 else s) : Int)), hp D') ∧ KC D' L e ∧ D' 1 0 2 = ((if dbl = 0 then s else 0 : Nat) : Int) ∧ D' 1 0 3 = ((if dbl = 0 then 0 else s : Nat) : Int) ∧ fr kF D D' := by
  obtain ⟨d, rfl⟩ : ∃ e, d = e + 1 := ⟨d - 1, by omega⟩
  have loop : ∀ (o w : Nat) (D1 : DD), o < 65536 → w < 65536 → (∀ t, o.testBit t = true → w.testBit t = false) → KC D1 L e → D1 1 0 2 = (o : Int) → D1 1 0 3 = (w : Int) → at_ X d cd_Carriers_fewest 54 [vR 1 0, vU, vU, vU, vU, vI 0] [] (hp D1) = some (some (vI (mnC L e o w : Int)), hp D1) := by
    intro o w D1 ho hw dj hK k2 k3
    have key : ∀ (f m : Nat), m + f = 16 → at_ X d cd_Carriers_fewest 54 [vR 1 0, vU, vU, vU, vU, vI (m : Int)] [] (hp D1) = some (some (vI (mnF L e o w f m : Int)), hp D1) := by
      intro f
      induction f with
      | zero =>
        intro m hm
        rw [b_Carriers_fewest_54, if_pos (by omega), mnF, show m = 16 by omega]
        rfl
      | succ f ih =>
        intro m hm
        rw [b_Carriers_fewest_54, if_neg (by omega), k2, k3, mnF]
        rcases s_C_canCarry (X := X) (D := D1) hL hK he he9 m o w d (by omega) (by omega) ho hw dj with ⟨g1, g2⟩ | ⟨g1, g2⟩
        · rw [g2]
          simp only [ab_ci]
          rw [b_Carriers_fewest_75, if_neg (by decide), if_pos (dcP_iff.mpr g1)]
        · rw [g2]
          simp only [ab_ci]
          rw [b_Carriers_fewest_75, if_pos rfl, if_neg (fun z => g1 (dcP_iff.mp z)), zb_s (by omega)]
          exact ih (m + 1) (by omega)
    exact key 16 0 (by omega)
  rw [e_Carriers_fewest, b_Carriers_fewest_0]
  have f0 : fr kF D (u3 ((ab_cpy (hp D) 52 1 0 45 0 0 16).2.2) 1 0 1 (e : Int)) := fun t i k n => by
    unfold kF at n
    rw [u3_a, if_neg (by omega), cpy_a, if_neg (by omega)]
  have hK0 : KC (u3 ((ab_cpy (hp D) 52 1 0 45 0 0 16).2.2) 1 0 1 (e : Int)) L e := by
    refine ⟨fun t ht => ?_, by rw [u3_eq]⟩
    rw [u3_t (by omega), cpy_a, if_pos (by omega), tn (n := t) (by omega)]
    exact hl.2.2.1 t ht
  generalize u3 ((ab_cpy (hp D) 52 1 0 45 0 0 16).2.2) 1 0 1 (e : Int) = D0 at f0 hK0 ⊢
  have hKu : ∀ a b : Int, KC (u3 (u3 D0 1 0 2 a) 1 0 3 b) L e := fun a b => ⟨fun t ht => by rw [u3_t (by omega), u3_t (by omega)]; exact hK0.1 t ht, by rw [u3_k (by omega), u3_k (by omega)]; exact hK0.2⟩
  have fu : ∀ a b : Int, fr kF D (u3 (u3 D0 1 0 2 a) 1 0 3 b) := fun a b => (f0.u ⟨Or.inl rfl, rfl⟩).u ⟨Or.inl rfl, rfl⟩
  by_cases c : dbl = 0
  · rw [if_pos c, b_Carriers_fewest_34, if_pos c, b_Carriers_fewest_48, if_pos c, if_pos c]
    refine ⟨_, loop s 0 _ hs (by omega) (fun t _ => Nat.zero_testBit t) (hKu _ _) (by rw [u3_k (by omega), u3_eq]) (by rw [u3_eq]; rfl), hKu _ _, by rw [u3_k (by omega), u3_eq], by rw [u3_eq]; rfl, fu _ _⟩
  · rw [if_neg c, b_Carriers_fewest_34, if_neg c, b_Carriers_fewest_48, if_neg c, if_neg c]
    refine ⟨_, loop 0 s _ (by omega) hs (fun t h => by rw [Nat.zero_testBit] at h; cases h) (hKu _ _) (by rw [u3_k (by omega), u3_eq]; rfl) (by rw [u3_eq]), hKu _ _, by rw [u3_k (by omega), u3_eq]; rfl, by rw [u3_eq], fu _ _⟩
theorem s_C_loadOf {X : Nat × (Nat → Int)} {d : Nat} {D : DD} {L : Nat → Nat} {e a K o w : Nat} (hd : 60 ≤ d) (hL : LOK L) (he : 1 ≤ e) (he9 : e ≤ 9) (hK16 : K ≤ 16) (haK : a < K) (ho : o < 65536) (hw : w < 65536) (dj : ∀ t, o.testBit t = true → w.testBit t = false) (hK : KC D L e) (k2 : D 1 0 2 = (o : Int)) (k3 : D 1 0 3 = (w : Int)) (hcv : Cv L e K o w) : ∃ D', ev X d m_Carriers_loadOf [vR 1 0, vI (a : Int), vI (K : Int)] (hp D) = some (some (vI (ldF L e a o w K : Int)), hp D') ∧ fr kF D D' := by
  obtain ⟨d, rfl⟩ : ∃ e, d = e + 1 := ⟨d - 1, by omega⟩
  have key : ∀ (r m o w : Nat) (D1 : DD) (l3 : Int), m + r = a → o < 65536 → w < 65536 → (∀ t, o.testBit t = true → w.testBit t = false) → KC D1 L e → D1 1 0 2 = (o : Int) → D1 1 0 3 = (w : Int) → Cv L e (K - m) o w → fr kF D D1 → ∃ D', at_ X d cd_Carriers_loadOf 5 [vR 1 0, vI (a : Int), vI (K : Int), vI l3, vI (m : Int)] [] (hp D1) = some (some (vI (ldF L e r o w (K - m) : Int)), hp D') ∧ fr kF D D' := by
    intro r
    induction r with
    | zero =>
      intro m o w D1 l3 hm ho hw dj hK k2 k3 hcv hf
      rw [b_Carriers_loadOf_5, if_neg (by omega), if_neg (by omega), zb_w (n := (K : Int) - 1) (by omega) (by omega), zb_w (by omega) (by omega), show (K : Int) - 1 - (m : Int) = ((K - m - 1 : Nat) : Int) by omega]
      have g := s_C_least (X := X) (D := D1) hL hK he he9 ho hw dj (k := K - m - 1) (by omega) k2 k3 16 0 d (by omega) (by omega) ⟨by omega, Nat.le_trans (Nat.le_of_eq (show pc 0 = 0 by decide)) (Nat.zero_le _), fun t u h => by rw [Nat.zero_testBit] at h; cases h⟩ (fun u h => by rw [Nat.zero_testBit] at h; cases h) (fun u _ => Nat.zero_testBit u)
      have ex : ∀ y, LX L e (K - m - 1) o w y → exB 16 0 y := fun y hy u hu => by
        rw [Nat.zero_testBit]
        cases hx : y.testBit u with
        | false => rfl
        | true => have := bit16 hy.1.1 hx; omega
      rcases g with ⟨x, g1, g2, g3, g4⟩ | ⟨g1, _⟩
      · have g1 : ev X d m_Carriers_leastLoad [vR 1 0, vI 15, vI 0, vI ((K - m - 1 : Nat) : Int)] (hp D1) = _ := g1
        have hx := lsN_eq (P := LX L e (K - m - 1) o w) g2 (fun j hj => g4 j hj (ex j hj))
        have hx9 := g2.1.1
        rw [g1]
        simp only [ab_ci]
        rw [b_Carriers_loadOf_30, if_pos (by omega), b_Carriers_loadOf_69, zb_s (by omega), b_Carriers_loadOf_5, if_pos (by omega), ldF, hx]
        exact ⟨_, rfl, (hf.u ⟨Or.inl rfl, rfl⟩).u ⟨Or.inl rfl, rfl⟩⟩
      · obtain ⟨y, hy⟩ := LX_ex (k := K - m - 1) (by rw [show K - m - 1 + 1 = K - m by omega]; exact hcv)
        exact absurd (ex y hy) (g1 y hy)
    | succ r ih =>
      intro m o w D1 l3 hm ho hw dj hK k2 k3 hcv hf
      rw [b_Carriers_loadOf_5, if_neg (by omega), if_neg (by omega), zb_w (n := (K : Int) - 1) (by omega) (by omega), zb_w (by omega) (by omega), show (K : Int) - 1 - (m : Int) = ((K - m - 1 : Nat) : Int) by omega]
      have g := s_C_least (X := X) (D := D1) hL hK he he9 ho hw dj (k := K - m - 1) (by omega) k2 k3 16 0 d (by omega) (by omega) ⟨by omega, Nat.le_trans (Nat.le_of_eq (show pc 0 = 0 by decide)) (Nat.zero_le _), fun t u h => by rw [Nat.zero_testBit] at h; cases h⟩ (fun u h => by rw [Nat.zero_testBit] at h; cases h) (fun u _ => Nat.zero_testBit u)
      have ex : ∀ y, LX L e (K - m - 1) o w y → exB 16 0 y := fun y hy u hu => by
        rw [Nat.zero_testBit]
        cases hx : y.testBit u with
        | false => rfl
        | true => have := bit16 hy.1.1 hx; omega
      rcases g with ⟨x, g1, g2, g3, g4⟩ | ⟨g1, _⟩
      · have g1 : ev X d m_Carriers_leastLoad [vR 1 0, vI 15, vI 0, vI ((K - m - 1 : Nat) : Int)] (hp D1) = _ := g1
        have hx := lsN_eq (P := LX L e (K - m - 1) o w) g2 (fun j hj => g4 j hj (ex j hj))
        have hx9 := g2.1.1
        have h1 : nd o x < 65536 := nd_lt (k := 16) ho
        have h2 : w &&& x < 65536 := Nat.lt_of_le_of_lt Nat.and_le_left hw
        rw [g1]
        simp only [ab_ci]
        rw [b_Carriers_loadOf_30, if_pos (by omega), k2, k3, u3_k (by omega), k3, zb_nd (by omega) (by omega), zb_an (by omega) (by omega), zb_or (by omega) (by omega), zb_nd (by omega) (by omega), b_Carriers_loadOf_69, zb_s (by omega), ldF, hx]
        rw [show K - m - 1 = K - (m + 1) by omega] at g2 ⊢
        exact ih (m + 1) (rO o w x) (nd w x) _ _ (by omega) (rO_lt ho hw) (nd_lt (k := 16) hw) (fun t => by
          rw [rO_bit, nd_bit]
          have := dj t
          cases hx : x.testBit t <;> cases hy : o.testBit t <;> cases hz : w.testBit t <;> simp [hx, hy, hz] at this ⊢) ⟨fun t ht => by rw [u3_t (by omega), u3_t (by omega)]; exact hK.1 t ht, by rw [u3_k (by omega), u3_k (by omega)]; exact hK.2⟩ (by rw [u3_k (by omega), u3_eq]; rfl) (by rw [u3_eq]) g2.2.2 ((hf.u ⟨Or.inl rfl, rfl⟩).u ⟨Or.inl rfl, rfl⟩)
      · obtain ⟨y, hy⟩ := LX_ex (k := K - m - 1) (by rw [show K - m - 1 + 1 = K - m by omega]; exact hcv)
        exact absurd (ex y hy) (g1 y hy)
  rw [e_Carriers_loadOf, b_Carriers_loadOf_0]
  exact key a 0 o w D (-1) (by omega) ho hw dj hK k2 k3 hcv (fr.rf D)
def rfM (S : St) (set e dbl : Int) : Int := if 0 ≤ set ∧ set < ((2 ^ (sW S).1 0 : Nat) : Int) then (if 1 ≤ e ∧ e ≤ 9 then (if dbl = 0 then 0 else if pc set.toNat ≤ 8 then 0 else -4) else -3) else -3
noncomputable def mnS (S : St) (set e dbl : Int) : Nat := mnC (sW S).1 e.toNat (if dbl = 0 then set.toNat else 0) (if dbl = 0 then 0 else set.toNat)
noncomputable def f_men (S : St) (set e dbl : Int) : Int × St := (if rfM S set e dbl = 0 then (mnS S set e dbl : Int) else rfM S set e dbl, S)
noncomputable def f_load (S : St) (set e dbl man : Int) : Int × St := (if rfM S set e dbl = 0 then (if 0 ≤ man ∧ man < (mnS S set e dbl : Int) then (ldF (sW S).1 e.toNat man.toNat (if dbl = 0 then set.toNat else 0) (if dbl = 0 then 0 else set.toNat) (mnS S set e dbl) : Int) else -1) else rfM S set e dbl, S)
theorem rfM_0 {S : St} {set e dbl : Int} (h : rfM S set e dbl = 0) : (0 ≤ set ∧ set < ((2 ^ (sW S).1 0 : Nat) : Int)) ∧ (1 ≤ e ∧ e ≤ 9) ∧ (dbl ≠ 0 → pc set.toNat ≤ 8) := by
  unfold rfM at h
  by_cases c1 : 0 ≤ set ∧ set < ((2 ^ (sW S).1 0 : Nat) : Int)
  · rw [if_pos c1] at h
    by_cases c2 : 1 ≤ e ∧ e ≤ 9
    · rw [if_pos c2] at h
      refine ⟨c1, c2, fun z => ?_⟩
      rw [if_neg z] at h
      apply Classical.byContradiction
      intro y
      rw [if_neg y] at h
      omega
    · rw [if_neg c2] at h; omega
  · rw [if_neg c1] at h; omega
theorem mnS_ok {S : St} {set e dbl : Int} (hS : SOK S) (h : rfM S set e dbl = 0) : mnS S set e dbl ≤ 16 ∧ Cv (sW S).1 e.toNat (mnS S set e dbl) (if dbl = 0 then set.toNat else 0) (if dbl = 0 then 0 else set.toNat) ∧ (∀ j, j < mnS S set e dbl → ¬ Cv (sW S).1 e.toNat j (if dbl = 0 then set.toNat else 0) (if dbl = 0 then 0 else set.toNat)) ∧ (if dbl = 0 then set.toNat else 0) < 65536 ∧ (if dbl = 0 then 0 else set.toNat) < 65536 ∧ ∀ t, (if dbl = 0 then set.toNat else 0).testBit t = true → (if dbl = 0 then 0 else set.toNat).testBit t = false := by
  obtain ⟨h1, h2, h3⟩ := rfM_0 h
  have hp9 : 2 ^ (sW S).1 0 ≤ 2 ^ 16 := p2le hS.L.1.1
  have hs : set.toNat < 65536 := by omega
  have z0 : pc 0 = 0 := by decide
  have hpc := pc_le set.toNat
  unfold mnS
  by_cases c : dbl = 0
  · rw [if_pos c, if_pos c]
    obtain ⟨g1, g2, g3⟩ := mnC_ok (L := (sW S).1) (e := e.toNat) (o := set.toNat) (w := 0) hS.L (by omega) hs (by omega) (by omega)
    exact ⟨g1, g2, g3, hs, by omega, fun t _ => Nat.zero_testBit t⟩
  · rw [if_neg c, if_neg c]
    have := h3 c
    obtain ⟨g1, g2, g3⟩ := mnC_ok (L := (sW S).1) (e := e.toNat) (o := 0) (w := set.toNat) hS.L (by omega) (by omega) hs (by omega)
    exact ⟨g1, g2, g3, by omega, hs, fun t z => by rw [Nat.zero_testBit] at z; cases z⟩
theorem s_C_refusal {X : Nat × (Nat → Int)} {d : Nat} {D : DD} {S : St} {set e dbl : Int} (hd : 3 ≤ d) (hS : SOK S) (hx : i32 set) (hC : CH D S) : ev X d m_N_refusalOfMen [vR 11 0, vI set, vI e, vI dbl] (hp D) = some (some (vI (rfM S set e dbl)), hp D) := by
  obtain ⟨d, rfl⟩ : ∃ e, d = e + 1 := ⟨d - 1, by omega⟩
  have hp9 : 2 ^ (sW S).1 0 ≤ 2 ^ 16 := p2le hS.L.1.1
  unfold rfM
  rw [e_N_refusalOfMen, b_N_refusalOfMen_0, s_C_isSet (by omega) hS.L hC.l hx.1 hx.2]
  simp only [ab_ci]
  rw [b_N_refusalOfMen_8]
  by_cases hs : 0 ≤ set ∧ set < ((2 ^ (sW S).1 0 : Nat) : Int)
  · rw [setI_t hs, if_neg (by decide), if_pos hs, s_C_isSize (by omega)]
    simp only [ab_ci]
    rw [b_N_refusalOfMen_15]
    by_cases hn : 1 ≤ e ∧ e ≤ 9
    · rw [if_pos hn, if_pos (by decide), if_pos hn]
      by_cases hb : dbl = 0
      · rw [if_pos hb, if_pos hb]
      · obtain ⟨s, rfl⟩ : ∃ t : Nat, set = (t : Int) := ⟨set.toNat, by omega⟩
        rw [if_neg hb, if_neg hb, s_bitCount (by omega) (by omega), Int.toNat_natCast]
        simp only [ab_ci]
        rw [b_N_refusalOfMen_29]
        by_cases c8 : pc s ≤ 8
        · rw [if_pos (by omega), if_pos c8]
        · rw [if_neg (by omega), if_neg c8]
    · rw [if_neg hn, if_neg (by decide), if_neg hn]
  · rw [setI_f hs, if_pos rfl, if_neg hs]
theorem C_men {X : Nat × (Nat → Int)} {d : Nat} {D : DD} {S : St} {set e dbl : Int} (hd : 60 ≤ d) (hS : SOK S) (hx : i32 set) (hC : CH D S) : cRes X d m_N_men [vI set, vI e, vI dbl] D (f_men S set e dbl) := by
  obtain ⟨d, rfl⟩ : ∃ e, d = e + 1 := ⟨d - 1, by omega⟩
  unfold cRes f_men
  rw [e_N_men, b_N_men_0, s_C_refusal (by omega) hS hx hC]
  simp only [ab_ci]
  rw [b_N_men_7]
  by_cases c : rfM S set e dbl = 0
  · obtain ⟨h1, h2, h3⟩ := rfM_0 c
    have hp9 : 2 ^ (sW S).1 0 ≤ 2 ^ 16 := p2le hS.L.1.1
    obtain ⟨s, rfl⟩ : ∃ t : Nat, set = (t : Int) := ⟨set.toNat, by omega⟩
    obtain ⟨n, rfl⟩ : ∃ t : Nat, e = (t : Int) := ⟨e.toNat, by omega⟩
    obtain ⟨D1, a1, a2, a3, a4, a5⟩ := s_C_fewest (X := X) (d := d) (D := D) (e := n) (s := s) (dbl := dbl) (by omega) hS.L hC.l (by omega) (by omega) (by omega)
    rw [if_pos c, if_pos c, a1]
    simp only [ab_ci]
    rw [b_N_men_33]
    exact ⟨D1, rfl, hC.scr hS (a5.mo fun _ _ _ z => kF_cX z), a5.mo fun _ _ _ z => cX_cY (kF_cX z)⟩
  · rw [if_neg c, if_neg c, b_N_men_33]
    exact ⟨D, rfl, hC, fr.rf D⟩
theorem C_load {X : Nat × (Nat → Int)} {d : Nat} {D : DD} {S : St} {set e dbl man : Int} (hd : 70 ≤ d) (hS : SOK S) (hx : i32 set) (hC : CH D S) : cRes X d m_N_load [vI set, vI e, vI dbl, vI man] D (f_load S set e dbl man) := by
  obtain ⟨d, rfl⟩ : ∃ e, d = e + 1 := ⟨d - 1, by omega⟩
  unfold cRes f_load
  rw [e_N_load, b_N_load_0, s_C_refusal (by omega) hS hx hC]
  simp only [ab_ci]
  rw [b_N_load_7]
  by_cases c : rfM S set e dbl = 0
  · obtain ⟨h1, h2, h3⟩ := rfM_0 c
    have hp9 : 2 ^ (sW S).1 0 ≤ 2 ^ 16 := p2le hS.L.1.1
    have hok := mnS_ok hS c
    obtain ⟨s, rfl⟩ : ∃ t : Nat, set = (t : Int) := ⟨set.toNat, by omega⟩
    obtain ⟨n, rfl⟩ : ∃ t : Nat, e = (t : Int) := ⟨e.toNat, by omega⟩
    obtain ⟨D1, a1, a2, a3, a4, a5⟩ := s_C_fewest (X := X) (d := d) (D := D) (e := n) (s := s) (dbl := dbl) (by omega) hS.L hC.l (by omega) (by omega) (by omega)
    have a1 : _ = some (some (vI (mnS S (s : Int) (n : Int) dbl : Int)), hp D1) := a1
    rw [Int.toNat_natCast] at hok
    rw [if_pos c, if_pos c, a1]
    simp only [ab_ci]
    rw [b_N_load_31]
    generalize mnS S (s : Int) (n : Int) dbl = K at hok ⊢
    rw [Int.toNat_natCast] at hok
    obtain ⟨o1, o2, o3, o4, o5, o6⟩ := hok
    have hC1 : CH D1 S := hC.scr hS (a5.mo fun _ _ _ z => kF_cX z)
    by_cases m0 : man < 0
    · rw [if_pos m0, b_N_load_45, b_N_load_60, if_neg (by omega)]
      exact ⟨D1, rfl, hC1, a5.mo fun _ _ _ z => cX_cY (kF_cX z)⟩
    · rw [if_neg m0]
      by_cases m1 : man < (K : Int)
      · obtain ⟨a, rfl⟩ : ∃ t : Nat, man = (t : Int) := ⟨man.toNat, by omega⟩
        obtain ⟨D2, b1, b2⟩ := s_C_loadOf (X := X) (d := d) (D := D1) (a := a) (K := K) (by omega) hS.L (by omega) (by omega) o1 (by omega) o4 o5 o6 a2 a3 a4 o2
        rw [if_pos m1, b1, if_pos (show 0 ≤ (a : Int) ∧ (a : Int) < (K : Int) by omega), Int.toNat_natCast, Int.toNat_natCast, Int.toNat_natCast]
        simp only [ab_ci]
        rw [b_N_load_60]
        exact ⟨D2, rfl, hC1.scr hS (b2.mo fun _ _ _ z => kF_cX z), (a5.tr b2).mo fun _ _ _ z => cX_cY (kF_cX z)⟩
      · rw [if_neg m1, b_N_load_45, b_N_load_60, if_neg (by omega)]
        exact ⟨D1, rfl, hC1, a5.mo fun _ _ _ z => cX_cY (kF_cX z)⟩
  · rw [if_neg c, if_neg c]
    exact ⟨D, rfl, hC, fr.rf D⟩
end
