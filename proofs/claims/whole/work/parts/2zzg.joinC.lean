/-! joined: the class -/
section
theorem s_C_isSame {X : Nat × (Nat → Int)} {d : Nat} {D : DD} {S : St} {p q i n : Nat} (hd : 2 ≤ d) (hS : SOK S) (hC : CH D S) (hp9 : p < (sW S).2.2.length) (hq : q < (sW S).2.2.length) (h1 : i + n ≤ (pcD S p).length) (h2 : n ≤ (pcD S q).length) : ev X d m_Pieces_isSame [vR 6 0, vI (p : Int), vI (i : Int), vI (q : Int), vI (n : Int)] (hp D) = some (some (vI (bI (sam (pcD S p) i (pcD S q) n))), hp D) := by
  obtain ⟨d, rfl⟩ : ∃ e, d = e + 1 := ⟨d - 1, by omega⟩
  have h8 := (hS.op hp9).2.1
  have key : ∀ (m k : Nat), k + m = n → (∀ j, j < k → (pcD S p).getD (i + j) 0 = (pcD S q).getD j 0) → at_ X d cd_Pieces_isSame 3 [vR 6 0, vI (p : Int), vI (i : Int), vI (q : Int), vI (n : Int), vI (k : Int)] [] (hp D) = some (some (vI (bI (sam (pcD S p) i (pcD S q) n))), hp D) := by
    intro m
    induction m with
    | zero =>
      intro k hk hj
      rw [b_Pieces_isSame_3, if_pos (by omega), sam_iff.mpr fun j h => hj j (by omega)]
      rfl
    | succ m ih =>
      intro k hk hj
      have a := s_C_thingOf (X := X) (d := d) (D := D) (p := p) (k := i + k) (by omega) hS hC hp9 (by omega)
      rw [b_Pieces_isSame_3, if_neg (by omega), zb_w (by omega) (by omega), show (i : Int) + (k : Int) = ((i + k : Nat) : Int) by omega, a]
      simp only [ab_ci]
      rw [b_Pieces_isSame_19, s_C_thingOf (by omega) hS hC hq (by omega)]
      simp only [ab_ci]
      rw [b_Pieces_isSame_26]
      by_cases e : (pcD S p).getD (i + k) 0 = (pcD S q).getD k 0
      · rw [if_pos (by omega), zb_s (by omega)]
        refine ih (k + 1) (by omega) fun j hj' => ?_
        by_cases e2 : j = k
        · rw [e2]; exact e
        · exact hj j (by omega)
      · rw [if_neg (by omega), sam_f (k := k) (by omega) e]
        rfl
  rw [e_Pieces_isSame, b_Pieces_isSame_0]
  exact key n 0 (by omega) (fun j hj => by omega)
theorem s_C_isWithin {X : Nat × (Nat → Int)} {d : Nat} {D : DD} {S : St} {p : Nat} (hd : 4 ≤ d) (hS : SOK S) (hC : CH D S) (hp9 : p < (sW S).2.2.length) : ev X d m_Pieces_isWithinAnother [vR 6 0, vI (p : Int)] (hp D) = some (some (vI (bI (wiB (pcD S) (sW S).2.2.length p))), hp D) := by
  obtain ⟨d, rfl⟩ : ∃ e, d = e + 1 := ⟨d - 1, by omega⟩
  have h6 := hS.p6
  have o1 := (hS.op hp9).1
  have o8 := (hS.op hp9).2.1
  have key : ∀ (m q : Nat), q + m = (sW S).2.2.length → (∀ q', q' < q → ¬ (smB (pcD S) p q' = true ∧ inB (pcD S p) (pcD S q') = true)) → at_ X d cd_Pieces_isWithinAnother 2 [vR 6 0, vI (p : Int), vI (q : Int), vU, vU] [] (hp D) = some (some (vI (bI (wiB (pcD S) (sW S).2.2.length p))), hp D) := by
    intro m
    induction m with
    | zero =>
      intro q hq hno
      rw [b_Pieces_isWithinAnother_2, hC.pn, if_pos (by omega), wiB_f fun q' h => hno q' (by omega)]
      rfl
    | succ m ih =>
      intro q hq hno
      have hqn : q < (sW S).2.2.length := by omega
      have q8 := (hS.op hqn).2.1
      have nxt : ∀ (v3 v4 : ab_V), ¬ (smB (pcD S) p q = true ∧ inB (pcD S p) (pcD S q) = true) → at_ X d cd_Pieces_isWithinAnother 101 [vR 6 0, vI (p : Int), vI (q : Int), v3, v4] [] (hp D) = some (some (vI (bI (wiB (pcD S) (sW S).2.2.length p))), hp D) := by
        intro v3 v4 hn
        rw [b_Pieces_isWithinAnother_101, zb_s (by omega)]
        refine ih (q + 1) (by omega) fun q' h => ?_
        by_cases e : q' = q
        · rw [e]; exact hn
        · exact hno q' (by omega)
      have off : smB (pcD S) p q = false → at_ X d cd_Pieces_isWithinAnother 49 [vR 6 0, vI (p : Int), vI (q : Int), vU, vU] [] (hp D) = some (some (vI (bI (wiB (pcD S) (sW S).2.2.length p))), hp D) := by
        intro hsm
        rw [b_Pieces_isWithinAnother_49, b_Pieces_isWithinAnother_50, b_Pieces_isWithinAnother_54, if_pos rfl]
        refine nxt _ _ fun z => ?_
        rw [hsm] at z
        cases z.1
      have go : smB (pcD S) p q = true → at_ X d cd_Pieces_isWithinAnother 45 [vR 6 0, vI (p : Int), vI (q : Int), vU, vU] [] (hp D) = some (some (vI (bI (wiB (pcD S) (sW S).2.2.length p))), hp D) := by
        intro hsm
        have fl : ∀ (m i : Nat), i + m = 9 → (∀ i', i' < i → ¬ (i' + (pcD S p).length ≤ (pcD S q).length ∧ sam (pcD S q) i' (pcD S p) (pcD S p).length = true)) → at_ X d cd_Pieces_isWithinAnother 54 [vR 6 0, vI (p : Int), vI (q : Int), vI 1, vI (i : Int)] [] (hp D) = some (some (vI (bI (wiB (pcD S) (sW S).2.2.length p))), hp D) := by
          intro m
          induction m with
          | zero =>
            intro i hi hno2
            rw [b_Pieces_isWithinAnother_54, if_neg (by decide), if_pos (by omega), if_pos (by omega), Int.toNat_natCast, Int.toNat_natCast, hC.pl hqn, hC.pl hp9, zb_w (by omega) (by omega), if_pos (by omega)]
            refine nxt _ _ fun z => ?_
            obtain ⟨i', h1, h2⟩ := inB_iff.mp z.2
            exact hno2 i' (by omega) ⟨h1, h2⟩
          | succ m ihf =>
            intro i hi hno2
            rw [b_Pieces_isWithinAnother_54, if_neg (by decide), if_pos (by omega), if_pos (by omega), Int.toNat_natCast, Int.toNat_natCast, hC.pl hqn, hC.pl hp9, zb_w (by omega) (by omega)]
            by_cases lt : (pcD S q).length < i + (pcD S p).length
            · rw [if_pos (by omega)]
              refine nxt _ _ fun z => ?_
              obtain ⟨i', h1, h2⟩ := inB_iff.mp z.2
              exact hno2 i' (by omega) ⟨h1, h2⟩
            · rw [if_neg (by omega), if_pos (by omega), s_C_isSame (by omega) hS hC hqn hp9 (by omega) (Nat.le_refl _)]
              simp only [ab_ci]
              rw [b_Pieces_isWithinAnother_90]
              cases q9 : sam (pcD S q) i (pcD S p) (pcD S p).length with
              | true =>
                have : wiB (pcD S) (sW S).2.2.length p = true := wiB_iff.mpr ⟨q, hqn, hsm, inB_iff.mpr ⟨i, by omega, q9⟩⟩
                rw [if_neg (by decide), this]
                rfl
              | false =>
                rw [if_pos (by decide), zb_s (by omega)]
                refine ihf (i + 1) (by omega) fun i' h => ?_
                by_cases e : i' = i
                · subst e
                  intro z
                  rw [z.2] at q9
                  cases q9
                · exact hno2 i' (by omega)
        rw [b_Pieces_isWithinAnother_45, b_Pieces_isWithinAnother_50]
        exact fl 9 0 (by omega) (fun i' h => by omega)
      rw [b_Pieces_isWithinAnother_2, hC.pn, if_neg (by omega), if_pos (by omega), if_pos (by omega), Int.toNat_natCast, Int.toNat_natCast, hC.pl hqn, hC.pl hp9]
      by_cases l1 : (pcD S p).length < (pcD S q).length
      · rw [if_pos (by omega)]
        exact go (smB_t (Or.inl l1))
      rw [if_neg (by omega), if_pos (by omega), if_pos (by omega)]
      by_cases l2 : (pcD S p).length = (pcD S q).length
      · rw [if_neg (by omega)]
        by_cases l3 : q < p
        · rw [if_neg (by omega)]
          exact go (smB_t (Or.inr ⟨l2, l3⟩))
        · rw [if_pos (by omega)]
          exact off (smB_f (by omega))
      · rw [if_pos (by omega)]
        exact off (smB_f (by omega))
  rw [e_Pieces_isWithinAnother, b_Pieces_isWithinAnother_0]
  exact key (sW S).2.2.length 0 (by omega) (fun q h => by omega)
def ovV (P : Nat → List Nat) (p q : Nat) : Nat := shU (P p) (P q) (min (P p).length (P q).length)
theorem s_C_overlapOf {X : Nat × (Nat → Int)} {d : Nat} {D : DD} {S : St} {p q : Nat} (hd : 4 ≤ d) (hS : SOK S) (hC : CH D S) (hp9 : p < (sW S).2.2.length) (hq : q < (sW S).2.2.length) : ev X d m_Pieces_overlapOf [vR 6 0, vI (p : Int), vI (q : Int)] (hp D) = some (some (vI (ovV (pcD S) p q : Int)), hp D) := by
  obtain ⟨d, rfl⟩ : ∃ e, d = e + 1 := ⟨d - 1, by omega⟩
  have h6 := hS.p6
  have p8 := (hS.op hp9).2.1
  have q8 := (hS.op hq).2.1
  have key : ∀ (s : Nat), s ≤ (pcD S p).length → s ≤ (pcD S q).length → at_ X d cd_Pieces_overlapOf 16 [vR 6 0, vI (p : Int), vI (q : Int), vI (s : Int)] [] (hp D) = some (some (vI (shU (pcD S p) (pcD S q) s : Int)), hp D) := by
    intro s
    induction s with
    | zero =>
      intro _ _
      rw [b_Pieces_overlapOf_16, if_pos (by omega)]
      rfl
    | succ s ih =>
      intro h1 h2
      have a := s_C_isSame (X := X) (d := d) (D := D) (i := (pcD S p).length - (s + 1)) (n := s + 1) (by omega) hS hC hp9 hq (by omega) h2
      rw [b_Pieces_overlapOf_16, if_neg (by omega), if_pos (by omega), Int.toNat_natCast, hC.pl hp9, zb_w (by omega) (by omega), show ((pcD S p).length : Int) - ((s + 1 : Nat) : Int) = (((pcD S p).length - (s + 1) : Nat) : Int) by omega, a]
      simp only [ab_ci]
      rw [b_Pieces_overlapOf_35, shU]
      cases sam (pcD S p) ((pcD S p).length - (s + 1)) (pcD S q) (s + 1) with
      | true => rw [if_neg (by decide), if_pos rfl]
      | false =>
        rw [if_pos (by decide), if_neg (by decide), zb_w (by omega) (by omega), show ((s + 1 : Nat) : Int) + -1 = (s : Int) by omega]
        exact ih (by omega) (by omega)
  rw [e_Pieces_overlapOf, b_Pieces_overlapOf_0, if_pos (by omega), if_pos (by omega), Int.toNat_natCast, Int.toNat_natCast, hC.pl hp9, hC.pl hq]
  have e : (if ((pcD S q).length : Int) < ((pcD S p).length : Int) then ((pcD S q).length : Int) else ((pcD S p).length : Int)) = ((min (pcD S p).length (pcD S q).length : Nat) : Int) := by
    by_cases h : (pcD S q).length < (pcD S p).length
    · rw [if_pos (by omega), Nat.min_eq_right (by omega)]
    · rw [if_neg (by omega), Nat.min_eq_left (by omega)]
  rw [e]
  exact key _ (by omega) (by omega)
def RK (D : DD) (a : List Nat) : Prop := ∀ j, j < a.length → D 59 0 j = (a.getD j 0 : Nat)
def KJ (D : DD) (T : Nat) (o : Option (List Nat)) : Prop := match o with
  | none => D 6 0 6 = (T : Int) + 1
  | some b => D 6 0 6 = (b.length : Int) ∧ ∀ j, j < b.length → D 60 0 j = (b.getD j 0 : Nat)
def OV (D : DD) (P : Nat → List Nat) (n : Nat) : Prop := ∀ p q, p < n → q < n → D 58 0 (6 * p + q) = (ovV P p q : Int)
def kP : Nat → Nat → Nat → Prop := fun t i k => i = 0 ∧ (t = 59 ∨ t = 60 ∨ (t = 6 ∧ k = 6))
theorem kP_cX {t i k : Nat} (h : kP t i k) : cX t i k := by unfold kP at h; unfold cX; omega
theorem s_C_isFirst {X : Nat × (Nat → Int)} {d : Nat} {D : DD} {row b : List Nat} {T : Nat} (hd : 1 ≤ d) (h48 : row.length ≤ 48) (he : row.length = b.length) (hr : RK D row) (ho : KJ D T (some b)) : ev X d m_Pieces_isFirstByThings [vR 6 0, vI (row.length : Int)] (hp D) = some (some (vI (bI (ltU row b row.length 0))), hp D) := by
  obtain ⟨d, rfl⟩ : ∃ e, d = e + 1 := ⟨d - 1, by omega⟩
  have key : ∀ (m k : Nat), k + m = row.length → at_ X d cd_Pieces_isFirstByThings 2 [vR 6 0, vI (row.length : Int), vI (k : Int)] [] (hp D) = some (some (vI (bI (ltU row b m k))), hp D) := by
    intro m
    induction m with
    | zero =>
      intro k hk
      rw [b_Pieces_isFirstByThings_2, if_pos (by omega)]
      rfl
    | succ m ih =>
      intro k hk
      rw [b_Pieces_isFirstByThings_2, if_neg (by omega), if_pos (by omega), if_pos (by omega), Int.toNat_natCast, hr k (by omega), ho.2 k (by omega), ltU]
      by_cases e : row.getD k 0 = b.getD k 0
      · rw [if_pos (by omega), if_pos e, zb_s (by omega)]
        exact ih (k + 1) (by omega)
      · rw [if_neg (by omega), if_neg e, if_pos (by omega), if_pos (by omega)]
        by_cases lt : row.getD k 0 < b.getD k 0
        · rw [if_neg (by omega), decide_eq_true lt]; rfl
        · rw [if_pos (by omega), decide_eq_false lt]; rfl
  rw [e_Pieces_isFirstByThings, b_Pieces_isFirstByThings_0]
  exact key row.length 0 (by omega)
end
