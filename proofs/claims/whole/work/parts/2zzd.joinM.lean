/-! joined: the reference -/
section
/-- the row in hand -/
def RJ (D : DD) (a : List Nat) : Prop := ∀ j, j < a.length → D 38 0 j = (a.getD j 0 : Nat)
def jP : Nat → Nat → Nat → Prop := fun t i k => i = 0 ∧ (t = 38 ∨ t = 39 ∨ (t = 12 ∧ k = 36))
theorem jP_mX {t i k : Nat} (h : jP t i k) : mX t i k := by unfold jP at h; unfold mX; omega
theorem s_M_stands {X : Nat × (Nat → Int)} {d : Nat} {D : DD} {S : St} {p i : Nat} {a : List Nat} (hd : 2 ≤ d) (hS : SOK S) (hM : MH D S) (hp9 : p < (sW S).2.2.length) (ha : a.length ≤ 48) (hi : i ≤ 48) (hr : RJ D a) : ev X d m_M_stands [vR 12 0, vI (p : Int), vR 38 0, vI (a.length : Int), vI (i : Int)] (hp D) = some (some (vI (bI (decide (i + (pcD S p).length ≤ a.length) && sam a i (pcD S p) (pcD S p).length))), hp D) := by
  obtain ⟨d, rfl⟩ : ∃ e, d = e + 1 := ⟨d - 1, by omega⟩
  have h6 := hS.p6
  have h8 := (hS.op hp9).2.1
  rw [e_M_stands, b_M_stands_0, zb_w (n := 357 + (p : Int)) (by omega) (by omega), if_pos (by omega), tn (n := 357 + p) (by omega), hM.pl hp9, zb_w (by omega) (by omega)]
  by_cases h : i + (pcD S p).length ≤ a.length
  · rw [if_pos (by omega), decide_eq_true h, Bool.true_and]
    have key : ∀ (m k : Nat), k + m = (pcD S p).length → (∀ j, j < k → a.getD (i + j) 0 = (pcD S p).getD j 0) → at_ X d cd_M_stands 22 [vR 12 0, vI (p : Int), vR 38 0, vU, vI (i : Int), vI (k : Int)] [] (hp D) = some (some (vI (bI (sam a i (pcD S p) (pcD S p).length))), hp D) := by
      intro m
      induction m with
      | zero =>
        intro k hk hj
        rw [b_M_stands_22, zb_w (n := 357 + (p : Int)) (by omega) (by omega), if_pos (by omega), tn (n := 357 + p) (by omega), hM.pl hp9, if_pos (by omega), sam_iff.mpr fun j h => hj j (by omega)]
        rfl
      | succ m ih =>
        intro k hk hj
        rw [b_M_stands_22, zb_w (n := 357 + (p : Int)) (by omega) (by omega), if_pos (by omega), tn (n := 357 + p) (by omega), hM.pl hp9, if_neg (by omega), zb_w (n := (i : Int) + (k : Int)) (by omega) (by omega), if_pos (by omega), zb_w (n := 8 * (p : Int)) (by omega) (by omega), zb_w (n := 363 + 8 * (p : Int)) (by omega) (by omega), zb_w (n := 363 + 8 * (p : Int) + (k : Int)) (by omega) (by omega), if_pos (by omega), tn (x := (i : Int) + (k : Int)) (n := i + k) (by omega), tn (x := 363 + 8 * (p : Int) + (k : Int)) (n := 363 + 8 * p + k) (by omega), hM.pt hp9 (by omega), hr (i + k) (by omega)]
        by_cases e : a.getD (i + k) 0 = (pcD S p).getD k 0
        · rw [if_pos (by omega), zb_s (by omega)]
          refine ih (k + 1) (by omega) fun j hj' => ?_
          by_cases e2 : j = k
          · subst e2; exact e
          · exact hj j (by omega)
        · rw [if_neg (by omega), sam_f (k := k) (by omega) e]
          rfl
    exact key (pcD S p).length 0 (by omega) (fun j hj => by omega)
  · rw [if_neg (by omega), decide_eq_false h, Bool.false_and]
    rfl
theorem smB_t {P : Nat → List Nat} {p q : Nat} (h : (P p).length < (P q).length ∨ ((P p).length = (P q).length ∧ q < p)) : smB P p q = true := by
  unfold smB
  rcases h with h | h
  · rw [decide_eq_true h]; rfl
  · rw [decide_eq_true h.1, decide_eq_true h.2, Bool.and_self, Bool.or_true]
theorem smB_f {P : Nat → List Nat} {p q : Nat} (h : ¬ ((P p).length < (P q).length ∨ ((P p).length = (P q).length ∧ q < p))) : smB P p q = false := by
  cases e : smB P p q with
  | false => rfl
  | true =>
    unfold smB at e
    rw [Bool.or_eq_true, Bool.and_eq_true_iff] at e
    rcases e with e | e
    · exact absurd (Or.inl (of_decide_eq_true e)) h
    · exact absurd (Or.inr ⟨of_decide_eq_true e.1, of_decide_eq_true e.2⟩) h
theorem wiB_f {P : Nat → List Nat} {n p : Nat} (h : ∀ q, q < n → ¬ (smB P p q = true ∧ inB (P p) (P q) = true)) : wiB P n p = false := by
  cases e : wiB P n p with
  | false => rfl
  | true =>
    obtain ⟨q, h1, h2⟩ := wiB_iff.mp e
    exact absurd h2 (h q h1)
theorem s_M_isWithin {X : Nat × (Nat → Int)} {d : Nat} {D : DD} {S : St} {p : Nat} (hd : 4 ≤ d) (hS : SOK S) (hM : MH D S) (hp9 : p < (sW S).2.2.length) : ∃ D', ev X d m_M_isWithin [vR 12 0, vI (p : Int)] (hp D) = some (some (vI (bI (wiB (pcD S) (sW S).2.2.length p))), hp D') ∧ fr jP D D' := by
  obtain ⟨d, rfl⟩ : ∃ e, d = e + 1 := ⟨d - 1, by omega⟩
  have h6 := hS.p6
  have o1 := (hS.op hp9).1
  have o8 := (hS.op hp9).2.1
  have key : ∀ (m q : Nat) (D : DD), q + m = (sW S).2.2.length → MH D S → (∀ q', q' < q → ¬ (smB (pcD S) p q' = true ∧ inB (pcD S p) (pcD S q') = true)) → ∃ D', at_ X d cd_M_isWithin 2 [vR 12 0, vI (p : Int), vI (q : Int), vU] [] (hp D) = some (some (vI (bI (wiB (pcD S) (sW S).2.2.length p))), hp D') ∧ fr jP D D' := by
    intro m
    induction m with
    | zero =>
      intro q D hq hM hno
      rw [b_M_isWithin_2, hM.pn, if_pos (by omega), wiB_f fun q' h => hno q' (by omega)]
      exact ⟨D, rfl, fr.rf D⟩
    | succ m ih =>
      intro q D hq hM hno
      have hqn : q < (sW S).2.2.length := by omega
      have q8 := (hS.op hqn).2.1
      have nxt : ∀ (D1 : DD) (v3 : ab_V), MH D1 S → ¬ (smB (pcD S) p q = true ∧ inB (pcD S p) (pcD S q) = true) → ∃ D', at_ X d cd_M_isWithin 163 [vR 12 0, vI (p : Int), vI (q : Int), v3] [] (hp D1) = some (some (vI (bI (wiB (pcD S) (sW S).2.2.length p))), hp D') ∧ fr jP D1 D' := by
        intro D1 v3 hM1 hn
        rw [b_M_isWithin_163, zb_s (by omega)]
        refine ih (q + 1) D1 (by omega) hM1 fun q' h => ?_
        by_cases e : q' = q
        · rw [e]; exact hn
        · exact hno q' (by omega)
      have go : smB (pcD S) p q = true → ∃ D', at_ X d cd_M_isWithin 73 [vR 12 0, vI (p : Int), vI (q : Int), vU] [] (hp D) = some (some (vI (bI (wiB (pcD S) (sW S).2.2.length p))), hp D') ∧ fr jP D D' := by
        intro hsm
        have cp : ∀ (m k : Nat) (D1 : DD), k + m = (pcD S q).length → fr jP D D1 → (∀ j, j < k → D1 38 0 j = ((pcD S q).getD j 0 : Nat)) → ∃ D2, at_ X d cd_M_isWithin 75 [vR 12 0, vI (p : Int), vI (q : Int), vI (k : Int)] [] (hp D1) = at_ X d cd_M_isWithin 118 [vR 12 0, vI (p : Int), vI (q : Int), vI 0] [] (hp D2) ∧ fr jP D D2 ∧ RJ D2 (pcD S q) := by
          intro m
          induction m with
          | zero =>
            intro k D1 hk hf hj
            have hM1 : MH D1 S := hM.scr hS (hf.mo fun _ _ _ z => jP_mX z)
            rw [b_M_isWithin_75, zb_w (n := 357 + (q : Int)) (by omega) (by omega), if_pos (by omega), tn (n := 357 + q) (by omega), hM1.pl hqn, if_pos (by omega)]
            exact ⟨D1, rfl, hf, fun j h => hj j (by omega)⟩
          | succ m ihc =>
            intro k D1 hk hf hj
            have hM1 : MH D1 S := hM.scr hS (hf.mo fun _ _ _ z => jP_mX z)
            rw [b_M_isWithin_75, zb_w (n := 357 + (q : Int)) (by omega) (by omega), if_pos (by omega), tn (n := 357 + q) (by omega), hM1.pl hqn, if_neg (by omega), zb_w (n := 8 * (q : Int)) (by omega) (by omega), zb_w (n := 363 + 8 * (q : Int)) (by omega) (by omega), zb_w (n := 363 + 8 * (q : Int) + (k : Int)) (by omega) (by omega), if_pos (by omega), if_pos (by omega), tn (x := 363 + 8 * (q : Int) + (k : Int)) (n := 363 + 8 * q + k) (by omega), hM1.pt hqn (by omega), Int.toNat_natCast, zb_s (by omega)]
            refine ihc (k + 1) _ (by omega) (hf.u ⟨rfl, Or.inl rfl⟩) fun j hj' => ?_
            rw [u3_a]
            by_cases e : j = k
            · rw [if_pos ⟨rfl, rfl, e⟩, e]
            · rw [if_neg (fun z => e z.2.2)]
              exact hj j (by omega)
        obtain ⟨D2, c1, c2, c3⟩ := cp (pcD S q).length 0 D (by omega) (fr.rf D) (fun j hj => by omega)
        have c1 : at_ X d cd_M_isWithin 75 [vR 12 0, vI (p : Int), vI (q : Int), vI 0] [] (hp D) = _ := c1
        have hM2 : MH D2 S := hM.scr hS (c2.mo fun _ _ _ z => jP_mX z)
        rw [b_M_isWithin_73, c1]
        have fl : ∀ (m i : Nat), i + m = (pcD S q).length → (∀ i', i' < i → ¬ (i' + (pcD S p).length ≤ (pcD S q).length ∧ sam (pcD S q) i' (pcD S p) (pcD S p).length = true)) → ∃ D', at_ X d cd_M_isWithin 118 [vR 12 0, vI (p : Int), vI (q : Int), vI (i : Int)] [] (hp D2) = some (some (vI (bI (wiB (pcD S) (sW S).2.2.length p))), hp D') ∧ fr jP D2 D' := by
          intro m
          induction m with
          | zero =>
            intro i hi hno2
            rw [b_M_isWithin_118, zb_w (n := 357 + (q : Int)) (by omega) (by omega), if_pos (by omega), tn (n := 357 + q) (by omega), hM2.pl hqn, if_pos (by omega)]
            refine nxt D2 _ hM2 fun z => ?_
            obtain ⟨i', h1, h2⟩ := inB_iff.mp z.2
            exact hno2 i' (by omega) ⟨h1, h2⟩
          | succ m ihf =>
            intro i hi hno2
            rw [b_M_isWithin_118, zb_w (n := 357 + (q : Int)) (by omega) (by omega), if_pos (by omega), tn (n := 357 + q) (by omega), hM2.pl hqn, if_neg (by omega), if_pos (by omega), s_M_stands (by omega) hS hM2 hp9 (by omega) (by omega) c3]
            simp only [ab_ci]
            rw [b_M_isWithin_152]
            cases q9 : (decide (i + (pcD S p).length ≤ (pcD S q).length) && sam (pcD S q) i (pcD S p) (pcD S p).length) with
            | true =>
              rw [Bool.and_eq_true_iff] at q9
              have : wiB (pcD S) (sW S).2.2.length p = true := wiB_iff.mpr ⟨q, hqn, hsm, inB_iff.mpr ⟨i, of_decide_eq_true q9.1, q9.2⟩⟩
              rw [if_neg (by decide), this]
              exact ⟨D2, rfl, fr.rf D2⟩
            | false =>
              rw [if_pos (by decide), zb_s (by omega)]
              refine ihf (i + 1) (by omega) fun i' h => ?_
              by_cases e : i' = i
              · subst e
                intro z
                rw [decide_eq_true z.1, z.2] at q9
                cases q9
              · exact hno2 i' (by omega)
        obtain ⟨D', e1, e2⟩ := fl (pcD S q).length 0 (by omega) (fun i' h => by omega)
        exact ⟨D', e1, c2.tr e2⟩
      rw [b_M_isWithin_2, hM.pn, if_neg (by omega)]
      by_cases e : q = p
      · rw [if_pos (by omega)]
        refine nxt D _ hM fun z => ?_
        rw [smB_f (fun w => by rw [e] at w; omega)] at z
        cases z.1
      rw [if_neg (by omega), zb_w (n := 357 + (q : Int)) (by omega) (by omega), zb_w (n := 357 + (p : Int)) (by omega) (by omega), if_pos (by omega), if_pos (by omega), tn (x := 357 + (q : Int)) (n := 357 + q) (by omega), tn (x := 357 + (p : Int)) (n := 357 + p) (by omega), hM.pl hqn, hM.pl hp9]
      by_cases l1 : (pcD S q).length < (pcD S p).length
      · rw [if_pos (by omega)]
        refine nxt D _ hM fun z => ?_
        rw [smB_f (by omega)] at z
        cases z.1
      rw [if_neg (by omega), if_pos (by omega), if_pos (by omega)]
      by_cases l2 : (pcD S q).length = (pcD S p).length
      · rw [if_neg (by omega)]
        by_cases l3 : q < p
        · rw [if_pos (by omega)]
          exact go (smB_t (Or.inr ⟨l2.symm, l3⟩))
        · rw [if_neg (by omega)]
          refine nxt D _ hM fun z => ?_
          rw [smB_f (by omega)] at z
          cases z.1
      · rw [if_pos (by omega)]
        exact go (smB_t (Or.inl (by omega)))
  rw [e_M_isWithin, b_M_isWithin_0]
  exact key (sW S).2.2.length 0 D (by omega) hM (fun q h => by omega)
end
