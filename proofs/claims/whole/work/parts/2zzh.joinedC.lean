/-! joined: the class's search and call -/
section
theorem s_C_bet {X : Nat × (Nat → Int)} {d : Nat} {D : DD} {row : List Nat} {o : Option (List Nat)} {T dp : Nat} {l2 : Int} (hd : 1 ≤ d) (hT : T ≤ 48) (hrT : row.length ≤ T) (hdp : dp ≤ 6) (hr : RK D row) (ho : KJ D T o) : ∃ D', at_ X d cd_Pieces_joinOn 0 [vR 6 0, vI 0, vI l2, vI (row.length : Int), vI (dp : Int), vU, vU, vU] [] (hp D) = some (none, hp D') ∧ RK D' row ∧ KJ D' T (bet row o) ∧ fr kP D D' := by
  have put : ∀ v1 v2 v4 : ab_V, ∃ D', at_ X d cd_Pieces_joinOn 36 [vR 6 0, v1, v2, vI (row.length : Int), v4, vU, vU, vU] [] (hp D) = some (none, hp D') ∧ RK D' row ∧ KJ D' T (some row) ∧ fr kP D D' := by
    intro v1 v2 v4
    rw [b_Pieces_joinOn_36]
    refine ⟨_, rfl, fun j hj => ?_, ⟨?_, fun j hj => ?_⟩, fun t i k n => ?_⟩
    · rw [cpy_a, if_neg (by omega), u3_t (by omega)]; exact hr j hj
    · rw [cpy_a, if_neg (by omega), u3_eq]
    · rw [cpy_a, if_pos (by omega), tn (n := j) (by omega), u3_t (by omega)]; exact hr j hj
    · unfold kP at n
      rw [cpy_a, if_neg (by omega), u3_a, if_neg (by omega)]
  rw [b_Pieces_joinOn_0]
  cases o with
  | none =>
    have ho : D 6 0 6 = (T : Int) + 1 := ho
    rw [ho, if_neg (by omega), if_pos (by omega), if_neg (by decide), if_pos (by omega)]
    exact put _ _ _
  | some b =>
    obtain ⟨o1, o2⟩ := ho
    rw [o1]
    unfold bet
    simp only []
    by_cases l1 : b.length < row.length
    · rw [if_pos (by omega), if_neg (by omega)]
      exact ⟨D, rfl, hr, ⟨o1, o2⟩, fr.rf D⟩
    rw [if_neg (by omega), if_pos (by omega), if_neg (by decide)]
    by_cases l3 : row.length = b.length
    · rw [if_neg (by omega), s_C_isFirst (T := T) hd (by omega) l3 hr ⟨o1, o2⟩]
      simp only [ab_ci]
      rw [b_Pieces_joinOn_33]
      cases q : ltU row b row.length 0 with
      | true =>
        rw [if_neg (by decide), if_pos (Or.inr ⟨l3, rfl⟩)]
        exact put _ _ _
      | false =>
        rw [if_pos (by decide), if_neg (fun z => by rcases z with z | z; omega; cases z.2)]
        exact ⟨D, rfl, hr, ⟨o1, o2⟩, fr.rf D⟩
    · rw [if_pos (by omega), if_pos (Or.inl (by omega))]
      exact put _ _ _
theorem RK.pre {D : DD} {row r : List Nat} (h : RK D (row ++ r)) : RK D row := fun j hj => by
  have := h j (by rw [List.length_append]; omega)
  rw [getD_app, if_pos hj] at this
  exact this
/-- the latest piece stands at the row's end -/
def LT (P : Nat → List Nat) (n left : Nat) (row : List Nat) (lt : Option Nat) : Prop := match lt with
  | none => row = []
  | some q => q < n ∧ wiB P n q = false ∧ left.testBit q = false ∧ (P q).length ≤ row.length ∧ ∀ k, k < (P q).length → row.getD (row.length - (P q).length + k) 0 = (P q).getD k 0
theorem s_C_joinOn {X : Nat × (Nat → Int)} {S : St} {T : Nat} (hS : SOK S) (hT : T ≤ 48) : ∀ (f left d dp : Nat) (lt : Option Nat) (row : List Nat) (o : Option (List Nat)) (D : DD), f + 4 ≤ d → CH D S → left < 2 ^ (sW S).2.2.length → pc left ≤ f → dp + pc left ≤ 6 → (∀ p, left.testBit p = true → wiB (pcD S) (sW S).2.2.length p = false) → row.length + smU (pcD S) left (sW S).2.2.length ≤ T → LT (pcD S) (sW S).2.2.length left row lt → RK D row → KJ D T o → OV D (pcD S) (sW S).2.2.length → ∃ D', ev X d m_Pieces_joinOn [vR 6 0, vI (left : Int), vI (goI lt), vI (row.length : Int), vI (dp : Int)] (hp D) = some (none, hp D') ∧ RK D' row ∧ KJ D' T (jn (pcD S) (sW S).2.2.length f left row o) ∧ fr kP D D' := by
  have h6 := hS.p6
  have hp9 : 2 ^ (sW S).2.2.length ≤ 2 ^ 16 := p2le (by omega)
  intro f
  induction f with
  | zero =>
    intro left d dp lt row o D hd hC hl hpc hdp hdu hlen hlt hr ho hov
    obtain ⟨d, rfl⟩ : ∃ e, d = e + 1 := ⟨d - 1, by omega⟩
    have e := pc_z (by omega) (Nat.le_zero.mp hpc)
    subst e
    rw [e_Pieces_joinOn, jn]
    exact s_C_bet (by omega) hT (by omega) (by omega) hr ho
  | succ f ih =>
    intro left d dp lt row o D hd hC hl hpc hdp hdu hlen hlt hr ho hov
    obtain ⟨d, rfl⟩ : ∃ e, d = e + 1 := ⟨d - 1, by omega⟩
    by_cases e : left = 0
    · subst e
      rw [e_Pieces_joinOn, jn, if_pos rfl]
      exact s_C_bet (by omega) hT (by omega) (by omega) hr ho
    by_cases cut : D 6 0 6 < (row.length : Int)
    · cases o with
      | none =>
        have ho : D 6 0 6 = (T : Int) + 1 := ho
        omega
      | some b =>
        have o1 := ho.1
        rw [e_Pieces_joinOn, b_Pieces_joinOn_0, if_pos cut, jn_long _ _ _ (by omega)]
        exact ⟨D, rfl, hr, ho, fr.rf D⟩
    rw [e_Pieces_joinOn, jn, if_neg e, b_Pieces_joinOn_0, if_neg cut, if_pos (by omega), if_pos (by omega)]
    have key : ∀ (m p : Nat) (o : Option (List Nat)) (D1 : DD), p + m = (sW S).2.2.length → RK D1 row → KJ D1 T o → fr kP D D1 → ∃ D', at_ X d cd_Pieces_joinOn 63 [vR 6 0, vI (left : Int), vI (goI lt), vI (row.length : Int), vI (dp : Int), vI (p : Int), vU, vU] [] (hp D1) = some (none, hp D') ∧ RK D' row ∧ KJ D' T ((List.range' p m).foldl (fun o p => if left.testBit p = true then jn (pcD S) (sW S).2.2.length f (nd left (2 ^ p)) (lay row (pcD S p)) o else o) o) ∧ fr kP D D' := by
      intro m
      induction m with
      | zero =>
        intro p o D1 hp8 hr ho hf
        have hC1 : CH D1 S := hC.scr hS (hf.mo fun _ _ _ z => kP_cX z)
        rw [b_Pieces_joinOn_63, hC1.pn, if_pos (by omega)]
        exact ⟨D1, rfl, hr, ho, hf⟩
      | succ m ihm =>
        intro p o D1 hp8 hr ho hf
        have hC1 : CH D1 S := hC.scr hS (hf.mo fun _ _ _ z => kP_cX z)
        rw [List.range'_succ, List.foldl_cons, b_Pieces_joinOn_63, hC1.pn, if_neg (by omega), zb_bit (by omega) (by omega)]
        by_cases hb : left.testBit p = true
        · have hpn9 : p < (sW S).2.2.length := by omega
          have hsm := smU_nd (P := pcD S) hb (sW S).2.2.length
          rw [if_pos hpn9] at hsm
          have hll := lay_len row (pcD S p)
          obtain ⟨w1, w2⟩ := shr_le row (pcD S p)
          have p8 := (hS.op hpn9).2.1
          have h2 : 2 ^ p < 2 ^ 16 := zb_p2 (by omega)
          have hov1 : OV D1 (pcD S) (sW S).2.2.length := fun a b ha hb => (hf 58 0 _ (by unfold kP; omega)).trans (hov a b ha hb)
          have hpn := pc_nd (s := left) (w := p) (by omega) hb
          have rest : ∃ D', at_ X d cd_Pieces_joinOn 102 [vR 6 0, vI (left : Int), vI (goI lt), vI (row.length : Int), vI (dp : Int), vI (p : Int), vU, vU] [vI (shr row (pcD S p) : Int)] (hp D1) = some (none, hp D') ∧ RK D' row ∧ KJ D' T ((List.range' (p + 1) m).foldl (fun o p => if left.testBit p = true then jn (pcD S) (sW S).2.2.length f (nd left (2 ^ p)) (lay row (pcD S p)) o else o) (jn (pcD S) (sW S).2.2.length f (nd left (2 ^ p)) (lay row (pcD S p)) o)) ∧ fr kP D D' := by
            have emore : (if w32 (48 - (row.length : Int)) < w32 (D1 56 0 (p : Int).toNat - (shr row (pcD S p) : Int)) then w32 (48 - (row.length : Int)) else w32 (D1 56 0 (p : Int).toNat - (shr row (pcD S p) : Int))) = (((pcD S p).length - shr row (pcD S p) : Nat) : Int) := by
              rw [Int.toNat_natCast, hC1.pl hpn9, zb_w (n := 48 - (row.length : Int)) (by omega) (by omega), zb_w (by omega) (by omega), if_neg (by omega)]
              omega
            rw [b_Pieces_joinOn_102, emore, if_pos (by omega), zb_w (n := (p : Int) * 8) (by omega) (by omega), zb_w (by omega) (by omega), if_pos (by omega), b_Pieces_joinOn_148]
            generalize hD2 : (ab_cpy (hp D1) 57 0 ((p : Int) * 8 + (shr row (pcD S p) : Int)) 59 0 (row.length : Int) (((pcD S p).length - shr row (pcD S p) : Nat) : Int)).2.2 = D2
            have f2 : fr kP D1 D2 := by
              intro t i k n
              unfold kP at n
              rw [← hD2, cpy_a, if_neg (by omega)]
            have hC2 : CH D2 S := hC1.scr hS (f2.mo fun _ _ _ z => kP_cX z)
            have r2 : RK D2 (lay row (pcD S p)) := by
              intro j hj
              unfold lay
              rw [← hD2, cpy_a, getD_app]
              by_cases lj : j < row.length
              · rw [if_neg (by omega), if_pos lj]; exact hr j lj
              · rw [if_pos (by omega), if_neg lj, getD_drop, tn (n := 8 * p + (shr row (pcD S p) + (j - row.length))) (by omega)]
                exact (hC1.1.2.2.2.2 p _ (pcD_some hpn9)).2 _ (by omega)
            have k2 : KJ D2 T o := by
              have e6 : D2 6 0 6 = D1 6 0 6 := by rw [← hD2, cpy_a, if_neg (by omega)]
              cases o with
              | none => exact e6.trans ho
              | some b => exact ⟨e6.trans ho.1, fun j hj => by rw [← hD2, cpy_a, if_neg (by omega)]; exact ho.2 j hj⟩
            have ov2 : OV D2 (pcD S) (sW S).2.2.length := fun a b ha hb => (f2 58 0 _ (by unfold kP; omega)).trans (hov1 a b ha hb)
            have lt2 : LT (pcD S) (sW S).2.2.length (nd left (2 ^ p)) (lay row (pcD S p)) (some p) := by
              refine ⟨hpn9, hdu p hb, ?_, ?_, fun k hk => (lay_end hk).2⟩
              · rw [nd_bit, Nat.testBit_two_pow_self, Bool.not_true, Bool.and_false]
              · omega
            obtain ⟨D3, b1, b2, b3, b4⟩ := ih (nd left (2 ^ p)) d (dp + 1) (some p) (lay row (pcD S p)) o D2 (by omega) hC2 (nd_lt hl) (by omega) (by omega) (fun q hq => hdu q (by rw [nd_bit] at hq; exact (Bool.and_eq_true_iff.mp hq).1)) (by omega) lt2 r2 k2 ov2
            have elen : w32 ((row.length : Int) + (((pcD S p).length - shr row (pcD S p) : Nat) : Int)) = ((lay row (pcD S p)).length : Int) := by rw [zb_w (by omega) (by omega)]; omega
            have b1 : ev X d m_Pieces_joinOn [vR 6 0, vI (nd left (2 ^ p) : Int), vI (p : Int), vI ((lay row (pcD S p)).length : Int), vI ((dp + 1 : Nat) : Int)] (hp D2) = _ := b1
            rw [zb_sl (by omega), zb_nd (by omega) (by omega), elen, zb_s (by omega), b1]
            simp only [ab_cv]
            rw [b_Pieces_joinOn_170, zb_s (by omega)]
            exact ihm (p + 1) _ D3 (by omega) (RK.pre b2) b3 ((hf.tr f2).tr b4)
          rw [if_pos hb, if_neg (by decide), if_pos hb]
          cases lt with
          | none =>
            have hrow : row = [] := hlt
            have e0 : shr row (pcD S p) = 0 := by rw [hrow]; unfold shr; rw [List.length_nil, Nat.min_zero]; rfl
            rw [e0] at rest
            rw [if_neg (by decide)]
            exact rest
          | some q =>
            obtain ⟨q1, q2, q3, q4, q5⟩ := hlt
            have hne : q ≠ p := fun z => by rw [z, hb] at q3; cases q3
            have esh := shr_last (P := pcD S) (n := (sW S).2.2.length) (p := q) (q := p) (row := row) q1 hpn9 hne q2 (hdu p hb) (hS.op q1).1 q4 q5
            rw [show goI (some q) = (q : Int) from rfl] at rest ⊢
            rw [if_pos (by omega), zb_w (n := (q : Int) * 6) (by omega) (by omega), zb_w (by omega) (by omega), if_pos (by omega), tn (n := 6 * q + p) (by omega), hov1 q p q1 hpn9]
            unfold ovV
            rw [← esh]
            exact rest
        · rw [if_neg hb, if_pos (by decide), if_neg hb, b_Pieces_joinOn_170, zb_s (by omega)]
          exact ihm (p + 1) o D1 (by omega) hr ho hf
    exact key (sW S).2.2.length 0 o D (by omega) hr ho (fr.rf D)
def kQ : Nat → Nat → Nat → Prop := fun t i k => i = 0 ∧ (t = 58 ∨ t = 59 ∨ t = 60 ∨ (t = 6 ∧ k = 6))
theorem kQ_cX {t i k : Nat} (h : kQ t i k) : cX t i k := by unfold kQ at h; unfold cX; omega
def toU (P : Nat → List Nat) : Nat → Nat
  | 0 => 0
  | k + 1 => toU P k + (P k).length
theorem smU_to {P : Nat → List Nat} {left : Nat} (k : Nat) : smU P left k ≤ toU P k := by
  induction k with
  | zero => exact Nat.le_refl _
  | succ k ih => rw [smU, toU]; split <;> omega
theorem toU_le {P : Nat → List Nat} {n : Nat} (h : ∀ p, p < n → (P p).length ≤ 8) (k : Nat) (hk : k ≤ n) : toU P k ≤ 8 * k := by
  induction k with
  | zero => exact Nat.le_refl _
  | succ k ih =>
    have h1 := h k (by omega)
    have h2 := ih (by omega)
    rw [toU]
    omega
theorem s_C_join {X : Nat × (Nat → Int)} {d : Nat} {D : DD} {S : St} (hd : 12 ≤ d) (hS : SOK S) (hC : CH D S) : ∃ D', ev X d m_Pieces_join [vR 6 0] (hp D) = some (none, hp D') ∧ KJ D' 0 (some (jnB S)) ∧ fr kQ D D' := by
  obtain ⟨d, rfl⟩ : ∃ e, d = e + 1 := ⟨d - 1, by omega⟩
  have h6 := hS.p6
  have hdu := duU_lt (P := pcD S) (n := (sW S).2.2.length)
  have hto := toU_le (P := pcD S) (n := (sW S).2.2.length) (fun p h => (hS.op h).2.1)
  have hpc : pc (duU (pcD S) (sW S).2.2.length (sW S).2.2.length) ≤ 6 := pc_bound (by omega) (Nat.lt_of_lt_of_le (hdu _) (p2le h6))
  obtain ⟨j1, j2⟩ := jnB_ok hS
  have key : ∀ (m p : Nat) (D1 : DD), p + m = (sW S).2.2.length → fr kQ D D1 → D1 6 0 6 = (toU (pcD S) p : Int) → (∀ a b, a < p → b < (sW S).2.2.length → D1 58 0 (6 * a + b) = (ovV (pcD S) a b : Int)) → ∃ D', at_ X d cd_Pieces_join 9 [vR 6 0, vI (duU (pcD S) (sW S).2.2.length p : Int), vI (p : Int), vU] [] (hp D1) = some (none, hp D') ∧ KJ D' 0 (some (jnB S)) ∧ fr kQ D D' := by
    intro m
    induction m with
    | zero =>
      intro p D1 hp8 hf hb hov
      have e : p = (sW S).2.2.length := by omega
      subst e
      have ht := hto (sW S).2.2.length (Nat.le_refl _)
      have hC1 : CH D1 S := hC.scr hS (hf.mo fun _ _ _ z => kQ_cX z)
      rw [b_Pieces_join_9, hC1.pn, if_pos (by omega), hb, zb_w (by omega) (by omega)]
      have f2 : fr kQ D (u3 D1 6 0 6 ((toU (pcD S) (sW S).2.2.length : Int) + 1)) := hf.u ⟨rfl, Or.inr (Or.inr (Or.inr ⟨rfl, rfl⟩))⟩
      have hC2 : CH (u3 D1 6 0 6 ((toU (pcD S) (sW S).2.2.length : Int) + 1)) S := hC.scr hS (f2.mo fun _ _ _ z => kQ_cX z)
      obtain ⟨D2, a1, a2, a3, a4⟩ := s_C_joinOn (X := X) (T := toU (pcD S) (sW S).2.2.length) hS (by omega) 6 (duU (pcD S) (sW S).2.2.length (sW S).2.2.length) d 0 none [] none _ (by omega) hC2 (hdu _) hpc (by omega) (fun p hp7 => ((duU_bit _).mp hp7).2) (by rw [List.length_nil]; have := smU_to (P := pcD S) (left := duU (pcD S) (sW S).2.2.length (sW S).2.2.length) (sW S).2.2.length; omega) rfl (fun j hj => by cases hj) (show u3 D1 6 0 6 _ 6 0 6 = _ by rw [u3_eq]) (fun a b ha hb => by rw [u3_t (by omega)]; exact hov a b ha hb)
      rw [j1] at a3
      have a1 : ev X d m_Pieces_joinOn [vR 6 0, vI (duU (pcD S) (sW S).2.2.length (sW S).2.2.length : Int), vI (-1), vI 0, vI 0] (hp (u3 D1 6 0 6 ((toU (pcD S) (sW S).2.2.length : Int) + 1))) = _ := a1
      rw [a1]
      simp only [ab_cv]
      rw [b_Pieces_join_103]
      exact ⟨D2, rfl, a3, f2.tr (a4.mo fun t i k z => by unfold kP at z; unfold kQ; omega)⟩
    | succ m ih =>
      intro p D1 hp8 hf hb hov
      have hpn9 : p < (sW S).2.2.length := by omega
      have hC1 : CH D1 S := hC.scr hS (hf.mo fun _ _ _ z => kQ_cX z)
      have hlt := Nat.lt_of_lt_of_le (hdu p) (p2le (a := p) (b := 16) (by omega))
      have h2 : 2 ^ p < 2 ^ 16 := zb_p2 (by omega)
      have ht := hto (p + 1) (by omega)
      have eto : toU (pcD S) (p + 1) = toU (pcD S) p + (pcD S p).length := rfl
      rw [b_Pieces_join_9, hC1.pn, if_neg (by omega), if_pos (by omega), hb, Int.toNat_natCast, hC1.pl hpn9, zb_w (by omega) (by omega), show (toU (pcD S) p : Int) + ((pcD S p).length : Int) = (toU (pcD S) (p + 1) : Int) by omega]
      have f2 : fr kQ D (u3 D1 6 0 6 (toU (pcD S) (p + 1) : Int)) := hf.u ⟨rfl, Or.inr (Or.inr (Or.inr ⟨rfl, rfl⟩))⟩
      have hov2 : ∀ a b, a < p → b < (sW S).2.2.length → u3 D1 6 0 6 (toU (pcD S) (p + 1) : Int) 58 0 (6 * a + b) = (ovV (pcD S) a b : Int) := fun a b ha hb => by rw [u3_t (by omega)]; exact hov a b ha hb
      have hb2 : u3 D1 6 0 6 (toU (pcD S) (p + 1) : Int) 6 0 6 = (toU (pcD S) (p + 1) : Int) := by rw [u3_eq]
      generalize u3 D1 6 0 6 (toU (pcD S) (p + 1) : Int) = D2 at f2 hov2 hb2 ⊢
      have hC2 : CH D2 S := hC.scr hS (f2.mo fun _ _ _ z => kQ_cX z)
      have inn : ∀ (m2 q : Nat) (D3 : DD), q + m2 = (sW S).2.2.length → fr kQ D D3 → D3 6 0 6 = (toU (pcD S) (p + 1) : Int) → (∀ a b, a < p → b < (sW S).2.2.length → D3 58 0 (6 * a + b) = (ovV (pcD S) a b : Int)) → (∀ b, b < q → D3 58 0 (6 * p + b) = (ovV (pcD S) p b : Int)) → ∃ D', at_ X d cd_Pieces_join 48 [vR 6 0, vI (duU (pcD S) (sW S).2.2.length (p + 1) : Int), vI (p : Int), vI (q : Int)] [] (hp D3) = some (none, hp D') ∧ KJ D' 0 (some (jnB S)) ∧ fr kQ D D' := by
        intro m2
        induction m2 with
        | zero =>
          intro q D3 hq hf3 hb3 ho3 hq3
          have hC3 : CH D3 S := hC.scr hS (hf3.mo fun _ _ _ z => kQ_cX z)
          rw [b_Pieces_join_48, hC3.pn, if_pos (by omega), zb_s (by omega)]
          refine ih (p + 1) D3 (by omega) hf3 hb3 fun a b ha hb => ?_
          by_cases e : a = p
          · rw [e]; exact hq3 b (by omega)
          · exact ho3 a b (by omega) hb
        | succ m2 ih2 =>
          intro q D3 hq hf3 hb3 ho3 hq3
          have hC3 : CH D3 S := hC.scr hS (hf3.mo fun _ _ _ z => kQ_cX z)
          rw [b_Pieces_join_48, hC3.pn, if_neg (by omega), s_C_overlapOf (by omega) hS hC3 hpn9 (by omega)]
          simp only [ab_ci]
          rw [zb_w (n := (p : Int) * 6) (by omega) (by omega), zb_w (by omega) (by omega), b_Pieces_join_72, if_pos (by omega), tn (n := 6 * p + q) (by omega), zb_s (by omega)]
          refine ih2 (q + 1) _ (by omega) (hf3.u ⟨rfl, Or.inl rfl⟩) (by rw [u3_t (by omega), hb3]) (fun a b ha hb => ?_) (fun b hb => ?_)
          · rw [u3_k (by omega)]; exact ho3 a b ha hb
          · rw [u3_a]
            by_cases e : b = q
            · rw [if_pos ⟨rfl, rfl, by omega⟩, e]
            · rw [if_neg (by omega)]; exact hq3 b (by omega)
      rw [s_C_isWithin (by omega) hS hC2 hpn9]
      simp only [ab_ci]
      rw [b_Pieces_join_37]
      have fin := inn (sW S).2.2.length 0 D2 (by omega) f2 hb2 hov2 (fun b hb => by omega)
      rw [duU] at fin
      cases q : wiB (pcD S) (sW S).2.2.length p with
      | true =>
        rw [q, if_pos rfl] at fin
        rw [if_pos (by decide), b_Pieces_join_46]
        exact fin
      | false =>
        rw [q, if_neg (by decide)] at fin
        rw [if_neg (by decide), b_Pieces_join_46, zb_sl (by omega), zb_or (by omega) (by omega)]
        exact fin
  rw [e_Pieces_join, b_Pieces_join_0]
  exact key (sW S).2.2.length 0 _ (by omega) ((fr.rf D).u ⟨rfl, Or.inr (Or.inr (Or.inr ⟨rfl, rfl⟩))⟩) (by rw [u3_eq]; rfl) (fun a b ha hb => by omega)
theorem C_joined {X : Nat × (Nat → Int)} {d : Nat} {D : DD} {S : St} {k : Int} (hd : 16 ≤ d) (hS : SOK S) (hC : CH D S) : cRes X d m_N_joined [vI k] D (f_joined S k) := by
  obtain ⟨d, rfl⟩ : ∃ e, d = e + 1 := ⟨d - 1, by omega⟩
  unfold cRes f_joined
  rw [e_N_joined, b_N_joined_0]
  by_cases h0 : -1 ≤ k
  · obtain ⟨D1, a1, a2, a3⟩ := s_C_join (X := X) (d := d) (D := D) (by omega) hS hC
    obtain ⟨j1, j2⟩ := jnB_ok hS
    rw [if_pos h0, if_pos h0, a1]
    simp only [ab_cv]
    rw [b_N_joined_15, a2.1]
    refine ⟨D1, ?_, hC.scr hS (a3.mo fun _ _ _ z => kQ_cX z), a3.mo fun _ _ _ z => cX_cY (kQ_cX z)⟩
    by_cases c1 : k = -1
    · rw [if_neg (by omega), if_pos c1]
    · rw [if_pos c1, if_neg c1]
      by_cases c2 : k < ((jnB S).length : Int)
      · rw [if_neg (by omega), if_pos c2, if_pos (by omega), a2.2 k.toNat (by omega)]
      · rw [if_pos (by omega), if_neg c2]
  · rw [if_neg h0, if_neg h0]
    exact ⟨D, rfl, hC, fr.rf D⟩
end
