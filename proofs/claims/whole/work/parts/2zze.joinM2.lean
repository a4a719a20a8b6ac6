/-! joined: the reference's search -/
section
theorem s_M_lays {X : Nat × (Nat → Int)} {d : Nat} {D : DD} {S : St} {p : Nat} {row : List Nat} (hd : 2 ≤ d) (hS : SOK S) (hM : MH D S) (hp9 : p < (sW S).2.2.length) (hlen : row.length + (pcD S p).length ≤ 48) (hr : RJ D row) : ∃ D', ev X d m_M_lays [vR 12 0, vI (p : Int), vI (row.length : Int)] (hp D) = some (some (vI ((lay row (pcD S p)).length : Int)), hp D') ∧ RJ D' (lay row (pcD S p)) ∧ fr (fun t i _ => i = 0 ∧ t = 38) D D' := by
  obtain ⟨d, rfl⟩ : ∃ e, d = e + 1 := ⟨d - 1, by omega⟩
  have h6 := hS.p6
  have h8 := (hS.op hp9).2.1
  have hpl := hM.pl hp9
  have hpt : ∀ k, k < (pcD S p).length → D 22 0 (363 + 8 * p + k) = ((pcD S p).getD k 0 : Nat) := fun k hk => hM.pt hp9 hk
  generalize hP : pcD S p = b at hlen h8 hpl hpt ⊢
  have scan : ∀ (s : Nat), s ≤ row.length → s ≤ b.length → ∀ (m k : Nat) (c : Bool), k + m = s → (c = true ↔ ∀ j, j < k → row.getD (row.length - s + j) 0 = b.getD j 0) → at_ X d cd_M_lays 37 [vR 12 0, vI (p : Int), vI (row.length : Int), vI (b.length : Int), vI (s : Int), vI (bI c), vI (k : Int)] [] (hp D) = at_ X d cd_M_lays 26 [vR 12 0, vI (p : Int), vI (row.length : Int), vI (b.length : Int), vI (if sam row (row.length - s) b s = true then (s : Int) else (s : Int) - 1), vI (bI (sam row (row.length - s) b s)), vU] [] (hp D) := by
    intro s hs1 hs2 m
    induction m with
    | zero =>
      intro k c hk hc
      have e : c = sam row (row.length - s) b s := by
        cases q : sam row (row.length - s) b s with
        | true => exact hc.mpr fun j hj => sam_iff.mp q j (by omega)
        | false =>
          cases c with
          | false => rfl
          | true =>
            have : sam row (row.length - s) b s = true := sam_iff.mpr fun j hj => hc.mp rfl j (by omega)
            rw [q] at this
            cases this
      rw [b_M_lays_37, if_pos (by omega), e]
      cases sam row (row.length - s) b s with
      | true => rw [if_pos (by decide), if_pos rfl]
      | false => rw [if_neg (by decide), if_neg (by decide), zb_w (by omega) (by omega)]; rfl
    | succ m ih =>
      intro k c hk hc
      rw [b_M_lays_37, if_neg (by omega)]
      cases c with
      | false =>
        rw [if_pos (by decide), b_M_lays_84, b_M_lays_85, zb_s (by omega)]
        refine ih (k + 1) false (by omega) ⟨fun z => (by cases z), fun z => ?_⟩
        have := hc.mpr fun j hj => z j (by omega)
        cases this
      | true =>
        have hb := hr (row.length - s + k) (by omega)
        rw [if_neg (by decide), zb_w (n := (row.length : Int) - (s : Int)) (by omega) (by omega), zb_w (n := (row.length : Int) - (s : Int) + (k : Int)) (by omega) (by omega), if_pos (by omega), zb_w (n := 8 * (p : Int)) (by omega) (by omega), zb_w (n := 363 + 8 * (p : Int)) (by omega) (by omega), zb_w (n := 363 + 8 * (p : Int) + (k : Int)) (by omega) (by omega), if_pos (by omega), tn (x := (row.length : Int) - (s : Int) + (k : Int)) (n := row.length - s + k) (by omega), tn (x := 363 + 8 * (p : Int) + (k : Int)) (n := 363 + 8 * p + k) (by omega), hpt k (by omega), hb]
        by_cases e : row.getD (row.length - s + k) 0 = b.getD k 0
        · rw [if_neg (by omega), b_M_lays_85, zb_s (by omega)]
          refine ih (k + 1) true (by omega) ⟨fun _ j hj => ?_, fun _ => rfl⟩
          by_cases e2 : j = k
          · rw [e2]; exact e
          · exact hc.mp rfl j (by omega)
        · rw [if_pos (by omega), b_M_lays_84, b_M_lays_85, zb_s (by omega)]
          refine ih (k + 1) false (by omega) ⟨fun z => (by cases z), fun z => absurd (z k (by omega)) e⟩
  have down : ∀ (s : Nat), s ≤ row.length → s ≤ b.length → at_ X d cd_M_lays 26 [vR 12 0, vI (p : Int), vI (row.length : Int), vI (b.length : Int), vI (s : Int), vI 0, vU] [] (hp D) = at_ X d cd_M_lays 108 [vR 12 0, vI (p : Int), vI (row.length : Int), vI (b.length : Int), vI (shU row b s : Int), vU, vI (shU row b s : Int)] [] (hp D) := by
    intro s
    induction s with
    | zero =>
      intro h1 h2
      have sc := scan 0 h1 h2 0 0 true (by omega) ⟨fun _ j hj => by omega, fun _ => rfl⟩
      have sc : at_ X d cd_M_lays 37 [vR 12 0, vI (p : Int), vI (row.length : Int), vI (b.length : Int), vI ((0 : Nat) : Int), vI 1, vI 0] [] (hp D) = _ := sc
      have e : sam row (row.length - 0) b 0 = true := sam_iff.mpr fun k hk => by omega
      rw [b_M_lays_26, if_neg (by decide), sc, e, if_pos rfl, b_M_lays_26, if_pos (by decide)]
      rfl
    | succ s ih =>
      intro h1 h2
      have sc := scan (s + 1) h1 h2 (s + 1) 0 true (by omega) ⟨fun _ j hj => by omega, fun _ => rfl⟩
      have sc : at_ X d cd_M_lays 37 [vR 12 0, vI (p : Int), vI (row.length : Int), vI (b.length : Int), vI ((s + 1 : Nat) : Int), vI 1, vI 0] [] (hp D) = _ := sc
      rw [b_M_lays_26, if_neg (by decide), sc, shU]
      cases q : sam row (row.length - (s + 1)) b (s + 1) with
      | true => rw [if_pos rfl, if_pos rfl, b_M_lays_26, if_pos (by decide)]
      | false =>
        have ih := ih (by omega) (by omega)
        rw [if_neg (by decide), if_neg (by decide), show ((s + 1 : Nat) : Int) - 1 = (s : Int) by omega]
        exact ih
  obtain ⟨w1, w2⟩ := shr_le row b
  have hll := lay_len row b
  have wr : ∀ (m k : Nat) (D1 : DD), k + m = b.length → shr row b ≤ k → fr (fun t i _ => i = 0 ∧ t = 38) D D1 → (∀ j, j < row.length - shr row b + k → D1 38 0 j = ((lay row b).getD j 0 : Nat)) → ∃ D', at_ X d cd_M_lays 108 [vR 12 0, vI (p : Int), vI (row.length : Int), vI (b.length : Int), vI (shr row b : Int), vU, vI (k : Int)] [] (hp D1) = some (some (vI ((lay row b).length : Int)), hp D') ∧ RJ D' (lay row b) ∧ fr (fun t i _ => i = 0 ∧ t = 38) D D' := by
    intro m
    induction m with
    | zero =>
      intro k D1 hk hsk hf hj
      rw [b_M_lays_108, if_pos (by omega), zb_w (n := (row.length : Int) + (b.length : Int)) (by omega) (by omega), zb_w (by omega) (by omega), show (row.length : Int) + (b.length : Int) - (shr row b : Int) = ((lay row b).length : Int) by omega]
      exact ⟨D1, rfl, fun j h => hj j (by omega), hf⟩
    | succ m ih =>
      intro k D1 hk hsk hf hj
      have e22 : D1 22 0 (363 + 8 * p + k) = (b.getD k 0 : Nat) := (hf _ _ _ (by omega)).trans (hpt k (by omega))
      rw [b_M_lays_108, if_neg (by omega), zb_w (n := 8 * (p : Int)) (by omega) (by omega), zb_w (n := 363 + 8 * (p : Int)) (by omega) (by omega), zb_w (n := 363 + 8 * (p : Int) + (k : Int)) (by omega) (by omega), if_pos (by omega), zb_w (n := (row.length : Int) - (shr row b : Int)) (by omega) (by omega), zb_w (n := (row.length : Int) - (shr row b : Int) + (k : Int)) (by omega) (by omega), if_pos (by omega), tn (x := (row.length : Int) - (shr row b : Int) + (k : Int)) (n := row.length - shr row b + k) (by omega), tn (x := 363 + 8 * (p : Int) + (k : Int)) (n := 363 + 8 * p + k) (by omega), e22, zb_s (by omega)]
      refine ih (k + 1) _ (by omega) (by omega) (hf.u ⟨rfl, rfl⟩) fun j hj' => ?_
      rw [u3_a]
      by_cases e : j = row.length - shr row b + k
      · rw [if_pos ⟨rfl, rfl, e⟩, e]
        unfold lay
        rw [getD_app, if_neg (by omega), getD_drop, show shr row b + (row.length - shr row b + k - row.length) = k by omega]
      · rw [if_neg (fun z => e z.2.2)]
        exact hj j (by omega)
  obtain ⟨D', g1, g2, g3⟩ := wr (b.length - shr row b) (shr row b) D (by omega) (Nat.le_refl _) (fr.rf D) (fun j hj => by
    unfold lay
    rw [getD_app, if_pos (by omega)]
    exact hr j (by omega))
  refine ⟨D', ?_, g2, g3⟩
  rw [e_M_lays, b_M_lays_0, zb_w (n := 357 + (p : Int)) (by omega) (by omega), if_pos (by omega), tn (n := 357 + p) (by omega), hpl]
  have hgo : ∀ s : Nat, s = min b.length row.length → at_ X d cd_M_lays 21 [vR 12 0, vI (p : Int), vI (row.length : Int), vI (b.length : Int), vU, vU, vU] [vI (s : Int)] (hp D) = some (some (vI ((lay row b).length : Int)), hp D') := by
    intro s hs
    rw [b_M_lays_21, down s (by omega) (by omega), hs]
    exact g1
  by_cases e : row.length ≤ b.length
  · rw [if_pos (by omega)]
    exact hgo row.length (by omega)
  · rw [if_neg (by omega)]
    exact hgo b.length (by omega)
/-- the best row so far -/
def OJ (D : DD) (o : Option (List Nat)) : Prop := match o with
  | none => D 12 0 36 = -1
  | some b => D 12 0 36 = (b.length : Int) ∧ ∀ j, j < b.length → D 39 0 j = (b.getD j 0 : Nat)
theorem s_M_isFirst {X : Nat × (Nat → Int)} {d : Nat} {D : DD} {row b : List Nat} (hd : 1 ≤ d) (h48 : row.length ≤ 48) (he : row.length = b.length) (hr : RJ D row) (ho : OJ D (some b)) : ev X d m_M_isFirst [vR 12 0, vI (row.length : Int)] (hp D) = some (some (vI (bI (ltU row b row.length 0))), hp D) := by
  obtain ⟨d, rfl⟩ : ∃ e, d = e + 1 := ⟨d - 1, by omega⟩
  have key : ∀ (m k : Nat), k + m = row.length → at_ X d cd_M_isFirst 2 [vR 12 0, vI (row.length : Int), vI (k : Int)] [] (hp D) = some (some (vI (bI (ltU row b m k))), hp D) := by
    intro m
    induction m with
    | zero =>
      intro k hk
      rw [b_M_isFirst_2, if_pos (by omega)]
      rfl
    | succ m ih =>
      intro k hk
      rw [b_M_isFirst_2, if_neg (by omega), if_pos (by omega), if_pos (by omega), Int.toNat_natCast, hr k (by omega), ho.2 k (by omega), ltU]
      by_cases e : row.getD k 0 = b.getD k 0
      · rw [if_pos (by omega), if_pos e, zb_s (by omega)]
        exact ih (k + 1) (by omega)
      · rw [if_neg (by omega), if_neg e, if_pos (by omega), if_pos (by omega)]
        by_cases lt : row.getD k 0 < b.getD k 0
        · rw [if_neg (by omega), decide_eq_true lt]; rfl
        · rw [if_pos (by omega), decide_eq_false lt]; rfl
  rw [e_M_isFirst, b_M_isFirst_0]
  exact key row.length 0 (by omega)
theorem s_M_bet {X : Nat × (Nat → Int)} {d : Nat} {D : DD} {row : List Nat} {o : Option (List Nat)} (hd : 1 ≤ d) (h48 : row.length ≤ 48) (hr : RJ D row) (ho : OJ D o) : ∃ D', at_ X d cd_M_joins 0 [vR 12 0, vI 0, vI (row.length : Int), vU] [] (hp D) = some (none, hp D') ∧ RJ D' row ∧ OJ D' (bet row o) ∧ fr jP D D' := by
  have put : ∀ v1 : ab_V, ∃ D', at_ X d cd_M_joins 37 [vR 12 0, v1, vI (row.length : Int), vU] [] (hp D) = some (none, hp D') ∧ RJ D' row ∧ OJ D' (some row) ∧ fr jP D D' := by
    intro v1
    have cp : ∀ (m k : Nat) (D1 : DD), k + m = row.length → RJ D1 row → D1 12 0 36 = (row.length : Int) → (∀ j, j < k → D1 39 0 j = (row.getD j 0 : Nat)) → fr jP D D1 → ∃ D', at_ X d cd_M_joins 44 [vR 12 0, vU, vI (row.length : Int), vI (k : Int)] [] (hp D1) = some (none, hp D') ∧ RJ D' row ∧ OJ D' (some row) ∧ fr jP D D' := by
      intro m
      induction m with
      | zero =>
        intro k D1 hk h1 h2 h3 hf
        rw [b_M_joins_44, if_pos (by omega)]
        exact ⟨D1, rfl, h1, ⟨h2, fun j hj => h3 j (by omega)⟩, hf⟩
      | succ m ih =>
        intro k D1 hk h1 h2 h3 hf
        rw [b_M_joins_44, if_neg (by omega), if_pos (by omega), if_pos (by omega), Int.toNat_natCast, h1 k (by omega), zb_s (by omega)]
        refine ih (k + 1) _ (by omega) (fun j hj => by rw [u3_t (by omega)]; exact h1 j hj) (by rw [u3_t (by omega), h2]) (fun j hj => ?_) (hf.u ⟨rfl, Or.inr (Or.inl rfl)⟩)
        rw [u3_a]
        by_cases e : j = k
        · rw [if_pos ⟨rfl, rfl, e⟩, e]
        · rw [if_neg (fun z => e z.2.2)]
          exact h3 j (by omega)
    rw [b_M_joins_37]
    exact cp row.length 0 _ (by omega) (fun j hj => by rw [u3_t (by omega)]; exact hr j hj) (by rw [u3_eq]) (fun j hj => by omega) ((fr.rf D).u ⟨rfl, Or.inr (Or.inr ⟨rfl, rfl⟩)⟩)
  rw [b_M_joins_0, if_neg (by decide)]
  cases o with
  | none =>
    have ho : D 12 0 36 = -1 := ho
    rw [if_pos ho]
    exact put _
  | some b =>
    obtain ⟨o1, o2⟩ := ho
    rw [if_neg (by omega), o1]
    unfold bet
    simp only []
    by_cases l1 : b.length < row.length
    · rw [if_pos (by omega), if_neg (by omega)]
      exact ⟨D, rfl, hr, ⟨o1, o2⟩, fr.rf D⟩
    rw [if_neg (by omega)]
    by_cases l2 : row.length = b.length
    · rw [if_neg (by omega), s_M_isFirst hd h48 l2 hr ⟨o1, o2⟩]
      simp only [ab_ci]
      rw [b_M_joins_33]
      cases q : ltU row b row.length 0 with
      | true =>
        rw [if_pos (by decide), if_pos (Or.inr ⟨l2, rfl⟩)]
        exact put _
      | false =>
        rw [if_neg (by decide), if_neg (fun z => by rcases z with z | z; omega; cases z.2)]
        exact ⟨D, rfl, hr, ⟨o1, o2⟩, fr.rf D⟩
    · rw [if_pos (by omega), if_pos (Or.inl (by omega))]
      exact put _
theorem RJ.pre {D : DD} {row r : List Nat} (h : RJ D (row ++ r)) : RJ D row := fun j hj => by
  have := h j (by rw [List.length_append]; omega)
  rw [getD_app, if_pos hj] at this
  exact this
theorem pc_z {s : Nat} (hs : s < 65536) (h : pc s = 0) : s = 0 := by
  have e : els s = [] := List.eq_nil_of_length_eq_zero h
  have h0 := bs_els hs
  rw [e] at h0
  exact h0.symm
theorem s_M_joins {X : Nat × (Nat → Int)} {S : St} (hS : SOK S) : ∀ (f left d : Nat) (row : List Nat) (o : Option (List Nat)) (D : DD), f + 4 ≤ d → MH D S → left < 2 ^ (sW S).2.2.length → pc left ≤ f → row.length + smU (pcD S) left (sW S).2.2.length ≤ 48 → RJ D row → OJ D o → ∃ D', ev X d m_M_joins [vR 12 0, vI (left : Int), vI (row.length : Int)] (hp D) = some (none, hp D') ∧ RJ D' row ∧ OJ D' (jn (pcD S) (sW S).2.2.length f left row o) ∧ fr jP D D' := by
  have h6 := hS.p6
  have hp9 : 2 ^ (sW S).2.2.length ≤ 2 ^ 16 := p2le (by omega)
  intro f
  induction f with
  | zero =>
    intro left d row o D hd hM hl hpc hlen hr ho
    obtain ⟨d, rfl⟩ : ∃ e, d = e + 1 := ⟨d - 1, by omega⟩
    have e := pc_z (by omega) (Nat.le_zero.mp hpc)
    subst e
    rw [e_M_joins, jn]
    exact s_M_bet (by omega) (by omega) hr ho
  | succ f ih =>
    intro left d row o D hd hM hl hpc hlen hr ho
    obtain ⟨d, rfl⟩ : ∃ e, d = e + 1 := ⟨d - 1, by omega⟩
    rw [e_M_joins, jn]
    by_cases e : left = 0
    · subst e
      rw [if_pos rfl]
      exact s_M_bet (by omega) (by omega) hr ho
    rw [if_neg e, b_M_joins_0, if_pos (by omega)]
    have key : ∀ (m p : Nat) (o : Option (List Nat)) (D1 : DD), p + m = (sW S).2.2.length → RJ D1 row → OJ D1 o → fr jP D D1 → ∃ D', at_ X d cd_M_joins 70 [vR 12 0, vI (left : Int), vI (row.length : Int), vI (p : Int)] [] (hp D1) = some (none, hp D') ∧ RJ D' row ∧ OJ D' ((List.range' p m).foldl (fun o p => if left.testBit p = true then jn (pcD S) (sW S).2.2.length f (nd left (2 ^ p)) (lay row (pcD S p)) o else o) o) ∧ fr jP D D' := by
      intro m
      induction m with
      | zero =>
        intro p o D1 hp8 hr ho hf
        have hM1 : MH D1 S := hM.scr hS (hf.mo fun _ _ _ z => jP_mX z)
        rw [b_M_joins_70, hM1.pn, if_pos (by omega)]
        exact ⟨D1, rfl, hr, ho, hf⟩
      | succ m ihm =>
        intro p o D1 hp8 hr ho hf
        have hM1 : MH D1 S := hM.scr hS (hf.mo fun _ _ _ z => jP_mX z)
        rw [List.range'_succ, List.foldl_cons, b_M_joins_70, hM1.pn, if_neg (by omega), zb_bit (by omega) (by omega)]
        by_cases hb : left.testBit p = true
        · have hsm := smU_nd (P := pcD S) hb (sW S).2.2.length
          rw [if_pos (show p < (sW S).2.2.length by omega)] at hsm
          have hll := lay_len row (pcD S p)
          have h2 : 2 ^ p < 2 ^ 16 := zb_p2 (by omega)
          obtain ⟨D2, a1, a2, a3⟩ := s_M_lays (X := X) (d := d) (D := D1) (p := p) (row := row) (by omega) hS hM1 (by omega) (by omega) hr
          have hM2 : MH D2 S := hM1.scr hS (a3.mo fun _ _ _ z => jP_mX ⟨z.1, Or.inl z.2⟩)
          have ho2 : OJ D2 o := by
            cases o with
            | none => exact (a3 12 0 36 (by omega)).trans ho
            | some b => exact ⟨(a3 12 0 36 (by omega)).trans ho.1, fun j hj => (a3 39 0 j (by omega)).trans (ho.2 j hj)⟩
          have a3 : fr jP D1 D2 := a3.mo fun t i k z => ⟨z.1, Or.inl z.2⟩
          have hpn := pc_nd (s := left) (w := p) (by omega) hb
          obtain ⟨D3, b1, b2, b3, b4⟩ := ih (nd left (2 ^ p)) d (lay row (pcD S p)) o D2 (by omega) hM2 (nd_lt hl) (by omega) (by omega) a2 ho2
          rw [if_pos hb, if_neg (by decide), if_pos hb, a1]
          simp only [ab_ci]
          rw [zb_sl (by omega), zb_nd (by omega) (by omega), b_M_joins_105, b1]
          simp only [ab_cv]
          rw [b_M_joins_108, zb_s (by omega)]
          exact ihm (p + 1) _ D3 (by omega) (RJ.pre b2) b3 ((hf.tr a3).tr b4)
        · rw [if_neg hb, if_pos (by decide), if_neg hb, b_M_joins_108, zb_s (by omega)]
          exact ihm (p + 1) o D1 (by omega) hr ho hf
    exact key (sW S).2.2.length 0 o D (by omega) hr ho (fr.rf D)
end
