/-! told: the class -/
section
def TBc (D : DD) (b : TBt) : Prop := D 4 0 9 = b.1 ∧ D 4 0 10 = (b.2.1 : Int) ∧ ∀ j, j < b.2.2.length → D 50 0 j = (b.2.2.getD j 0 : Nat)
def LSn (D : DD) (n : Nat) (ts : List Nat) : Prop := ∃ v, CC D 13 v ∧ okc v ∧ cN v = n ∧ cS v = 0 ∧ cL v = hrN n [] ts
def OD (D : DD) (ts : List Nat) : Prop := ∀ j, j < ts.length → D 49 0 j = (ts.getD j 0 : Nat)
def vW : Nat → Nat → Nat → Prop := fun t i k => (i = 0 ∧ ((t = 4 ∧ (k = 9 ∨ k = 10)) ∨ t = 50)) ∨ cP 12 t i k
def vT : Nat → Nat → Nat → Prop := fun t i k => (i = 0 ∧ ((t = 4 ∧ (k = 9 ∨ k = 10)) ∨ t = 49 ∨ t = 50)) ∨ cP 12 t i k ∨ cP 13 t i k
theorem vT_cX {t i k : Nat} (h : vT t i k) : cX t i k := by unfold vT cP at h; unfold cX; omega
theorem vW_vT {t i k : Nat} (h : vW t i k) : vT t i k := by unfold vW cP at h; unfold vT cP; omega
theorem s_C_weighOrder {X : Nat × (Nat → Int)} {d : Nat} {D : DD} {S : St} {n inn : Nat} {ts : List Nat} {b : TBt} (hd : 9 ≤ d) (hS : SOK S) (hC : CH D S) (h1 : 1 ≤ n) (h9 : n ≤ 9) (h6 : ts.length ≤ 6) (hts : ∀ t ∈ ts, t < 16) (hi : inn < 10) (hl : LSn D n ts) (ho : OD D ts) (hw : CC D 14 (walkV (sW S).1 (emV n) inn)) (hb : TBc D b) : ∃ D', ev X d m_Hearings_weighOrder [vR 4 0, vR 5 1] (hp D) = some (none, hp D') ∧ TBc D' (wgh (sW S).1 n inn ts b) ∧ fr vW D D' := by
  obtain ⟨d, rfl⟩ : ∃ e, d = e + 1 := ⟨d - 1, by omega⟩
  obtain ⟨v, l1, l2, l3, l4, l5⟩ := hl
  have okw : okc (walkV (sW S).1 (emV n) inn) := (okc.em h1 h9).walk hS.L hi
  obtain ⟨D1, a1, a2, a3⟩ := s_C_likeMind' (X := X) (d := d) (D := D) (i := 12) (j := 13) (by omega) (by omega) l2 l1
  have okv : okc (cN v, cS v, cL v, D 3 12 5, D 47 12) := l2
  generalize hv' : ((cN v, cS v, cL v, D 3 12 5, D 47 12) : Cr) = v' at a2 okv
  have n1 : cN v' = n := by rw [← hv']; exact l3
  have n2 : cS v' = 0 := by rw [← hv']; exact l4
  have n3 : cL v' = hrN n [] ts := by rw [← hv']; exact l5
  have hw1 : CC D1 14 (walkV (sW S).1 (emV n) inn) := hw.fr fun t k ht => a3 t 14 k (by unfold cP; omega)
  obtain ⟨D2, b1, b2, b3⟩ := s_C_hearLatest (X := X) (d := d) (D := D1) (i := 12) (j := 14) (by omega) (by omega) okv a2 okw hw1
  have okh : okc (hrs v' (cL (walkV (sW S).1 (emV n) inn)).reverse) := okv.hs fun t ht => okw.2.2.1 t (List.mem_reverse.mp ht)
  have f2 : fr (cP 12) D D2 := a3.tr b3
  have hl2 : LC D2 1 (sW S).1 := hC.l.fc f2
  obtain ⟨D3, c1, c2, c3⟩ := s_C_deliver (X := X) (d := d) (D := D2) (i := 12) (q := 1) (by omega) hS.L hl2 okh b2
  rw [th_lru okv n1 n2 n3] at c1
  have f3 : fr (cP 12) D D3 := f2.tr c3
  have hl3 : LC D3 1 (sW S).1 := hC.l.fc f3
  have hth := thV_lt hS.L (n := n) h1 h9 hts hi
  have hn : ∀ t i k, ¬ cP 12 t i k → D3 t i k = D t i k := f3
  have fW : fr vW D D3 := f3.mo fun _ _ _ z => Or.inr z
  have e9 : D3 4 0 9 = b.1 := (hn 4 0 9 (by unfold cP; omega)).trans hb.1
  rw [e_Hearings_weighOrder, b_Hearings_weighOrder_0, a1]
  simp only [ab_cv]
  rw [b_Hearings_weighOrder_11, b1]
  simp only [ab_cv]
  rw [b_Hearings_weighOrder_22, c1]
  simp only [ab_ci]
  rw [b_Hearings_weighOrder_30, s_C_worthOf (by omega) hS.L hl3 hth]
  simp only [ab_ci]
  rw [b_Hearings_weighOrder_36, e9]
  unfold wgh
  by_cases c : b.1 < (wrS (sW S).1 (thV (sW S).1 n ts inn) : Int)
  · rw [if_neg (by omega), if_pos c]
    refine ⟨_, rfl, ⟨?_, ?_, fun j hj => ?_⟩, fun t i k n => ?_⟩
    · rw [cpy_a, if_neg (by omega), u3_k (by omega), u3_eq]
    · rw [cpy_a, if_neg (by omega), u3_eq]
    · have hj : j < ts.length := hj
      rw [cpy_a, if_pos (by omega), tn (n := j) (by omega), u3_t (by omega), u3_t (by omega), hn 49 0 j (by unfold cP; omega)]
      exact ho j hj
    · have n' := n
      unfold vW at n'
      rw [cpy_a, if_neg (by omega), u3_a, if_neg (by omega), u3_a, if_neg (by omega)]
      exact fW t i k n
  · rw [if_pos (by omega), if_neg c]
    exact ⟨D3, rfl, ⟨e9, (hn 4 0 10 (by unfold cP; omega)).trans hb.2.1, fun j hj => (hn 50 0 j (by unfold cP; omega)).trans (hb.2.2 j hj)⟩, fW⟩
theorem OD.pre {D : DD} {row r : List Nat} (h : OD D (row ++ r)) : OD D row := fun j hj => by
  have := h j (by rw [List.length_append]; omega)
  rw [getD_app, if_pos hj] at this
  exact this
theorem s_C_tellOn {X : Nat × (Nat → Int)} {S : St} {n inn : Nat} (hS : SOK S) (h1 : 1 ≤ n) (h9 : n ≤ 9) (hi : inn < 10) : ∀ (f left d : Nat) (ts : List Nat) (b : TBt) (D : DD), f + 12 ≤ d → CH D S → left < 2 ^ (sW S).1 0 → pc left ≤ f → ts.length + pc left ≤ 6 → (∀ t ∈ ts, t < 16) → LSn D n ts → OD D ts → CC D 14 (walkV (sW S).1 (emV n) inn) → TBc D b → ∃ D', ev X d m_Hearings_tellOn [vR 4 0, vR 5 1, vI (left : Int), vI (ts.length : Int)] (hp D) = some (none, hp D') ∧ LSn D' n ts ∧ OD D' ts ∧ TBc D' (tlV (sW S).1 n inn f left ts b) ∧ fr vT D D' := by
  have h16 := hS.L.1.1
  have hp9 : 2 ^ (sW S).1 0 ≤ 2 ^ 16 := p2le h16
  have wg : ∀ (d : Nat) (ts : List Nat) (b : TBt) (D : DD) (v2 v3 : ab_V), 10 ≤ d → CH D S → ts.length ≤ 6 → (∀ t ∈ ts, t < 16) → LSn D n ts → OD D ts → CC D 14 (walkV (sW S).1 (emV n) inn) → TBc D b → ∃ D', at_ X d cd_Hearings_tellOn 10 [vR 4 0, vR 5 1, v2, v3, vU, vU, vU, vU] [] (hp D) = some (none, hp D') ∧ LSn D' n ts ∧ OD D' ts ∧ TBc D' (wgh (sW S).1 n inn ts b) ∧ fr vT D D' := by
    intro d ts b D v2 v3 hd hC h6 hts hl ho hw hb
    obtain ⟨D1, a1, a2, a3⟩ := s_C_weighOrder (X := X) (d := d) (D := D) (by omega) hS hC h1 h9 h6 hts hi hl ho hw hb
    rw [b_Hearings_tellOn_10, a1]
    simp only [ab_cv]
    rw [b_Hearings_tellOn_15]
    obtain ⟨v, l1, l2⟩ := hl
    exact ⟨D1, rfl, ⟨v, l1.fr fun t k ht => a3 t 13 k (by unfold vW cP; omega), l2⟩, fun j hj => (a3 49 0 j (by unfold vW cP; omega)).trans (ho j hj), a2, a3.mo fun _ _ _ z => vW_vT z⟩
  intro f
  induction f with
  | zero =>
    intro left d ts b D hd hC hl hpc hlen hts hls ho hw hb
    obtain ⟨d, rfl⟩ : ∃ e, d = e + 1 := ⟨d - 1, by omega⟩
    have e := pc_z (by omega) (Nat.le_zero.mp hpc)
    subst e
    rw [e_Hearings_tellOn, b_Hearings_tellOn_0, if_pos (show ((0 : Nat) : Int) = 0 from rfl), tlV]
    exact wg d ts b D _ _ (by omega) hC (by omega) hts hls ho hw hb
  | succ f ih =>
    intro left d ts b D hd hC hl hpc hlen hts hls ho hw hb
    obtain ⟨d, rfl⟩ : ∃ e, d = e + 1 := ⟨d - 1, by omega⟩
    rw [e_Hearings_tellOn, b_Hearings_tellOn_0, tlV]
    by_cases e : left = 0
    · subst e
      rw [if_pos rfl, if_pos (show ((0 : Nat) : Int) = 0 from rfl)]
      exact wg d ts b D _ _ (by omega) hC (by omega) hts hls ho hw hb
    have hpc1 : pc left ≠ 0 := fun z => e (pc_z (by omega) z)
    obtain ⟨v0, w1, w2, w3, w4, w5⟩ := hls
    rw [if_neg (by omega), if_pos (by omega), if_neg e, w1.2.2.2.2.1, w1.2.2.2.1]
    have key : ∀ (m p : Nat) (b : TBt) (D1 : DD), p + m = (sW S).1 0 → LSn D1 n ts → OD D1 ts → TBc D1 b → fr vT D D1 → ∃ D', at_ X d cd_Hearings_tellOn 37 [vR 4 0, vR 5 1, vI (left : Int), vI (ts.length : Int), vL (enc (cL v0) : Int), vU, vI (bs (cL v0) : Int), vI (p : Int)] [] (hp D1) = some (none, hp D') ∧ LSn D' n ts ∧ OD D' ts ∧ TBc D' ((List.range' p m).foldl (fun b t => if left.testBit t = true then tlV (sW S).1 n inn f (nd left (2 ^ t)) (ts ++ [t]) b else b) b) ∧ fr vT D D' := by
      intro m
      induction m with
      | zero =>
        intro p b D1 hp8 hls ho hb hf
        have hC1 : CH D1 S := hC.scr hS (hf.mo fun _ _ _ z => vT_cX z)
        rw [b_Hearings_tellOn_37, hC1.l.1.1, if_pos (by omega)]
        exact ⟨D1, rfl, hls, ho, hb, hf⟩
      | succ m ihm =>
        intro p b D1 hp8 hls ho hb hf
        have hC1 : CH D1 S := hC.scr hS (hf.mo fun _ _ _ z => vT_cX z)
        rw [List.range'_succ, List.foldl_cons, b_Hearings_tellOn_37, hC1.l.1.1, if_neg (by omega), zb_bit (by omega) (by omega)]
        by_cases hbit : left.testBit p = true
        · have hpn := pc_nd_eq (s := left) (w := p) (by omega) hbit (by omega)
          have h2 : 2 ^ p < 2 ^ 16 := zb_p2 (by omega)
          obtain ⟨v, l1, l2, l3, l4, l5⟩ := hls
          have f2 : fr vT D1 (u3 D1 49 0 ts.length (p : Int)) := (fr.rf D1).u (Or.inl ⟨rfl, Or.inr (Or.inl rfl)⟩)
          have o2 : OD (u3 D1 49 0 ts.length (p : Int)) (ts ++ [p]) := by
            intro j hj
            rw [List.length_append, List.length_singleton] at hj
            rw [u3_a, getD_snoc (by omega)]
            by_cases e : j = ts.length
            · rw [if_pos ⟨rfl, rfl, e⟩, if_pos e]
            · rw [if_neg (fun z => e z.2.2), if_neg e]
              exact ho j (by omega)
          have b2 : TBc (u3 D1 49 0 ts.length (p : Int)) b := ⟨by rw [u3_t (by omega)]; exact hb.1, by rw [u3_t (by omega)]; exact hb.2.1, fun j hj => by rw [u3_t (by omega)]; exact hb.2.2 j hj⟩
          have l1' : CC (u3 D1 49 0 ts.length (p : Int)) 13 v := l1.fr fun t k ht => by rw [u3_t (by omega)]
          obtain ⟨D2, a1, a2, a3⟩ := s_C_hear (X := X) (d := d) (D := u3 D1 49 0 ts.length (p : Int)) (i := 13) (t := p) (by omega) l2 l1' (by omega)
          have f3 : fr vT D1 D2 := f2.tr (a3.mo fun _ _ _ z => Or.inr (Or.inr z))
          have hn : ∀ t i k, ¬ cP 13 t i k → D2 t i k = u3 D1 49 0 ts.length (p : Int) t i k := a3
          have w14 : CC D2 14 (walkV (sW S).1 (emV n) inn) := hw.fr fun t k ht => (f3 t 14 k (by unfold vT cP; omega)).trans (hf t 14 k (by unfold vT cP; omega))
          have hl2 : cL (hrV v p) = hrN n [] (ts ++ [p]) := by
            rw [hrN_app]
            show hrL (cN v) (cL v) p = hrL n (hrN n [] ts) p
            rw [l3, l5]
          obtain ⟨D3, c1, c2, c3, c4, c5⟩ := ih (nd left (2 ^ p)) d (ts ++ [p]) b D2 (by omega) (hC1.scr hS (f3.mo fun _ _ _ z => vT_cX z)) (nd_lt hl) (by omega) (by rw [List.length_append, List.length_singleton]; omega) (fun t h => by
            rcases List.mem_append.mp h with z | z
            · exact hts t z
            · rw [List.mem_singleton.mp z]; omega) ⟨hrV v p, a2, l2.hr (by omega), l3, l4, hl2⟩ (fun j hj => (hn 49 0 j (by unfold cP; omega)).trans (o2 j hj)) w14 ⟨(hn 4 0 9 (by unfold cP; omega)).trans b2.1, (hn 4 0 10 (by unfold cP; omega)).trans b2.2.1, fun j hj => (hn 50 0 j (by unfold cP; omega)).trans (b2.2.2 j hj)⟩
          rw [List.length_append, List.length_singleton] at c1
          rw [if_pos hbit, if_neg (by decide), if_pos hbit, if_pos (by omega), Int.toNat_natCast, a1]
          simp only [ab_ci]
          rw [b_Hearings_tellOn_72, zb_sl (by omega), zb_nd (by omega) (by omega), zb_s (by omega), c1]
          simp only [ab_cv]
          rw [b_Hearings_tellOn_89, s_C_setMind (by omega) w2.2.1 w2.2.2.1]
          simp only [ab_cv]
          rw [b_Hearings_tellOn_100, zb_s (by omega)]
          obtain ⟨v3, g1, g2, g3, g4, g5⟩ := c2
          obtain ⟨q0, q1, q2, q3, q4, q5, q6⟩ := g1
          refine ihm (p + 1) _ _ (by omega) ⟨(cN v3, cS v3, cL v0, cZ v3, cA v3), ?_, ⟨g2.1, w2.2.1, w2.2.2.1, by show (cL v0).length ≤ cN v3; rw [g3, ← w3]; exact w2.2.2.2⟩, g3, g4, w5⟩ (fun j hj => ?_) ⟨?_, ?_, fun j hj => ?_⟩ ((((hf.tr (f3.tr c5)).u (Or.inr (Or.inr ⟨Or.inl rfl, rfl⟩))).u (Or.inr (Or.inr ⟨Or.inl rfl, rfl⟩))).u (Or.inr (Or.inr ⟨Or.inl rfl, rfl⟩)))
          · exact ⟨by simp [u3_a, q0], by simp [u3_a, q1], by simp [u3_a], by simp [u3_a], by simp [u3_a], by simp [u3_a, q5], fun t ht => by simp [u3_a, q6 t ht]⟩
          · rw [u3_t (by omega), u3_t (by omega), u3_t (by omega)]; exact (OD.pre c3) j hj
          · rw [u3_t (by omega), u3_t (by omega), u3_t (by omega)]; exact c4.1
          · rw [u3_t (by omega), u3_t (by omega), u3_t (by omega)]; exact c4.2.1
          · rw [u3_t (by omega), u3_t (by omega), u3_t (by omega)]; exact c4.2.2 j hj
        · rw [if_neg hbit, if_pos (by decide), if_neg hbit, b_Hearings_tellOn_100, zb_s (by omega)]
          exact ihm (p + 1) b D1 (by omega) hls ho hb hf
    exact key ((sW S).1 0) 0 b D (by omega) ⟨v0, w1, w2, w3, w4, w5⟩ ho hb (fr.rf D)
def vB : Nat → Nat → Nat → Prop := fun t i k => (i = 0 ∧ ((t = 4 ∧ 8 ≤ k) ∨ t = 49 ∨ t = 50)) ∨ cP 12 t i k ∨ cP 13 t i k ∨ cP 14 t i k
theorem vB_cX {t i k : Nat} (h : vB t i k) : cX t i k := by unfold vB cP at h; unfold cX; omega
theorem s_C_tellBest {X : Nat × (Nat → Int)} {d : Nat} {D : DD} {S : St} {set n inn : Nat} (hd : 20 ≤ d) (hS : SOK S) (hC : CH D S) (h1 : 1 ≤ n) (h9 : n ≤ 9) (hi : inn < 10) (hs : set < 2 ^ (sW S).1 0) (h6 : pc set ≤ 6) : ∃ D', ev X d m_Hearings_tellBest [vR 4 0, vR 5 1, vI (set : Int), vI (n : Int), vI (inn : Int)] (hp D) = some (none, hp D') ∧ TBc D' (toB S set n inn) ∧ D' 4 0 8 = (pc set : Int) ∧ fr vB D D' := by
  obtain ⟨d, rfl⟩ : ∃ e, d = e + 1 := ⟨d - 1, by omega⟩
  have hp9 : 2 ^ (sW S).1 0 ≤ 2 ^ 16 := p2le hS.L.1.1
  rw [e_Hearings_tellBest, b_Hearings_tellBest_0, s_bitCount (by omega) (by omega)]
  simp only [ab_ci]
  rw [b_Hearings_tellBest_5]
  have f0 : fr vB D (u3 (u3 (u3 D 4 0 8 (pc set : Int)) 4 0 9 (-1)) 4 0 10 0) := (((fr.rf D).u (Or.inl ⟨rfl, Or.inl ⟨rfl, by omega⟩⟩)).u (Or.inl ⟨rfl, Or.inl ⟨rfl, by omega⟩⟩)).u (Or.inl ⟨rfl, Or.inl ⟨rfl, by omega⟩⟩)
  have i8 : u3 (u3 (u3 D 4 0 8 (pc set : Int)) 4 0 9 (-1)) 4 0 10 0 4 0 8 = (pc set : Int) := by rw [u3_k (by omega), u3_k (by omega), u3_eq]
  have i9 : u3 (u3 (u3 D 4 0 8 (pc set : Int)) 4 0 9 (-1)) 4 0 10 0 4 0 9 = -1 := by rw [u3_k (by omega), u3_eq]
  have i10 : u3 (u3 (u3 D 4 0 8 (pc set : Int)) 4 0 9 (-1)) 4 0 10 0 4 0 10 = 0 := by rw [u3_eq]
  generalize u3 (u3 (u3 D 4 0 8 (pc set : Int)) 4 0 9 (-1)) 4 0 10 0 = D0 at f0 i8 i9 i10 ⊢
  obtain ⟨D1, a1, a2, a3⟩ := s_C_begin (X := X) (d := d) (D := D0) (i := 13) (n := n) (by omega)
  obtain ⟨D2, b1, b2, b3⟩ := s_C_begin (X := X) (d := d) (D := D1) (i := 14) (n := n) (by omega)
  have f2 : fr vB D D2 := (f0.tr (a3.mo fun _ _ _ z => Or.inr (Or.inr (Or.inl z)))).tr (b3.mo fun _ _ _ z => Or.inr (Or.inr (Or.inr z)))
  have hC2 : CH D2 S := hC.scr hS (f2.mo fun _ _ _ z => vB_cX z)
  obtain ⟨D3, c1, c2, c3⟩ := s_C_walk (X := X) (d := d) (D := D2) (i := 14) (q := 1) (to := inn) (by omega) hS.L hC2.l (okc.em h1 h9) b2 hi
  have f3 : fr vB D D3 := f2.tr (c3.mo fun _ _ _ z => Or.inr (Or.inr (Or.inr z)))
  have hC3 : CH D3 S := hC.scr hS (f3.mo fun _ _ _ z => vB_cX z)
  have k4 : ∀ k, D3 4 0 k = D0 4 0 k := fun k => (c3 4 0 k (by unfold cP; omega)).trans ((b3 4 0 k (by unfold cP; omega)).trans (a3 4 0 k (by unfold cP; omega)))
  have l13 : CC D3 13 (emV n) := (a2.fr fun t k ht => b3 t 13 k (by unfold cP; omega)).fr fun t k ht => c3 t 13 k (by unfold cP; omega)
  obtain ⟨D4, d1, d2, d3, d4, d5⟩ := s_C_tellOn (X := X) (n := n) (inn := inn) hS h1 h9 hi 6 set d [] (-1, 0, []) D3 (by omega) hC3 hs h6 (by rw [List.length_nil]; omega) (fun t h => by cases h) ⟨emV n, l13, okc.em h1 h9, rfl, rfl, rfl⟩ (fun j hj => by cases hj) c2 ⟨(k4 9).trans i9, (k4 10).trans i10, fun j hj => by cases hj⟩
  have d1 : ev X d m_Hearings_tellOn [vR 4 0, vR 5 1, vI (set : Int), vI 0] (hp D3) = _ := d1
  rw [a1]
  simp only [ab_cv]
  rw [b_Hearings_tellBest_26, b1]
  simp only [ab_cv]
  rw [b_Hearings_tellBest_34, c1]
  simp only [ab_ci]
  rw [b_Hearings_tellBest_44, d1]
  simp only [ab_cv]
  rw [b_Hearings_tellBest_52]
  refine ⟨D4, rfl, d4, ?_, f3.tr (d5.mo fun t i k z => by unfold vT cP at z; unfold vB cP; omega)⟩
  rw [d5 4 0 8 (by unfold vT cP; omega), k4, i8]
theorem s_C_isAnswer {X : Nat × (Nat → Int)} {d : Nat} {D : DD} {x : Int} (hd : 1 ≤ d) : ev X d m_N_isAnswerOrPlace [vI x, vI 6] (hp D) = some (some (vI (if (0 ≤ x ∧ x ≤ 1) ∨ (10 ≤ x ∧ x ≤ 15) then 1 else 0)), hp D) := by
  obtain ⟨d, rfl⟩ : ∃ e, d = e + 1 := ⟨d - 1, by omega⟩
  rw [e_N_isAnswerOrPlace, b_N_isAnswerOrPlace_0, b_N_isAnswerOrPlace_23]
  by_cases h0 : x = 0
  · rw [if_pos h0, if_pos (by omega)]
  rw [if_neg h0]
  by_cases h1 : x = 1
  · rw [if_pos h1, if_pos (by omega)]
  rw [if_neg h1]
  by_cases h2 : x < 10
  · rw [if_pos h2, if_neg (by omega)]
  rw [if_neg h2, zb_w (by omega) (by omega)]
  by_cases h3 : x ≤ 15
  · rw [if_neg (by omega), if_pos (by omega)]
  · rw [if_pos (by omega), if_neg (by omega)]
theorem C_told {X : Nat × (Nat → Int)} {d : Nat} {D : DD} {S : St} {set n inn what : Int} (hd : 24 ≤ d) (hS : SOK S) (hx : i32 set) (hC : CH D S) : cRes X d m_N_told [vI set, vI n, vI inn, vI what] D (f_told S set n inn what) := by
  obtain ⟨d, rfl⟩ : ∃ e, d = e + 1 := ⟨d - 1, by omega⟩
  have h10 := hS.L.1.2.2.2.1
  have hp9 : 2 ^ (sW S).1 0 ≤ 2 ^ 16 := p2le hS.L.1.1
  unfold cRes f_told
  rw [e_N_told, b_N_told_0, s_C_isInn (by omega) hC.l]
  simp only [ab_ci]
  rw [b_N_told_9]
  by_cases hi : 0 ≤ inn ∧ inn < ((sW S).1 50 : Int)
  · rw [isI_t hi, if_neg (by decide), if_pos hi, s_C_isAnswer (by omega)]
    simp only [ab_ci]
    rw [b_N_told_19]
    by_cases hw : (0 ≤ what ∧ what ≤ 1) ∨ (10 ≤ what ∧ what ≤ 15)
    · rw [if_pos hw, if_pos (by decide), if_pos hw, s_C_isSet (by omega) hS.L hC.l hx.1 hx.2]
      simp only [ab_ci]
      rw [b_N_told_33]
      by_cases hs : 0 ≤ set ∧ set < ((2 ^ (sW S).1 0 : Nat) : Int)
      · obtain ⟨s, rfl⟩ : ∃ t : Nat, set = (t : Int) := ⟨set.toNat, by omega⟩
        rw [setI_t hs, if_neg (by decide), if_pos hs, s_bitCount (by omega) (by omega), Int.toNat_natCast]
        simp only [ab_ci]
        rw [b_N_told_40]
        by_cases h6 : pc s ≤ 6
        · rw [if_neg (by omega), if_pos h6, s_C_isSize (by omega)]
          simp only [ab_ci]
          rw [b_N_told_49]
          by_cases hn : 1 ≤ n ∧ n ≤ 9
          · obtain ⟨m, rfl⟩ : ∃ t : Nat, n = (t : Int) := ⟨n.toNat, by omega⟩
            obtain ⟨j, rfl⟩ : ∃ t : Nat, inn = (t : Int) := ⟨inn.toNat, by omega⟩
            obtain ⟨D2, a1, a2, a3, a4⟩ := s_C_tellBest (X := X) (d := d) (D := D) (set := s) (n := m) (inn := j) (by omega) hS hC (by omega) (by omega) (by omega) (by omega) h6
            obtain ⟨o1, o2⟩ := toB_ok hS (set := s) (n := m) (inn := j) (by omega) h6
            have hC2 : CH D2 S := hC.scr hS (a4.mo fun _ _ _ z => vB_cX z)
            have fY : fr cY D D2 := a4.mo fun _ _ _ z => cX_cY (vB_cX z)
            rw [if_pos hn, if_pos (by decide), if_pos hn, a1, Int.toNat_natCast, Int.toNat_natCast]
            simp only [ab_cv]
            rw [b_N_told_69]
            have ans : ev X d m_Hearings_answerOfTold [vR 4 0, vI what] (hp D2) = some (some (vI (tdA (toB S s m j) (pc s) what)), hp D2) := by
              obtain ⟨d, rfl⟩ : ∃ e, d = e + 1 := ⟨d - 1, by omega⟩
              rw [e_Hearings_answerOfTold, b_Hearings_answerOfTold_0]
              unfold tdA
              by_cases w0 : what = 0
              · rw [if_neg (by omega), if_pos w0, a2.1]
              · rw [if_pos w0, if_neg w0]
                by_cases w1 : what = 1
                · rw [if_neg (by omega), if_pos w1, a2.2.1]
                · rw [if_pos w1, if_neg w1, zb_w (by omega) (by omega), if_neg (by omega), a3]
                  by_cases w2 : what - 10 < (pc s : Int)
                  · rw [if_neg (by omega), if_neg (by omega), if_pos (by omega), if_pos w2, a2.2.2 (what - 10).toNat (by omega)]
                  · rw [if_pos (by omega), if_neg w2]
            rw [ans]
            simp only [ab_ci]
            rw [b_N_told_78]
            exact ⟨D2, rfl, hC2, fY⟩
          · rw [if_neg hn, if_neg (by decide), if_neg hn]
            exact ⟨D, rfl, hC, fr.rf D⟩
        · rw [if_pos (by omega), if_neg h6]
          exact ⟨D, rfl, hC, fr.rf D⟩
      · rw [setI_f hs, if_pos rfl, if_neg hs]
        exact ⟨D, rfl, hC, fr.rf D⟩
    · rw [if_neg hw, if_neg (by decide), if_neg hw]
      exact ⟨D, rfl, hC, fr.rf D⟩
  · rw [isI_f hi, if_pos rfl, if_neg hi]
    exact ⟨D, rfl, hC, fr.rf D⟩
end
