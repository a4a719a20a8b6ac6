/-! road: the class's search; road, questions: the class's calls -/
section
def aU : Nat → Nat → Nat → Prop := fun t i k => aW t i k ∨ cP 16 t i k
theorem aU_aV {t i k : Nat} (h : aU t i k) : aV t i k := by
  rcases h with h | h
  · exact aW_aV h
  · exact Or.inr (Or.inr h)
abbrev vS_ (L : Nat → Nat) (v : Cr) (j : Nat) : List Nat → Nat := fun r => (fun w => wrS L (bs (cL (walkV L w j)))) (syV L v r)
theorem s_C_sayOn {X : Nat × (Nat → Int)} {S : St} {v ew : Cr} {to : Nat} (hS : SOK S) (hto : to < 10) (oe : okc ew) (x1 : cS ew = cS v) (x2 : cN ew = cN v) (x3 : cL ew = []) : ∀ (f left d : Nat) (ts : List Nat) (b : Option (List Nat)) (D : DD), f + 10 ≤ d → CH D S → left < 65536 → ts.length + f = 3 → (∀ t ∈ ts, t < 16) → SP D (syV (sW S).1 v ts) → AR D ts → D 0 0 7 = 3 → CC D 17 (walkV (sW S).1 ew to) → AB D (vS_ (sW S).1 v to) b → ∃ D', ev X d m_Ahead_sayOn [vR 0 0, vR 5 1, vI (left : Int), vI (ts.length : Int)] (hp D) = some (none, hp D') ∧ SP D' (syV (sW S).1 v ts) ∧ AR D' ts ∧ AB D' (vS_ (sW S).1 v to) ((prL (okS (sW S).1 v) ((sW S).1 0) f left ts).foldl (oR (vS_ (sW S).1 v to)) b) ∧ fr aV D D' := by
  have h16 := hS.L.1.1
  have ow : okc (walkV (sW S).1 ew to) := oe.walk hS.L hto
  have wg : ∀ (d left : Nat) (ts : List Nat) (b : Option (List Nat)) (D : DD), 8 ≤ d → CH D S → ts.length ≤ 3 → SP D (syV (sW S).1 v ts) → AR D ts → CC D 17 (walkV (sW S).1 ew to) → AB D (vS_ (sW S).1 v to) b → ∃ D', at_ X d cd_Ahead_sayOn 0 [vR 0 0, vR 5 1, vI (left : Int), vI (ts.length : Int), vU, vU, vU, vU] [] (hp D) = at_ X d cd_Ahead_sayOn 38 [vR 0 0, vR 5 1, vI (left : Int), vI (ts.length : Int), vU, vU, vU, vU] [] (hp D') ∧ AB D' (vS_ (sW S).1 v to) (oR (vS_ (sW S).1 v to) b ts) ∧ fr aU D D' := by
    intro d left ts b D hd hC h3 hs ha hw hb
    obtain ⟨v1, l1, l2, l3⟩ := hs
    obtain ⟨D1, a1, a2, a3⟩ := s_C_likeMind' (X := X) (d := d) (D := D) (i := 16) (j := 15) (by omega) (by omega) l2 l1
    have okv : okc (cN v1, cS v1, cL v1, D 3 16 5, D 47 16) := l2
    have lkv : lk3 (cN v1, cS v1, cL v1, D 3 16 5, D 47 16) (syV (sW S).1 v ts) := l3
    generalize ((cN v1, cS v1, cL v1, D 3 16 5, D 47 16) : Cr) = v' at a2 okv lkv
    have hw1 : CC D1 17 (walkV (sW S).1 ew to) := hw.fr fun t k ht => a3 t 17 k (by unfold cP; omega)
    obtain ⟨D2, b1, b2, b3⟩ := s_C_hearLatest (X := X) (d := d) (D := D1) (i := 16) (j := 17) (by omega) (by omega) okv a2 ow hw1
    have okh : okc (hrs v' (cL (walkV (sW S).1 ew to)).reverse) := okv.hs fun t ht => ow.2.2.1 t (List.mem_reverse.mp ht)
    have f2 : fr (cP 16) D D2 := a3.tr b3
    have hl2 : LC D2 1 (sW S).1 := hC.l.fc f2
    obtain ⟨s1, s2⟩ := sy_S (sW S).1 ts v
    have e1 : cL (hrs v' (cL (walkV (sW S).1 ew to)).reverse) = cL (walkV (sW S).1 (syV (sW S).1 v ts) to) := by
      rw [← (walk_lru (L := (sW S).1) (w := ew) (to := to) okv (by rw [x1, lkv.2.1, s1]) (by rw [x2, lkv.1, s2]) x3).2]
      exact lkv.walk to
    obtain ⟨D3, c1, c2, c3⟩ := s_C_weigh (X := X) (d := d) (D := D2) (val := vS_ (sW S).1 v to) (b := b) (by omega) h3 (fun j hj => (f2 43 0 j (by unfold cP; omega)).trans (ha j hj)) (hb.on (f2 0 0 5 (by unfold cP; omega)) (f2 0 0 6 (by unfold cP; omega)) (fun j => f2 44 0 j (by unfold cP; omega)))
    have c1 : ev X d m_Ahead_weigh [vR 0 0, vI (wrS (sW S).1 (bs (cL (hrs v' (cL (walkV (sW S).1 ew to)).reverse))) : Int), vI (ts.length : Int)] (hp D2) = some (none, hp D3) := by rw [e1]; exact c1
    rw [b_Ahead_sayOn_0, a1]
    simp only [ab_cv]
    rw [b_Ahead_sayOn_11, b1]
    simp only [ab_cv]
    rw [b_Ahead_sayOn_22, b2.2.2.2.1, s_C_worthOf (by omega) hS.L hl2 (bs_31 okh.2.2.1)]
    simp only [ab_ci]
    rw [b_Ahead_sayOn_34, c1]
    exact ⟨D3, rfl, c2, (f2.mo fun _ _ _ z => Or.inr z).tr (c3.mo fun _ _ _ z => Or.inl z)⟩
  intro f
  induction f with
  | zero =>
    intro left d ts b D hd hC hl hlen hts hs ha h7 hw hb
    obtain ⟨d, rfl⟩ : ∃ e, d = e + 1 := ⟨d - 1, by omega⟩
    obtain ⟨D1, a1, a2, a3⟩ := wg d left ts b D (by omega) hC (by omega) hs ha hw hb
    rw [e_Ahead_sayOn, a1, b_Ahead_sayOn_38, a3 0 0 7 (by unfold aU aW cP; omega), h7, if_pos (by omega), prL]
    obtain ⟨v1, l1, l2⟩ := hs
    exact ⟨D1, rfl, ⟨v1, l1.fr fun t k ht => a3 t 15 k (by unfold aU aW cP; omega), l2⟩, fun j hj => (a3 43 0 j (by unfold aU aW cP; omega)).trans (ha j hj), a2, a3.mo fun _ _ _ z => aU_aV z⟩
  | succ f ih =>
    intro left d ts b D hd hC hl hlen hts hs ha h7 hw hb
    obtain ⟨d, rfl⟩ : ∃ e, d = e + 1 := ⟨d - 1, by omega⟩
    obtain ⟨D1, a1, a2, a3⟩ := wg d left ts b D (by omega) hC (by omega) hs ha hw hb
    obtain ⟨v0, w1, w2, w3⟩ := hs
    have w1' : CC D1 15 v0 := w1.fr fun t k ht => a3 t 15 k (by unfold aU aW cP; omega)
    rw [e_Ahead_sayOn, a1, b_Ahead_sayOn_38, a3 0 0 7 (by unfold aU aW cP; omega), h7, if_neg (by omega), if_pos (by omega), w1'.2.2.2.2.1, w1'.2.2.2.1, prL, List.foldl_cons, List.foldl_flatMap]
    have hb0 := bs_31 w2.2.2.1
    have key : ∀ (m p : Nat) (b : Option (List Nat)) (D1 : DD), p + m = (sW S).1 0 → SP D1 (syV (sW S).1 v ts) → AR D1 ts → AB D1 (vS_ (sW S).1 v to) b → fr aV D D1 → ∃ D', at_ X d cd_Ahead_sayOn 77 [vR 0 0, vR 5 1, vI (left : Int), vI (ts.length : Int), vL (enc (cL v0) : Int), vU, vI (bs (cL v0) : Int), vI (p : Int)] [] (hp D1) = some (none, hp D') ∧ SP D' (syV (sW S).1 v ts) ∧ AR D' ts ∧ AB D' (vS_ (sW S).1 v to) ((List.range' p m).foldl (fun b t => (if (left.testBit t && okS (sW S).1 v ts t) = true then prL (okS (sW S).1 v) ((sW S).1 0) f (nd left (2 ^ t)) (ts ++ [t]) else []).foldl (oR (vS_ (sW S).1 v to)) b) b) ∧ fr aV D D' := by
      intro m
      induction m with
      | zero =>
        intro p b D1 hp8 hs ha hb hf
        have hC1 : CH D1 S := hC.scr hS (hf.mo fun _ _ _ z => aV_cX z)
        rw [b_Ahead_sayOn_77, hC1.l.1.1, if_pos (by omega)]
        exact ⟨D1, rfl, hs, ha, hb, hf⟩
      | succ m ihm =>
        intro p b D1 hp8 hs ha hb hf
        have hC1 : CH D1 S := hC.scr hS (hf.mo fun _ _ _ z => aV_cX z)
        have hand : left &&& bs (cL v0) < 2 ^ 16 := Nat.and_lt_two_pow _ hb0
        have ebit : (left &&& bs (cL v0)).testBit p = (left.testBit p && okS (sW S).1 v ts p) := by
          rw [Nat.testBit_and, bs_bit]
          unfold okS
          rw [w3.2.2]
        rw [List.range'_succ, List.foldl_cons, b_Ahead_sayOn_77, hC1.l.1.1, if_neg (by omega), zb_an (by omega) (by omega), zb_bit (by omega) (by omega), ebit]
        by_cases hbit : (left.testBit p && okS (sW S).1 v ts p) = true
        · have h2 : 2 ^ p < 2 ^ 16 := zb_p2 (by omega)
          obtain ⟨v1, l1, l2, l3⟩ := hs
          have hin : p ∈ cL (syV (sW S).1 v ts) := of_decide_eq_true (Bool.and_eq_true_iff.mp hbit).2
          have l1' : CC (u3 D1 43 0 ts.length (p : Int)) 15 v1 := l1.fr fun t k ht => by rw [u3_t (by omega)]
          have hl1 : LC (u3 D1 43 0 ts.length (p : Int)) 1 (sW S).1 := hC1.l.on fun t k ht => by rw [u3_t (by omega)]
          obtain ⟨D2, a1, a2, a3⟩ := s_C_say (X := X) (d := d) (D := u3 D1 43 0 ts.length (p : Int)) (i := 15) (q := 1) (t := p) (by omega) hS.L hl1 l2 l1' (by omega)
          have f3 : fr aV D1 D2 := ((fr.rf D1).u (Or.inl ⟨rfl, Or.inr (Or.inl rfl)⟩)).tr (a3.mo fun _ _ _ z => Or.inr (Or.inl z))
          have hn : ∀ t i k, ¬ cP 15 t i k → D2 t i k = u3 D1 43 0 ts.length (p : Int) t i k := a3
          have ehr : syV (sW S).1 v (ts ++ [p]) = sayV (sW S).1 (syV (sW S).1 v ts) p := by rw [syV_s, if_pos hin]
          have w17 : CC D2 17 (walkV (sW S).1 ew to) := hw.fr fun t k ht => (f3 t 17 k (by unfold aV cP; omega)).trans (hf t 17 k (by unfold aV cP; omega))
          obtain ⟨D3, c1, c2, c3, c4, c5⟩ := ih (nd left (2 ^ p)) d (ts ++ [p]) b D2 (by omega) (hC1.scr hS (f3.mo fun _ _ _ z => aV_cX z)) (nd_lt (k := 16) hl) (by rw [List.length_append, List.length_singleton]; omega) (fun t h => by
            rcases List.mem_append.mp h with z | z
            · exact hts t z
            · rw [List.mem_singleton.mp z]; omega) ⟨sayV (sW S).1 v1 p, a2, l2.say (by omega), by rw [ehr]; exact l3.say _ p⟩ (fun j hj => (hn 43 0 j (by unfold cP; omega)).trans (ha.sn j hj)) (by rw [hn 0 0 7 (by unfold cP; omega), u3_t (by omega), hf 0 0 7 (by unfold aV cP; omega), h7]) w17 (hb.on (by rw [hn 0 0 5 (by unfold cP; omega), u3_t (by omega)]) (by rw [hn 0 0 6 (by unfold cP; omega), u3_t (by omega)]) (fun j => by rw [hn 44 0 j (by unfold cP; omega), u3_t (by omega)]))
          rw [List.length_append, List.length_singleton] at c1
          rw [if_pos hbit, if_neg (by decide), if_pos hbit, if_pos (by omega), Int.toNat_natCast, a1]
          simp only [ab_ci]
          rw [b_Ahead_sayOn_116, zb_sl (by omega), zb_nd (by omega) (by omega), zb_s (by omega), c1]
          simp only [ab_cv]
          rw [b_Ahead_sayOn_133, s_C_setMind (by omega) w2.2.1 w2.2.2.1]
          simp only [ab_cv]
          rw [b_Ahead_sayOn_144, zb_s (by omega)]
          obtain ⟨s1, s2⟩ := sy_S (sW S).1 ts v
          obtain ⟨s3, s4⟩ := sy_S (sW S).1 (ts ++ [p]) v
          refine ihm (p + 1) _ _ (by omega) (c2.back w2 w3 (by rw [s4, s2]) (by rw [s3, s1])) (fun j hj => ?_) (c4.on ?_ ?_ (fun j => ?_)) ((((hf.tr (f3.tr c5)).u (Or.inr (Or.inl ⟨Or.inl rfl, rfl⟩))).u (Or.inr (Or.inl ⟨Or.inl rfl, rfl⟩))).u (Or.inr (Or.inl ⟨Or.inl rfl, rfl⟩)))
          · rw [u3_t (by omega), u3_t (by omega), u3_t (by omega)]; exact (AR.pre c3) j hj
          · rw [u3_t (by omega), u3_t (by omega), u3_t (by omega)]
          · rw [u3_t (by omega), u3_t (by omega), u3_t (by omega)]
          · rw [u3_t (by omega), u3_t (by omega), u3_t (by omega)]
        · rw [if_neg hbit, if_pos (by decide), if_neg hbit, b_Ahead_sayOn_144, zb_s (by omega)]
          exact ihm (p + 1) b D1 (by omega) hs ha hb hf
    exact key ((sW S).1 0) 0 _ D1 (by omega) ⟨v0, w1', w2, w3⟩ (fun j hj => (a3 43 0 j (by unfold aU aW cP; omega)).trans (ha j hj)) a2 (a3.mo fun _ _ _ z => aU_aV z)
def aX : Nat → Nat → Nat → Prop := fun t i k => (i = 0 ∧ (t = 0 ∨ t = 43 ∨ t = 44)) ∨ cP 15 t i k ∨ cP 16 t i k ∨ cP 17 t i k
theorem aX_cX {t i k : Nat} (h : aX t i k) : cX t i k := by unfold aX cP at h; unfold cX; omega
theorem aV_aX {t i k : Nat} (h : aV t i k) : aX t i k := by unfold aV cP at h; unfold aX cP; omega
theorem s_C_beginA {X : Nat × (Nat → Int)} {d : Nat} {D : DD} {c : Nat} {v : Cr} {q : Int} (hd : 5 ≤ d) (hc : c < 15) (hv : okc v) (h : CC D c v) : ∃ D', ev X d m_Ahead_begin [vR 0 0, vR 3 c, vI q] (hp D) = some (none, hp D') ∧ SP D' v ∧ D' 0 0 7 = q ∧ D' 0 0 6 = -1 ∧ fr (fun t i k => (t = 0 ∧ i = 0) ∨ cP 15 t i k) D D' := by
  obtain ⟨d, rfl⟩ : ∃ e, d = e + 1 := ⟨d - 1, by omega⟩
  obtain ⟨D1, a1, a2, a3⟩ := s_C_likeMind' (X := X) (d := d) (D := u3 (u3 (u3 D 0 0 7 q) 0 0 5 0) 0 0 6 (-1)) (i := 15) (j := c) (by omega) (by omega) hv (h.fr fun t k ht => by rw [u3_t (by omega), u3_t (by omega), u3_t (by omega)])
  rw [e_Ahead_begin, b_Ahead_begin_0, a1]
  simp only [ab_cv]
  rw [b_Ahead_begin_23]
  refine ⟨D1, rfl, ⟨_, a2, hv, rfl, rfl, rfl⟩, ?_, ?_, ((((fr.rf D).u (Or.inl ⟨rfl, rfl⟩)).u (Or.inl ⟨rfl, rfl⟩)).u (Or.inl ⟨rfl, rfl⟩)).tr (a3.mo fun _ _ _ z => Or.inr z)⟩
  · rw [a3 0 0 7 (by unfold cP; omega), u3_k (by omega), u3_k (by omega), u3_eq]
  · rw [a3 0 0 6 (by unfold cP; omega), u3_eq]
theorem s_C_answer {X : Nat × (Nat → Int)} {d : Nat} {D : DD} {val : List Nat → Nat} {r : List Nat} {what : Int} (hd : 1 ≤ d) (hw : waP what) (hb : AB D val (some r)) : ev X d m_Ahead_answer [vR 0 0, vI what] (hp D) = some (some (vI (rdA val r what)), hp D) := by
  obtain ⟨d, rfl⟩ : ∃ e, d = e + 1 := ⟨d - 1, by omega⟩
  obtain ⟨h1, h2, h3⟩ := hb
  rw [e_Ahead_answer, b_Ahead_answer_0, h1, h2]
  unfold rdA
  by_cases w0 : what = 0
  · rw [if_neg (by omega), if_pos w0]
  · rw [if_pos w0, if_neg w0]
    by_cases w1 : what = 1
    · rw [if_neg (by omega), if_pos w1]
    · have hw : 10 ≤ what ∧ what ≤ 12 := by unfold waP at hw; omega
      rw [if_pos w1, if_neg w1, zb_w (by omega) (by omega), if_neg (by omega)]
      by_cases w2 : what - 10 < (r.length : Int)
      · rw [if_neg (by omega), if_neg (by omega), if_pos (by omega), if_pos w2, h3 _ (by omega)]
      · rw [if_pos (by omega), if_neg w2]
theorem s_C_isAnswer3 {X : Nat × (Nat → Int)} {d : Nat} {D : DD} {x : Int} (hd : 1 ≤ d) : ev X d m_N_isAnswerOrPlace [vI x, vI 3] (hp D) = some (some (vI (if waP x then 1 else 0)), hp D) := by
  obtain ⟨d, rfl⟩ : ∃ e, d = e + 1 := ⟨d - 1, by omega⟩
  unfold waP
  rw [e_N_isAnswerOrPlace, b_N_isAnswerOrPlace_0, b_N_isAnswerOrPlace_23]
  by_cases h0 : x = 0
  · rw [if_pos h0, if_pos (by omega)]
  rw [if_neg h0]
  by_cases h1 : x = 1
  · rw [if_pos h1, if_pos (by omega)]
  rw [if_neg h1]
  by_cases h2 : x < 10
  · rw [if_pos h2, if_neg (by omega)]
  rw [if_neg h2, zb_w (by omega) (by omega)]
  by_cases h3 : x ≤ 12
  · rw [if_neg (by omega), if_pos (by omega)]
  · rw [if_pos (by omega), if_neg (by omega)]
theorem ab_none {val : List Nat → Nat} {ok : List Nat → Nat → Bool} {n f left : Nat} : (prL ok n f left []).foldl (oR val) none = some (bsR val (prL ok n f left [])) := by
  obtain ⟨l, hl⟩ := prL_hd (ok := ok) (n := n) (f := f) (left := left)
  rw [hl, oR_none]
theorem C_road {X : Nat × (Nat → Int)} {d : Nat} {D : DD} {S : St} {x inn what : Int} (hd : 24 ≤ d) (hS : SOK S) (hC : CH D S) : cRes X d m_N_road [vI x, vI inn, vI what] D (f_road S x inn what) := by
  obtain ⟨d, rfl⟩ : ∃ e, d = e + 1 := ⟨d - 1, by omega⟩
  have n6 := hS.n6
  have h10 := hS.L.1.2.2.2.1
  unfold cRes f_road
  rw [e_N_road, b_N_road_0, s_C_isOne (by omega) hC.n]
  simp only [ab_ci]
  rw [b_N_road_9]
  by_cases hx : 0 ≤ x ∧ x < ((sW S).2.1.length : Int)
  · rw [isI_t hx, if_neg (by decide), if_pos hx, s_C_isInn (by omega) hC.l]
    simp only [ab_ci]
    rw [b_N_road_21]
    by_cases hi : 0 ≤ inn ∧ inn < ((sW S).1 50 : Int)
    · rw [isI_t hi, if_neg (by decide), if_pos hi, s_C_isAnswer3 (by omega)]
      simp only [ab_ci]
      rw [b_N_road_29]
      by_cases hw : waP what
      · obtain ⟨c, rfl⟩ : ∃ t : Nat, x = (t : Int) := ⟨x.toNat, by omega⟩
        obtain ⟨j, rfl⟩ : ∃ t : Nat, inn = (t : Int) := ⟨inn.toNat, by omega⟩
        have hc : c < (sW S).2.1.length := by omega
        have hok := hS.oc hc
        have hcc := hC.cc hc
        rw [if_pos hw, if_pos (by decide), if_pos hw, if_pos (by omega), Int.toNat_natCast, R46_0 (by omega)]
        simp only [ab_rf]
        rw [b_N_road_52]
        have hcs : ∃ D', ev X d m_Ahead_chooseSayings [vR 0 0, vR 5 1, vR 3 c, vI (j : Int)] (hp D) = some (none, hp D') ∧ AB D' (vaR (sW S).1 (j : Int) (mnD S c)) (some (rdB S c (bs (cL (mnD S c))) 3 (j : Int))) ∧ fr aX D D' := by
          obtain ⟨d, rfl⟩ : ∃ e, d = e + 1 := ⟨d - 1, by omega⟩
          obtain ⟨D1, a1, a2, a3⟩ := s_C_begin (X := X) (d := d) (D := D) (i := 17) (n := cN (mnD S c)) (by omega)
          have k1 : D1 3 c 1 = (cS (mnD S c) : Int) := (a3 3 c 1 (by unfold cP; omega)).trans hcc.2.1
          have a2' : CC (u3 D1 3 17 1 (cS (mnD S c) : Int)) 17 (atV (emV (cN (mnD S c))) (cS (mnD S c))) := by
            obtain ⟨q0, q1, q2, q3, q4, q5, q6⟩ := a2
            exact ⟨by simp [u3_a, q0]; rfl, by simp [u3_a]; rfl, by simp [u3_a, q2]; rfl, by simp [u3_a, q3]; rfl, by simp [u3_a, q4]; rfl, by simp [u3_a, q5]; rfl, fun t ht => by rw [u3_t (by omega), q6 t ht]; rfl⟩
          have oe : okc (atV (emV (cN (mnD S c))) (cS (mnD S c))) := ⟨⟨hok.1.1, hok.1.2.1, hok.1.2.2⟩, List.nodup_nil, (fun t ht => by cases ht), Nat.zero_le _⟩
          have f1 : fr aX D (u3 D1 3 17 1 (cS (mnD S c) : Int)) := (a3.mo fun _ _ _ z => Or.inr (Or.inr (Or.inr z))).u (Or.inr (Or.inr (Or.inr ⟨Or.inl rfl, rfl⟩)))
          have hC1 := hC.scr hS (f1.mo fun _ _ _ z => aX_cX z)
          obtain ⟨D2, b1, b2, b3⟩ := s_C_walk (X := X) (d := d) (D := u3 D1 3 17 1 (cS (mnD S c) : Int)) (i := 17) (q := 1) (to := j) (by omega) hS.L hC1.l oe a2' (by omega)
          have f2 : fr aX D D2 := f1.tr (b3.mo fun _ _ _ z => Or.inr (Or.inr (Or.inr z)))
          have hC2 := hC.scr hS (f2.mo fun _ _ _ z => aX_cX z)
          obtain ⟨D3, c1, c2, c3, c4, c5⟩ := s_C_beginA (X := X) (d := d) (D := D2) (c := c) (q := 3) (by omega) (by omega) hok (hC2.cc hc)
          have f3 : fr aX D D3 := f2.tr (c5.mo fun t i k z => by unfold cP at z; unfold aX cP; omega)
          have hC3 := hC.scr hS (f3.mo fun _ _ _ z => aX_cX z)
          have w17 : CC D3 17 (walkV (sW S).1 (atV (emV (cN (mnD S c))) (cS (mnD S c))) j) := b2.fr fun t k ht => c5 t 17 k (by unfold cP; omega)
          obtain ⟨D4, d1, d2, d3, d4, d5⟩ := s_C_sayOn (X := X) (v := mnD S c) (to := j) hS (by omega) oe rfl rfl rfl 3 (bs (cL (mnD S c))) d [] none D3 (by omega) hC3 (bs_31 hok.2.2.1) rfl (fun t h => by cases h) c2 (fun k hk => by cases hk) c3 w17 c4
          have d1 : ev X d m_Ahead_sayOn [vR 0 0, vR 5 1, vI ((bs (cL (mnD S c)) : Nat) : Int), vI 0] (hp D3) = _ := d1
          have e4 : bsR (vS_ (sW S).1 (mnD S c) j) (prL (okS (sW S).1 (mnD S c)) ((sW S).1 0) 3 (bs (cL (mnD S c))) []) = bsR (vS_ (sW S).1 (mnD S c) j) (rfL ((sW S).1 0) (bs (cL (mnD S c))) 3) := bs_say (g := fun w => wrS (sW S).1 (bs (cL (walkV (sW S).1 w j))))
          rw [ab_none, e4] at d4
          rw [e_Ahead_chooseSayings, b_Ahead_chooseSayings_0, hcc.1, a1]
          simp only [ab_cv]
          rw [b_Ahead_chooseSayings_11, k1, b1]
          simp only [ab_ci]
          rw [b_Ahead_chooseSayings_31, c1]
          simp only [ab_cv]
          rw [b_Ahead_chooseSayings_38, (hC3.cc hc).2.2.2.1, d1]
          simp only [ab_cv]
          rw [b_Ahead_chooseSayings_48]
          refine ⟨D4, rfl, ?_, f3.tr (d5.mo fun _ _ _ z => aV_aX z)⟩
          unfold rdB
          rw [va_say]
          exact d4
        obtain ⟨D4, g1, g2, g3⟩ := hcs
        rw [g1]
        simp only [ab_cv]
        rw [b_N_road_56, s_C_answer (by omega) hw g2]
        simp only [ab_ci]
        rw [b_N_road_64]
        exact ⟨D4, rfl, hC.scr hS (g3.mo fun _ _ _ z => aX_cX z), g3.mo fun _ _ _ z => cX_cY (aX_cX z)⟩
      · rw [if_neg hw, if_neg (by decide), if_neg hw]
        exact ⟨D, rfl, hC, fr.rf D⟩
    · rw [isI_f hi, if_pos rfl, if_neg hi]
      exact ⟨D, rfl, hC, fr.rf D⟩
  · rw [isI_f hx, if_pos rfl, if_neg hx]
    exact ⟨D, rfl, hC, fr.rf D⟩
theorem C_questions {X : Nat × (Nat → Int)} {d : Nat} {D : DD} {S : St} {x y q what : Int} (hd : 24 ≤ d) (hS : SOK S) (hC : CH D S) : cRes X d m_N_questions [vI x, vI y, vI q, vI what] D (f_questions S x y q what) := by
  obtain ⟨d, rfl⟩ : ∃ e, d = e + 1 := ⟨d - 1, by omega⟩
  have n6 := hS.n6
  unfold cRes f_questions
  rw [e_N_questions, b_N_questions_0, s_C_areTwo (by omega) hC.n]
  simp only [ab_ci]
  rw [b_N_questions_11]
  by_cases hx : 0 ≤ x ∧ x < ((sW S).2.1.length : Int)
  · rw [if_pos hx]
    by_cases hy : 0 ≤ y ∧ y < ((sW S).2.1.length : Int)
    · rw [if_pos hy]
      by_cases hxy : x = y
      · rw [if_neg (show ¬ (((0 ≤ x ∧ x < ((sW S).2.1.length : Int)) ∧ 0 ≤ y ∧ y < ((sW S).2.1.length : Int)) ∧ x ≠ y) from fun z => z.2 hxy), if_pos rfl, if_pos hxy]
        exact ⟨D, rfl, hC, fr.rf D⟩
      rw [if_pos (show (((0 ≤ x ∧ x < ((sW S).2.1.length : Int)) ∧ 0 ≤ y ∧ y < ((sW S).2.1.length : Int)) ∧ x ≠ y) from ⟨⟨hx, hy⟩, hxy⟩), if_neg (by decide), if_neg hxy, s_C_isAnswer3 (by omega)]
      simp only [ab_ci]
      rw [b_N_questions_20]
      by_cases hw : waP what
      · rw [if_pos hw, if_pos (by decide), if_pos hw]
        by_cases q0 : q < 0
        · rw [if_pos q0, if_neg (by omega)]
          exact ⟨D, rfl, hC, fr.rf D⟩
        rw [if_neg q0]
        by_cases q3 : q ≤ 3
        · obtain ⟨c, rfl⟩ : ∃ t : Nat, x = (t : Int) := ⟨x.toNat, by omega⟩
          obtain ⟨e, rfl⟩ : ∃ t : Nat, y = (t : Int) := ⟨y.toNat, by omega⟩
          obtain ⟨q, rfl⟩ : ∃ t : Nat, q = (t : Int) := ⟨q.toNat, by omega⟩
          have hc : c < (sW S).2.1.length := by omega
          have he : e < (sW S).2.1.length := by omega
          have hok := hS.oc hc
          have hbe := bs_31 (hS.oc he).2.2.1
          rw [if_pos q3, if_pos (by omega), Int.toNat_natCast, Int.toNat_natCast, Int.toNat_natCast, if_pos (by omega), R46_0 (by omega)]
          simp only [ab_rf]
          rw [b_N_questions_55, if_pos (by omega), Int.toNat_natCast, R46_0 (by omega)]
          simp only [ab_rf]
          rw [b_N_questions_64, (hC.cc he).2.2.2.1]
          have hcs : ∃ D', ev X d m_Ahead_chooseQuestions [vR 0 0, vR 5 1, vR 3 c, vI ((bs (cL (mnD S e)) : Nat) : Int), vI (q : Int)] (hp D) = some (none, hp D') ∧ AB D' (vaR (sW S).1 (-1) (mnD S c)) (some (rdB S c (bs (cL (mnD S e))) q (-1))) ∧ fr aX D D' := by
            obtain ⟨d, rfl⟩ : ∃ e, d = e + 1 := ⟨d - 1, by omega⟩
            obtain ⟨D3, c1, c2, c3, c4, c5⟩ := s_C_beginA (X := X) (d := d) (D := D) (c := c) (q := (q : Int)) (by omega) (by omega) hok (hC.cc hc)
            have f3 : fr aX D D3 := c5.mo fun t i k z => by unfold cP at z; unfold aX cP; omega
            have hC3 := hC.scr hS (f3.mo fun _ _ _ z => aX_cX z)
            obtain ⟨D4, d1, d2, d3, d4, d5⟩ := s_C_askOn (X := X) (v := mnD S c) (q := q) hS (by omega) q (bs (cL (mnD S e))) d [] none D3 (by omega) hC3 hbe (by rw [List.length_nil]; omega) (fun t h => by cases h) c2 (fun k hk => by cases hk) c3 c4
            have d1 : ev X d m_Ahead_askOn [vR 0 0, vR 5 1, vI ((bs (cL (mnD S e)) : Nat) : Int), vI 0] (hp D3) = _ := d1
            rw [ab_none, bs_ask] at d4
            rw [e_Ahead_chooseQuestions, b_Ahead_chooseQuestions_0, c1]
            simp only [ab_cv]
            rw [b_Ahead_chooseQuestions_7, d1]
            simp only [ab_cv]
            rw [b_Ahead_chooseQuestions_14]
            refine ⟨D4, rfl, ?_, f3.tr (d5.mo fun _ _ _ z => aV_aX z)⟩
            unfold rdB
            rw [va_ask]
            exact d4
          obtain ⟨D4, g1, g2, g3⟩ := hcs
          rw [g1]
          simp only [ab_cv]
          rw [b_N_questions_71, s_C_answer (by omega) hw g2]
          simp only [ab_ci]
          rw [b_N_questions_80]
          exact ⟨D4, rfl, hC.scr hS (g3.mo fun _ _ _ z => aX_cX z), g3.mo fun _ _ _ z => cX_cY (aX_cX z)⟩
        · rw [if_neg q3, if_neg (by omega)]
          exact ⟨D, rfl, hC, fr.rf D⟩
      · rw [if_neg hw, if_neg (by decide), if_neg hw]
        exact ⟨D, rfl, hC, fr.rf D⟩
    · rw [if_neg (show ¬ (((0 ≤ x ∧ x < ((sW S).2.1.length : Int)) ∧ 0 ≤ y ∧ y < ((sW S).2.1.length : Int)) ∧ x ≠ y) from fun z => hy z.1.2), if_pos rfl, if_neg hy]
      exact ⟨D, rfl, hC, fr.rf D⟩
  · rw [if_neg (show ¬ (((0 ≤ x ∧ x < ((sW S).2.1.length : Int)) ∧ 0 ≤ y ∧ y < ((sW S).2.1.length : Int)) ∧ x ≠ y) from fun z => hx z.1.1), if_pos rfl, if_neg hx]
    exact ⟨D, rfl, hC, fr.rf D⟩
end
