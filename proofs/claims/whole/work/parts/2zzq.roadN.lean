/-! road, questions: the reference's calls -/
section
def rdA (val : List Nat → Nat) (b : List Nat) (what : Int) : Int := if what = 0 then (val b : Int) else if what = 1 then (b.length : Int) else if what - 10 < (b.length : Int) then (b.getD (what - 10).toNat 0 : Nat) else -1
abbrev waP (what : Int) : Prop := (0 ≤ what ∧ what ≤ 1) ∨ (10 ≤ what ∧ what ≤ 12)
def rdB (S : St) (c left q : Nat) (inn : Int) : List Nat := bsR (vaR (sW S).1 inn (mnD S c)) (rfL ((sW S).1 0) left q)
def f_road (S : St) (x inn what : Int) : Int × St := (if 0 ≤ x ∧ x < ((sW S).2.1.length : Int) then (if 0 ≤ inn ∧ inn < ((sW S).1 50 : Int) then (if waP what then rdA (vaR (sW S).1 inn (mnD S x.toNat)) (rdB S x.toNat (bs (cL (mnD S x.toNat))) 3 inn) what else -2) else -2) else -2, S)
def f_questions (S : St) (x y q what : Int) : Int × St := (if 0 ≤ x ∧ x < ((sW S).2.1.length : Int) then (if 0 ≤ y ∧ y < ((sW S).2.1.length : Int) then (if x = y then -2 else (if waP what then (if 0 ≤ q ∧ q ≤ 3 then rdA (vaR (sW S).1 (-1) (mnD S x.toNat)) (rdB S x.toNat (bs (cL (mnD S y.toNat))) q.toNat (-1)) what else -3) else -2)) else -2) else -2, S)
theorem s_M_isWhat {X : Nat × (Nat → Int)} {d : Nat} {D : DD} {what : Int} (hd : 2 ≤ d) : ev X d m_M_isWhat [vI what] (hp D) = some (some (vI (if waP what then 1 else 0)), hp D) := by
  obtain ⟨d, rfl⟩ : ∃ e, d = e + 1 := ⟨d - 1, by omega⟩
  rw [e_M_isWhat, b_M_isWhat_0, s_M_within (by omega)]
  simp only [ab_ci]
  rw [b_M_isWhat_7]
  by_cases w1 : 0 ≤ what ∧ what ≤ 1
  · rw [if_pos w1, if_pos (by decide), if_pos (Or.inl w1), b_M_isWhat_24]
  · rw [if_neg w1, if_neg (by decide), s_M_within (by omega)]
    simp only [ab_ci]
    rw [b_M_isWhat_21]
    by_cases w2 : 10 ≤ what ∧ what ≤ 12
    · rw [if_pos w2, if_neg (by decide), if_pos (Or.inr w2), b_M_isWhat_24]
    · rw [if_neg w2, if_pos rfl, if_neg (fun z => z.elim w1 w2)]
theorem s_M_toldBest {X : Nat × (Nat → Int)} {d : Nat} {D : DD} {val : List Nat → Nat} {r : List Nat} {what : Int} (hd : 1 ≤ d) (hw : waP what) (hb : RB D val (some r)) : ev X d m_M_toldBest [vR 12 0, vI what] (hp D) = some (some (vI (rdA val r what)), hp D) := by
  obtain ⟨d, rfl⟩ : ∃ e, d = e + 1 := ⟨d - 1, by omega⟩
  obtain ⟨h1, h2, h3⟩ := hb
  rw [e_M_toldBest, b_M_toldBest_0, h1, h2]
  unfold rdA
  by_cases w0 : what = 0
  · rw [if_neg (by omega), if_pos w0]
  · rw [if_pos w0, if_neg w0]
    by_cases w1 : what = 1
    · rw [if_neg (by omega), if_pos w1]
    · have hw : 10 ≤ what ∧ what ≤ 12 := by unfold waP at hw; omega
      rw [if_pos w1, if_neg w1, zb_w (by omega) (by omega)]
      by_cases w2 : what - 10 < (r.length : Int)
      · rw [if_neg (by omega), if_pos (by omega), if_pos w2, h3 _ (by omega)]
      · rw [if_pos (by omega), if_neg w2]
theorem okl9 {v : Cr} (h : okc v) : okl 9 (cL v) := ⟨h.2.1, h.2.2.1, Nat.le_trans h.2.2.2 h.1.2.1⟩
theorem rd_some {S : St} {c left q : Nat} {inn : Int} : (rfL ((sW S).1 0) left q).foldl (oR (vaR (sW S).1 inn (mnD S c))) none = some (rdB S c left q inn) := by
  unfold rdB
  obtain ⟨l, hl⟩ := rfL_hd (n := (sW S).1 0) (left := left) (q := q)
  rw [hl, oR_none]
theorem M_road {X : Nat × (Nat → Int)} {d : Nat} {D : DD} {S : St} {x inn what : Int} (hd : 20 ≤ d) (hS : SOK S) (hM : MH D S) : mRes X d m_M_road [vI x, vI inn, vI what] D (f_road S x inn what) := by
  obtain ⟨d, rfl⟩ : ∃ e, d = e + 1 := ⟨d - 1, by omega⟩
  have n6 := hS.n6
  have h10 := hS.L.1.2.2.2.1
  have hM := hM.th hS
  have hT := th_mY D
  unfold mRes f_road
  rw [e_M_road, b_M_road_0]
  generalize u3 D 12 0 0 0 = D0 at hM hT ⊢
  rw [s_M_isMan (by omega) hM.n n6]
  simp only [ab_ci]
  rw [b_M_road_11]
  by_cases hx : 0 ≤ x ∧ x < ((sW S).2.1.length : Int)
  · rw [isI_t hx, if_neg (by decide), if_pos hx, s_M_isInn (by omega) hM.l hS.L]
    simp only [ab_ci]
    rw [b_M_road_20]
    by_cases hi : 0 ≤ inn ∧ inn < ((sW S).1 50 : Int)
    · rw [isI_t hi, if_neg (by decide), if_pos hi, s_M_isWhat (by omega)]
      simp only [ab_ci]
      rw [b_M_road_27]
      by_cases hw : waP what
      · rw [if_pos hw, if_pos (by decide), if_pos hw]
        obtain ⟨c, rfl⟩ : ∃ t : Nat, x = (t : Int) := ⟨x.toNat, by omega⟩
        rw [Int.toNat_natCast]
        have hc : c < (sW S).2.1.length := by omega
        have hok := hS.oc hc
        have f1 : fr rQ D0 (u3 D0 12 0 33 (-1)) := (fr.rf D0).u (Or.inr ⟨rfl, Or.inl ⟨rfl, Or.inr rfl⟩⟩)
        have key : ∀ (m k : Nat) (b : Option (List Nat)) (D1 : DD), k + m = 4 → RB D1 (vaR (sW S).1 inn (mnD S c)) b → fr rQ D0 D1 → ∃ D', at_ X d cd_M_road 41 [vR 12 0, vI (c : Int), vI inn, vI what, vI (k : Int)] [] (hp D1) = at_ X d cd_M_road 41 [vR 12 0, vI (c : Int), vI inn, vI what, vI 4] [] (hp D') ∧ RB D' (vaR (sW S).1 inn (mnD S c)) (((List.range' k m).flatMap (fun m => lvL ((sW S).1 0) m (bs (cL (mnD S c))) [])).foldl (oR (vaR (sW S).1 inn (mnD S c))) b) ∧ fr rQ D0 D' := by
          intro m
          induction m with
          | zero =>
            intro k b D1 hk hb hf
            have : k = 4 := by omega
            subst this
            exact ⟨D1, rfl, hb, hf⟩
          | succ m ih =>
            intro k b D1 hk hb hf
            have hM1 : MH D1 S := hM.scr hS (hf.mo fun _ _ _ z => rQ_mX z)
            have hbl := bs_31 (hS.oc hc).2.2.1
            obtain ⟨D2, a1, _, a3, a4⟩ := s_M_rowsOf (X := X) (inn := inn) hS hc (by omega) (by omega) k (bs (cL (mnD S c))) d [] b D1 (by omega) hM1 hbl (by rw [List.length_nil]; omega) (fun t h => by cases h) (fun k hk => by cases hk) hb
            rw [List.length_nil, Nat.zero_add] at a1
            have a1 : ev X d m_M_rowsOf [vR 12 0, vI (c : Int), vI ((bs (cL (mnD S c)) : Nat) : Int), vI 0, vI (k : Int), vI inn] (hp D1) = _ := a1
            rw [b_M_road_41, if_neg (by omega), s_M_bitsIn (by omega) (by omega) (hM1.mc hc) (okl9 hok)]
            simp only [ab_ci]
            rw [b_M_road_54, a1]
            simp only [ab_cv]
            rw [b_M_road_61, zb_s (by omega), List.range'_succ, List.flatMap_cons, List.foldl_append]
            exact ih (k + 1) _ D2 (by omega) a3 (hf.tr a4)
        obtain ⟨D2, b1, b2, b3⟩ := key 4 0 none (u3 D0 12 0 33 (-1)) (by omega) (by show _ = _; rw [u3_eq]) f1
        have b1 : at_ X d cd_M_road 41 [vR 12 0, vI (c : Int), vI inn, vI what, vI 0] [] (hp (u3 D0 12 0 33 (-1))) = _ := b1
        have b2 : RB D2 (vaR (sW S).1 inn (mnD S c)) ((rfL ((sW S).1 0) (bs (cL (mnD S c))) 3).foldl (oR (vaR (sW S).1 inn (mnD S c))) none) := b2
        rw [rd_some] at b2
        rw [b1, b_M_road_41, if_pos (by omega), s_M_toldBest (by omega) hw b2]
        simp only [ab_ci]
        rw [b_M_road_72]
        exact ⟨D2, rfl, hM.scr hS (b3.mo fun _ _ _ z => rQ_mX z), hT.tr (b3.mo fun _ _ _ z => mX_mY (rQ_mX z))⟩
      · rw [if_neg hw, if_neg (by decide), if_neg hw]
        exact ⟨D0, rfl, hM, hT⟩
    · rw [isI_f hi, if_pos rfl, if_neg hi]
      exact ⟨D0, rfl, hM, hT⟩
  · rw [isI_f hx, if_pos rfl, if_neg hx]
    exact ⟨D0, rfl, hM, hT⟩
theorem M_questions {X : Nat × (Nat → Int)} {d : Nat} {D : DD} {S : St} {x y q what : Int} (hd : 20 ≤ d) (hS : SOK S) (hM : MH D S) : mRes X d m_M_questions [vI x, vI y, vI q, vI what] D (f_questions S x y q what) := by
  obtain ⟨d, rfl⟩ : ∃ e, d = e + 1 := ⟨d - 1, by omega⟩
  have n6 := hS.n6
  have hM := hM.th hS
  have hT := th_mY D
  unfold mRes f_questions
  rw [e_M_questions, b_M_questions_0]
  generalize u3 D 12 0 0 0 = D0 at hM hT ⊢
  rw [s_M_isMan (by omega) hM.n n6]
  simp only [ab_ci]
  rw [b_M_questions_11]
  by_cases hx : 0 ≤ x ∧ x < ((sW S).2.1.length : Int)
  · rw [isI_t hx, if_neg (by decide), if_pos hx, s_M_isMan (by omega) hM.n n6]
    simp only [ab_ci]
    rw [b_M_questions_20]
    by_cases hy : 0 ≤ y ∧ y < ((sW S).2.1.length : Int)
    · rw [isI_t hy, if_neg (by decide), if_pos hy]
      by_cases hxy : x = y
      · rw [if_pos hxy, if_pos hxy]
        exact ⟨D0, rfl, hM, hT⟩
      rw [if_neg hxy, if_neg hxy, s_M_isWhat (by omega)]
      simp only [ab_ci]
      rw [b_M_questions_33]
      by_cases hw : waP what
      · rw [if_pos hw, if_pos (by decide), if_pos hw, s_M_within (by omega)]
        simp only [ab_ci]
        rw [b_M_questions_48]
        by_cases hq : 0 ≤ q ∧ q ≤ 3
        · rw [if_pos hq, if_pos (by decide), if_pos hq]
          obtain ⟨c, rfl⟩ : ∃ t : Nat, x = (t : Int) := ⟨x.toNat, by omega⟩
          obtain ⟨e, rfl⟩ : ∃ t : Nat, y = (t : Int) := ⟨y.toNat, by omega⟩
          obtain ⟨q, rfl⟩ : ∃ t : Nat, q = (t : Int) := ⟨q.toNat, by omega⟩
          rw [Int.toNat_natCast, Int.toNat_natCast, Int.toNat_natCast]
          have hc : c < (sW S).2.1.length := by omega
          have he : e < (sW S).2.1.length := by omega
          have hok := hS.oc he
          have f1 : fr rQ D0 (u3 D0 12 0 33 (-1)) := (fr.rf D0).u (Or.inr ⟨rfl, Or.inl ⟨rfl, Or.inr rfl⟩⟩)
          have key : ∀ (m k : Nat) (b : Option (List Nat)) (D1 : DD), k + m = q + 1 → RB D1 (vaR (sW S).1 (-1) (mnD S c)) b → fr rQ D0 D1 → ∃ D', at_ X d cd_M_questions 62 [vR 12 0, vI (c : Int), vI (e : Int), vI (q : Int), vI what, vI (k : Int)] [] (hp D1) = at_ X d cd_M_questions 62 [vR 12 0, vI (c : Int), vI (e : Int), vI (q : Int), vI what, vI ((q + 1 : Nat) : Int)] [] (hp D') ∧ RB D' (vaR (sW S).1 (-1) (mnD S c)) (((List.range' k m).flatMap (fun m => lvL ((sW S).1 0) m (bs (cL (mnD S e))) [])).foldl (oR (vaR (sW S).1 (-1) (mnD S c))) b) ∧ fr rQ D0 D' := by
            intro m
            induction m with
            | zero =>
              intro k b D1 hk hb hf
              have : k = q + 1 := by omega
              subst this
              exact ⟨D1, rfl, hb, hf⟩
            | succ m ih =>
              intro k b D1 hk hb hf
              have hM1 : MH D1 S := hM.scr hS (hf.mo fun _ _ _ z => rQ_mX z)
              have hbl := bs_31 (hS.oc he).2.2.1
              obtain ⟨D2, a1, _, a3, a4⟩ := s_M_rowsOf (X := X) (inn := -1) hS hc (by omega) (by omega) k (bs (cL (mnD S e))) d [] b D1 (by omega) hM1 hbl (by rw [List.length_nil]; omega) (fun t h => by cases h) (fun k hk => by cases hk) hb
              rw [List.length_nil, Nat.zero_add] at a1
              have a1 : ev X d m_M_rowsOf [vR 12 0, vI (c : Int), vI ((bs (cL (mnD S e)) : Nat) : Int), vI 0, vI (k : Int), vI (-1)] (hp D1) = _ := a1
              rw [b_M_questions_62, if_neg (by omega), s_M_bitsIn (by omega) (by omega) (hM1.mc he) (okl9 hok)]
              simp only [ab_ci]
              rw [b_M_questions_75, a1]
              simp only [ab_cv]
              rw [b_M_questions_82, zb_s (by omega), List.range'_succ, List.flatMap_cons, List.foldl_append]
              exact ih (k + 1) _ D2 (by omega) a3 (hf.tr a4)
          obtain ⟨D2, b1, b2, b3⟩ := key (q + 1) 0 none (u3 D0 12 0 33 (-1)) (by omega) (by show _ = _; rw [u3_eq]) f1
          have b1 : at_ X d cd_M_questions 62 [vR 12 0, vI (c : Int), vI (e : Int), vI (q : Int), vI what, vI 0] [] (hp (u3 D0 12 0 33 (-1))) = _ := b1
          have b2 : RB D2 (vaR (sW S).1 (-1) (mnD S c)) ((rfL ((sW S).1 0) (bs (cL (mnD S e))) q).foldl (oR (vaR (sW S).1 (-1) (mnD S c))) none) := b2
          rw [rd_some] at b2
          rw [b1, b_M_questions_62, if_pos (by omega), s_M_toldBest (by omega) hw b2]
          simp only [ab_ci]
          rw [b_M_questions_94]
          exact ⟨D2, rfl, hM.scr hS (b3.mo fun _ _ _ z => rQ_mX z), hT.tr (b3.mo fun _ _ _ z => mX_mY (rQ_mX z))⟩
        · rw [if_neg hq, if_neg (by decide), if_neg hq]
          exact ⟨D0, rfl, hM, hT⟩
      · rw [if_neg hw, if_neg (by decide), if_neg hw]
        exact ⟨D0, rfl, hM, hT⟩
    · rw [isI_f hy, if_pos rfl, if_neg hy]
      exact ⟨D0, rfl, hM, hT⟩
  · rw [isI_f hx, if_pos rfl, if_neg hx]
    exact ⟨D0, rfl, hM, hT⟩
end
