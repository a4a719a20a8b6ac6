/-! road, questions: the class -/
section
def lk3 (v w : Cr) : Prop := cN v = cN w ∧ cS v = cS w ∧ cL v = cL w
theorem lk3.hr {v w : Cr} (h : lk3 v w) (t : Nat) : lk3 (hrV v t) (hrV w t) := ⟨h.1, h.2.1, ((show mLk v w from ⟨h.1, h.2.2⟩).hr t).2⟩
theorem lk3.hs {v w : Cr} (h : lk3 v w) (ts : List Nat) : lk3 (hrs v ts) (hrs w ts) := by
  induction ts generalizing v w with
  | nil => exact h
  | cons t ts ih => exact ih (h.hr t)
theorem lk3.say {v w : Cr} (h : lk3 v w) (L : Nat → Nat) (t : Nat) : lk3 (sayV L v t) (sayV L w t) := (h.hr t).hs _
theorem lk3.walk {L : Nat → Nat} {v w : Cr} (h : lk3 v w) (to : Nat) : cL (walkV L v to) = cL (walkV L w to) := by
  obtain ⟨a1, a2⟩ := wkV_L (L := L) (to := to) (dst (cS v) to) v
  obtain ⟨b1, b2⟩ := wkV_L (L := L) (to := to) (dst (cS w) to) w
  unfold walkV
  rw [a2, b2, h.1, h.2.1, h.2.2]
theorem sy_S (L : Nat → Nat) : ∀ (r : List Nat) (v : Cr), cS (syV L v r) = cS v ∧ cN (syV L v r) = cN v := by
  intro r
  induction r with
  | nil => exact fun v => ⟨rfl, rfl⟩
  | cons t r ih =>
    intro v
    have h := ih (if t ∈ cL v then sayV L v t else v)
    have g : cS (if t ∈ cL v then sayV L v t else v) = cS v ∧ cN (if t ∈ cL v then sayV L v t else v) = cN v := by
      split
      · exact hrs_S (hrV v t) _
      · exact ⟨rfl, rfl⟩
    exact ⟨h.1.trans g.1, h.2.trans g.2⟩
theorem va_say {L : Nat → Nat} {j : Nat} {v : Cr} : vaR L (j : Int) v = fun r => (fun w => wrS L (bs (cL (walkV L w j)))) (syV L v r) := by
  funext r
  have e : stV L (j : Int) = fun v t => if t ∈ cL v then sayV L v t else v := by
    funext v t
    unfold stV
    rw [if_neg (by omega)]
  unfold vaR lfV syV
  rw [if_neg (by omega), e, Int.toNat_natCast]
theorem va_ask {L : Nat → Nat} {v : Cr} : vaR L (-1) v = fun r => wrS L (bs (cL (hrs v r))) := by
  funext r
  have e : stV L (-1) = hrV := by
    funext v t
    unfold stV
    rw [if_pos rfl]
  unfold vaR lfV hrs
  rw [if_pos rfl, e]
def SP (D : DD) (w : Cr) : Prop := ∃ v, CC D 15 v ∧ okc v ∧ lk3 v w
def AR (D : DD) (ts : List Nat) : Prop := ∀ j, j < ts.length → D 43 0 j = (ts.getD j 0 : Nat)
theorem AR.pre {D : DD} {row r : List Nat} (h : AR D (row ++ r)) : AR D row := fun j hj => by
  have := h j (by rw [List.length_append]; omega)
  rw [getD_app, if_pos hj] at this
  exact this
theorem AR.sn {D : DD} {ts : List Nat} {p : Nat} (h : AR D ts) : AR (u3 D 43 0 ts.length (p : Int)) (ts ++ [p]) := by
  intro j hj
  rw [List.length_append, List.length_singleton] at hj
  rw [u3_a, getD_snoc (by omega)]
  by_cases e : j = ts.length
  · rw [if_pos ⟨rfl, rfl, e⟩, if_pos e]
  · rw [if_neg (fun z => e z.2.2), if_neg e]
    exact h j (by omega)
def AB (D : DD) (val : List Nat → Nat) (b : Option (List Nat)) : Prop := match b with
  | none => D 0 0 6 = -1
  | some r => D 0 0 5 = (r.length : Int) ∧ D 0 0 6 = (val r : Int) ∧ ∀ j, j < r.length → D 44 0 j = (r.getD j 0 : Nat)
theorem AB.on {D D' : DD} {val : List Nat → Nat} {b : Option (List Nat)} (h : AB D val b) (e1 : D' 0 0 5 = D 0 0 5) (e2 : D' 0 0 6 = D 0 0 6) (e3 : ∀ j, D' 44 0 j = D 44 0 j) : AB D' val b := by
  cases b with
  | none => exact e2.trans h
  | some r => exact ⟨e1.trans h.1, e2.trans h.2.1, fun j hj => (e3 j).trans (h.2.2 j hj)⟩
def aW : Nat → Nat → Nat → Prop := fun t i k => i = 0 ∧ ((t = 0 ∧ (k = 5 ∨ k = 6)) ∨ t = 44)
def aV : Nat → Nat → Nat → Prop := fun t i k => (i = 0 ∧ ((t = 0 ∧ (k = 5 ∨ k = 6)) ∨ t = 43 ∨ t = 44)) ∨ cP 15 t i k ∨ cP 16 t i k
theorem aV_cX {t i k : Nat} (h : aV t i k) : cX t i k := by unfold aV cP at h; unfold cX; omega
theorem aW_aV {t i k : Nat} (h : aW t i k) : aV t i k := by unfold aW at h; unfold aV cP; omega
theorem s_C_weigh {X : Nat × (Nat → Int)} {d : Nat} {D : DD} {ts : List Nat} {val : List Nat → Nat} {b : Option (List Nat)} (hd : 1 ≤ d) (h3 : ts.length ≤ 3) (ht : AR D ts) (hb : AB D val b) : ∃ D', ev X d m_Ahead_weigh [vR 0 0, vI (val ts : Int), vI (ts.length : Int)] (hp D) = some (none, hp D') ∧ AB D' val (oR val b ts) ∧ fr aW D D' := by
  obtain ⟨d, rfl⟩ : ∃ e, d = e + 1 := ⟨d - 1, by omega⟩
  have take : ∃ D', at_ X d cd_Ahead_weigh 24 [vR 0 0, vI (val ts : Int), vI (ts.length : Int)] [] (hp D) = some (none, hp D') ∧ AB D' val (some ts) ∧ fr aW D D' := by
    rw [b_Ahead_weigh_24]
    refine ⟨_, rfl, ⟨?_, ?_, fun j hj => ?_⟩, fun t i k n => ?_⟩
    · rw [cpy_a, if_neg (by omega), u3_eq]
    · rw [cpy_a, if_neg (by omega), u3_k (by omega), u3_eq]
    · rw [cpy_a, if_pos (by omega), tn (n := j) (by omega), u3_t (by omega), u3_t (by omega)]
      exact ht j hj
    · unfold aW at n
      rw [cpy_a, if_neg (by omega), u3_a, if_neg (by omega), u3_a, if_neg (by omega)]
  rw [e_Ahead_weigh, b_Ahead_weigh_0]
  cases b with
  | none =>
    have hb : D 0 0 6 = -1 := hb
    rw [hb, if_pos (by omega)]
    exact take
  | some r =>
    obtain ⟨h1, h2, h4⟩ := hb
    rw [h1, h2]
    show ∃ D', _ ∧ AB D' val (some (sbR val r ts)) ∧ _
    unfold sbR
    by_cases c1 : val r < val ts
    · rw [if_pos (by omega), if_pos (by omega)]
      exact take
    · rw [if_neg (by omega)]
      by_cases c2 : val ts < val r
      · rw [if_pos (by omega), if_neg (by omega)]
        exact ⟨D, rfl, ⟨h1, h2, h4⟩, fr.rf D⟩
      · rw [if_neg (by omega)]
        by_cases c3 : ts.length < r.length
        · rw [if_neg (by omega), if_pos (by omega)]
          exact take
        · rw [if_pos (by omega), if_neg (by omega)]
          exact ⟨D, rfl, ⟨h1, h2, h4⟩, fr.rf D⟩
/-- the mind is set back -/
theorem SP.back {D : DD} {w' : Cr} {v0 w : Cr} (h : SP D w') (h0 : okc v0) (hw : lk3 v0 w) (e1 : cN w' = cN w) (e2 : cS w' = cS w) : SP (u3 (u3 (u3 D 3 15 4 (enc (cL v0) : Int)) 3 15 3 (bs (cL v0) : Int)) 3 15 2 ((cL v0).length : Int)) w := by
  obtain ⟨v3, g1, g2, g3, g4, g5⟩ := h
  obtain ⟨q0, q1, q2, q3, q4, q5, q6⟩ := g1
  refine ⟨(cN v3, cS v3, cL v0, cZ v3, cA v3), ?_, ⟨g2.1, h0.2.1, h0.2.2.1, ?_⟩, g3.trans e1, g4.trans e2, hw.2.2⟩
  · exact ⟨by simp [u3_a, q0], by simp [u3_a, q1], by simp [u3_a], by simp [u3_a], by simp [u3_a], by simp [u3_a, q5], fun t ht => by simp [u3_a, q6 t ht]⟩
  · show (cL v0).length ≤ cN v3
    rw [g3, e1, ← hw.1]
    exact h0.2.2.2
theorem s_C_askOn {X : Nat × (Nat → Int)} {S : St} {v : Cr} {q : Nat} (hS : SOK S) (h3 : q ≤ 3) : ∀ (f left d : Nat) (ts : List Nat) (b : Option (List Nat)) (D : DD), f + 9 ≤ d → CH D S → left < 65536 → ts.length + f = q → (∀ t ∈ ts, t < 16) → SP D (hrs v ts) → AR D ts → D 0 0 7 = (q : Int) → AB D (fun r => wrS (sW S).1 (bs (cL (hrs v r)))) b → ∃ D', ev X d m_Ahead_askOn [vR 0 0, vR 5 1, vI (left : Int), vI (ts.length : Int)] (hp D) = some (none, hp D') ∧ SP D' (hrs v ts) ∧ AR D' ts ∧ AB D' (fun r => wrS (sW S).1 (bs (cL (hrs v r)))) ((prL (fun _ _ => true) ((sW S).1 0) f left ts).foldl (oR (fun r => wrS (sW S).1 (bs (cL (hrs v r))))) b) ∧ fr aV D D' := by
  have h16 := hS.L.1.1
  have wg : ∀ (d left : Nat) (ts : List Nat) (b : Option (List Nat)) (D : DD), 8 ≤ d → CH D S → ts.length ≤ 3 → SP D (hrs v ts) → AR D ts → AB D (fun r => wrS (sW S).1 (bs (cL (hrs v r)))) b → ∃ D', at_ X d cd_Ahead_askOn 0 [vR 0 0, vR 5 1, vI (left : Int), vI (ts.length : Int), vU, vU, vU, vU] [] (hp D) = at_ X d cd_Ahead_askOn 16 [vR 0 0, vR 5 1, vI (left : Int), vI (ts.length : Int), vU, vU, vU, vU] [] (hp D') ∧ AB D' (fun r => wrS (sW S).1 (bs (cL (hrs v r)))) (oR (fun r => wrS (sW S).1 (bs (cL (hrs v r)))) b ts) ∧ fr aW D D' := by
    intro d left ts b D hd hC h3 hs ha hb
    obtain ⟨v1, l1, l2, l3⟩ := hs
    obtain ⟨D1, a1, a2, a3⟩ := s_C_weigh (X := X) (d := d) (D := D) (by omega) h3 ha hb
    rw [b_Ahead_askOn_0, l1.2.2.2.1, s_C_worthOf (by omega) hS.L hC.l (bs_31 l2.2.2.1)]
    simp only [ab_ci]
    have a1 : ev X d m_Ahead_weigh [vR 0 0, vI (wrS (sW S).1 (bs (cL v1)) : Int), vI (ts.length : Int)] (hp D) = some (none, hp D1) := by rw [l3.2.2]; exact a1
    rw [b_Ahead_askOn_12, a1]
    exact ⟨D1, rfl, a2, a3⟩
  intro f
  induction f with
  | zero =>
    intro left d ts b D hd hC hl hlen hts hs ha h7 hb
    obtain ⟨d, rfl⟩ : ∃ e, d = e + 1 := ⟨d - 1, by omega⟩
    obtain ⟨D1, a1, a2, a3⟩ := wg d left ts b D (by omega) hC (by omega) hs ha hb
    rw [e_Ahead_askOn, a1, b_Ahead_askOn_16, a3 0 0 7 (by unfold aW; omega), h7, if_pos (by omega), prL]
    obtain ⟨v1, l1, l2⟩ := hs
    exact ⟨D1, rfl, ⟨v1, l1.fr fun t k ht => a3 t 15 k (by unfold aW; omega), l2⟩, fun j hj => (a3 43 0 j (by unfold aW; omega)).trans (ha j hj), a2, a3.mo fun _ _ _ z => aW_aV z⟩
  | succ f ih =>
    intro left d ts b D hd hC hl hlen hts hs ha h7 hb
    obtain ⟨d, rfl⟩ : ∃ e, d = e + 1 := ⟨d - 1, by omega⟩
    obtain ⟨D1, a1, a2, a3⟩ := wg d left ts b D (by omega) hC (by omega) hs ha hb
    obtain ⟨v0, w1, w2, w3⟩ := hs
    have w1' : CC D1 15 v0 := w1.fr fun t k ht => a3 t 15 k (by unfold aW; omega)
    rw [e_Ahead_askOn, a1, b_Ahead_askOn_16, a3 0 0 7 (by unfold aW; omega), h7, if_neg (by omega), if_pos (by omega), w1'.2.2.2.2.1, w1'.2.2.2.1, prL, List.foldl_cons, List.foldl_flatMap]
    have key : ∀ (m p : Nat) (b : Option (List Nat)) (D1 : DD), p + m = (sW S).1 0 → SP D1 (hrs v ts) → AR D1 ts → AB D1 (fun r => wrS (sW S).1 (bs (cL (hrs v r)))) b → fr aV D D1 → ∃ D', at_ X d cd_Ahead_askOn 55 [vR 0 0, vR 5 1, vI (left : Int), vI (ts.length : Int), vL (enc (cL v0) : Int), vU, vI (bs (cL v0) : Int), vI (p : Int)] [] (hp D1) = some (none, hp D') ∧ SP D' (hrs v ts) ∧ AR D' ts ∧ AB D' (fun r => wrS (sW S).1 (bs (cL (hrs v r)))) ((List.range' p m).foldl (fun b t => (if (left.testBit t && true) = true then prL (fun _ _ => true) ((sW S).1 0) f (nd left (2 ^ t)) (ts ++ [t]) else []).foldl (oR (fun r => wrS (sW S).1 (bs (cL (hrs v r))))) b) b) ∧ fr aV D D' := by
      intro m
      induction m with
      | zero =>
        intro p b D1 hp8 hs ha hb hf
        have hC1 : CH D1 S := hC.scr hS (hf.mo fun _ _ _ z => aV_cX z)
        rw [b_Ahead_askOn_55, hC1.l.1.1, if_pos (by omega)]
        exact ⟨D1, rfl, hs, ha, hb, hf⟩
      | succ m ihm =>
        intro p b D1 hp8 hs ha hb hf
        have hC1 : CH D1 S := hC.scr hS (hf.mo fun _ _ _ z => aV_cX z)
        rw [List.range'_succ, List.foldl_cons, b_Ahead_askOn_55, hC1.l.1.1, if_neg (by omega), zb_bit (by omega) (by omega), Bool.and_true]
        by_cases hbit : left.testBit p = true
        · have h2 : 2 ^ p < 2 ^ 16 := zb_p2 (by omega)
          obtain ⟨v1, l1, l2, l3⟩ := hs
          have l1' : CC (u3 D1 43 0 ts.length (p : Int)) 15 v1 := l1.fr fun t k ht => by rw [u3_t (by omega)]
          obtain ⟨D2, a1, a2, a3⟩ := s_C_hear (X := X) (d := d) (D := u3 D1 43 0 ts.length (p : Int)) (i := 15) (t := p) (by omega) l2 l1' (by omega)
          have f3 : fr aV D1 D2 := ((fr.rf D1).u (Or.inl ⟨rfl, Or.inr (Or.inl rfl)⟩)).tr (a3.mo fun _ _ _ z => Or.inr (Or.inl z))
          have hn : ∀ t i k, ¬ cP 15 t i k → D2 t i k = u3 D1 43 0 ts.length (p : Int) t i k := a3
          have ehr : hrs v (ts ++ [p]) = hrV (hrs v ts) p := by unfold hrs; rw [List.foldl_append, List.foldl_cons, List.foldl_nil]
          obtain ⟨D3, c1, c2, c3, c4, c5⟩ := ih (nd left (2 ^ p)) d (ts ++ [p]) b D2 (by omega) (hC1.scr hS (f3.mo fun _ _ _ z => aV_cX z)) (nd_lt (k := 16) hl) (by rw [List.length_append, List.length_singleton]; omega) (fun t h => by
            rcases List.mem_append.mp h with z | z
            · exact hts t z
            · rw [List.mem_singleton.mp z]; omega) ⟨hrV v1 p, a2, l2.hr (by omega), by rw [ehr]; exact l3.hr p⟩ (fun j hj => (hn 43 0 j (by unfold cP; omega)).trans (ha.sn j hj)) (by rw [hn 0 0 7 (by unfold cP; omega), u3_t (by omega), hf 0 0 7 (by unfold aV cP; omega), h7]) (hb.on (by rw [hn 0 0 5 (by unfold cP; omega), u3_t (by omega)]) (by rw [hn 0 0 6 (by unfold cP; omega), u3_t (by omega)]) (fun j => by rw [hn 44 0 j (by unfold cP; omega), u3_t (by omega)]))
          rw [List.length_append, List.length_singleton] at c1
          rw [if_pos hbit, if_neg (by decide), if_pos hbit, if_pos (by omega), Int.toNat_natCast, a1]
          simp only [ab_ci]
          rw [b_Ahead_askOn_90, zb_sl (by omega), zb_nd (by omega) (by omega), zb_s (by omega), c1]
          simp only [ab_cv]
          rw [b_Ahead_askOn_107, s_C_setMind (by omega) w2.2.1 w2.2.2.1]
          simp only [ab_cv]
          rw [b_Ahead_askOn_118, zb_s (by omega)]
          refine ihm (p + 1) _ _ (by omega) (c2.back w2 w3 (by rw [ehr]; rfl) (by rw [ehr]; rfl)) (fun j hj => ?_) (c4.on ?_ ?_ (fun j => ?_)) ((((hf.tr (f3.tr c5)).u (Or.inr (Or.inl ⟨Or.inl rfl, rfl⟩))).u (Or.inr (Or.inl ⟨Or.inl rfl, rfl⟩))).u (Or.inr (Or.inl ⟨Or.inl rfl, rfl⟩)))
          · rw [u3_t (by omega), u3_t (by omega), u3_t (by omega)]; exact (AR.pre c3) j hj
          · rw [u3_t (by omega), u3_t (by omega), u3_t (by omega)]
          · rw [u3_t (by omega), u3_t (by omega), u3_t (by omega)]
          · rw [u3_t (by omega), u3_t (by omega), u3_t (by omega)]
        · rw [if_neg hbit, if_pos (by decide), if_neg hbit, b_Ahead_askOn_118, zb_s (by omega)]
          exact ihm (p + 1) b D1 (by omega) hs ha hb hf
    exact key ((sW S).1 0) 0 _ D1 (by omega) ⟨v0, w1', w2, w3⟩ (fun j hj => (a3 43 0 j (by unfold aW; omega)).trans (ha j hj)) a2 (a3.mo fun _ _ _ z => aW_aV z)
end
