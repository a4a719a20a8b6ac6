/-! road, questions: the reference -/
section
def stV (L : Nat → Nat) (inn : Int) (v : Cr) (t : Nat) : Cr := if inn = -1 then hrV v t else if t ∈ cL v then sayV L v t else v
def lfV (L : Nat → Nat) (inn : Int) (v : Cr) (r : List Nat) : Cr := if inn = -1 then r.foldl (stV L inn) v else walkV L (r.foldl (stV L inn) v) inn.toNat
def vaR (L : Nat → Nat) (inn : Int) (v : Cr) (r : List Nat) : Nat := wrS L (bs (cL (lfV L inn v r)))
theorem okc.st {L : Nat → Nat} {inn : Int} {v : Cr} (h : okc v) {t : Nat} (ht : t < 16) : okc (stV L inn v t) := by
  unfold stV
  split
  · exact h.hr ht
  · split
    · exact h.say ht
    · exact h
theorem okc.sts {L : Nat → Nat} {inn : Int} : ∀ (r : List Nat) (v : Cr), okc v → (∀ t ∈ r, t < 16) → okc (r.foldl (stV L inn) v) := by
  intro r
  induction r with
  | nil => exact fun v h _ => h
  | cons t r ih => exact fun v h ht => ih _ (h.st (ht t List.mem_cons_self)) fun u hu => ht u (List.mem_cons_of_mem _ hu)
theorem okc.lf {L : Nat → Nat} {inn : Int} {v : Cr} {r : List Nat} (hL : LOK L) (h : okc v) (hi : inn < 10) (ht : ∀ t ∈ r, t < 16) : okc (lfV L inn v r) := by
  unfold lfV
  split
  · exact okc.sts r v h ht
  · exact (okc.sts r v h ht).walk hL (by omega)
def oR (val : List Nat → Nat) (b : Option (List Nat)) (r : List Nat) : Option (List Nat) := match b with
  | none => some r
  | some b => some (sbR val b r)
theorem oR_some (val : List Nat → Nat) (l : List (List Nat)) : ∀ b : List Nat, l.foldl (oR val) (some b) = some (l.foldl (sbR val) b) := by
  induction l with
  | nil => exact fun b => rfl
  | cons r l ih => exact fun b => ih _
theorem oR_none (val : List Nat → Nat) (l : List (List Nat)) : ([] :: l).foldl (oR val) none = some (bsR val ([] :: l)) := by
  show l.foldl (oR val) (some []) = _
  rw [oR_some]
  unfold bsR
  rw [List.foldl_cons, sbR_0]
def RB (D : DD) (val : List Nat → Nat) (b : Option (List Nat)) : Prop := match b with
  | none => D 12 0 33 = -1
  | some r => D 12 0 33 = (r.length : Int) ∧ D 12 0 24 = (val r : Int) ∧ ∀ j, j < r.length → D 37 0 j = (r.getD j 0 : Nat)
theorem RB.on {D D' : DD} {val : List Nat → Nat} {b : Option (List Nat)} (h : RB D val b) (e1 : D' 12 0 33 = D 12 0 33) (e2 : D' 12 0 24 = D 12 0 24) (e3 : ∀ j, D' 37 0 j = D 37 0 j) : RB D' val b := by
  cases b with
  | none => exact e1.trans h
  | some r => exact ⟨e1.trans h.1, e2.trans h.2.1, fun j hj => (e3 j).trans (h.2.2 j hj)⟩
def TR (D : DD) (ts : List Nat) : Prop := ∀ k, k < ts.length → D 36 0 k = (ts.getD k 0 : Nat)
theorem TR.pre {D : DD} {row r : List Nat} (h : TR D (row ++ r)) : TR D row := fun j hj => by
  have := h j (by rw [List.length_append]; omega)
  rw [getD_app, if_pos hj] at this
  exact this
def rQ : Nat → Nat → Nat → Prop := fun t i k => mP (mB 6) t i k ∨ (i = 0 ∧ ((t = 12 ∧ (k = 24 ∨ k = 33)) ∨ t = 36 ∨ t = 37))
theorem rQ_mX {t i k : Nat} (h : rQ t i k) : mX t i k := by
  rcases h with h | h
  · unfold mP at h
    have e6 : mB 6 = 327 := by decide
    unfold mX
    omega
  · unfold mX; omega
theorem s_M_isBest {X : Nat × (Nat → Int)} {d : Nat} {D : DD} {ts : List Nat} {val : List Nat → Nat} {b : Option (List Nat)} (hd : 1 ≤ d) (h3 : ts.length ≤ 3) (ht : TR D ts) (hb : RB D val b) : ∃ D', ev X d m_M_isBest [vR 12 0, vI (val ts : Int), vI (ts.length : Int)] (hp D) = some (none, hp D') ∧ TR D' ts ∧ RB D' val (oR val b ts) ∧ fr rQ D D' := by
  obtain ⟨d, rfl⟩ : ∃ e, d = e + 1 := ⟨d - 1, by omega⟩
  have cp : ∀ (m k : Nat) (v1 : ab_V) (D2 : DD), k + m = ts.length → TR D2 ts → D2 12 0 24 = (val ts : Int) → D2 12 0 33 = (ts.length : Int) → (∀ j, j < k → D2 37 0 j = (ts.getD j 0 : Nat)) → fr rQ D D2 → ∃ D', at_ X d cd_M_isBest 45 [vR 12 0, v1, vI (ts.length : Int), vI (k : Int)] [] (hp D2) = some (none, hp D') ∧ TR D' ts ∧ RB D' val (some ts) ∧ fr rQ D D' := by
    intro m
    induction m with
    | zero =>
      intro k v1 D2 hk c1 c2 c3 c4 cf
      rw [b_M_isBest_45, if_pos (by omega)]
      exact ⟨D2, rfl, c1, ⟨c3, c2, fun j hj => c4 j (by omega)⟩, cf⟩
    | succ m ih =>
      intro k v1 D2 hk c1 c2 c3 c4 cf
      rw [b_M_isBest_45, if_neg (by omega), if_pos (by omega), if_pos (by omega), Int.toNat_natCast, c1 k (by omega), zb_s (by omega)]
      refine ih (k + 1) vU _ (by omega) (fun j hj => by rw [u3_t (by omega)]; exact c1 j hj) (by rw [u3_t (by omega), c2]) (by rw [u3_t (by omega), c3]) (fun j hj => ?_) (cf.u (Or.inr ⟨rfl, Or.inr (Or.inr rfl)⟩))
      rw [u3_a]
      by_cases e : j = k
      · rw [if_pos ⟨rfl, rfl, e⟩, e]
      · rw [if_neg (fun z => e z.2.2)]
        exact c4 j (by omega)
  have take : ∃ D', at_ X d cd_M_isBest 33 [vR 12 0, vI (val ts : Int), vI (ts.length : Int), vU] [] (hp D) = some (none, hp D') ∧ TR D' ts ∧ RB D' val (some ts) ∧ fr rQ D D' := by
    rw [b_M_isBest_33]
    exact cp ts.length 0 _ _ (by omega) (fun j hj => by rw [u3_t (by omega), u3_t (by omega)]; exact ht j hj) (by rw [u3_k (by omega), u3_eq]) (by rw [u3_eq]) (fun j hj => by omega) (((fr.rf D).u (Or.inr ⟨rfl, Or.inl ⟨rfl, Or.inl rfl⟩⟩)).u (Or.inr ⟨rfl, Or.inl ⟨rfl, Or.inr rfl⟩⟩))
  rw [e_M_isBest, b_M_isBest_0]
  cases b with
  | none =>
    have hb : D 12 0 33 = -1 := hb
    rw [if_pos hb]
    exact take
  | some r =>
    obtain ⟨h1, h2, h4⟩ := hb
    rw [h1, h2, if_neg (by omega)]
    show ∃ D', _ ∧ _ ∧ RB D' val (some (sbR val r ts)) ∧ _
    unfold sbR
    by_cases c1 : val r < val ts
    · rw [if_neg (by omega), if_pos (by omega), if_pos (Or.inl c1)]
      exact take
    · by_cases c2 : val ts < val r
      · rw [if_pos (by omega), if_neg (by omega)]
        exact ⟨D, rfl, ht, ⟨h1, h2, h4⟩, fr.rf D⟩
      · rw [if_neg (by omega), if_neg (by omega)]
        by_cases c3 : ts.length < r.length
        · rw [if_pos (by omega), if_pos (by omega)]
          exact take
        · rw [if_neg (by omega), if_neg (by omega)]
          exact ⟨D, rfl, ht, ⟨h1, h2, h4⟩, fr.rf D⟩
theorem s_M_leaf {X : Nat × (Nat → Int)} {d : Nat} {D : DD} {S : St} {c : Nat} {inn : Int} {ts : List Nat} {b : Option (List Nat)} {p2 p4 : Int} (hd : 8 ≤ d) (hS : SOK S) (hM : MH D S) (hc : c < (sW S).2.1.length) (h3 : ts.length ≤ 3) (hts : ∀ t ∈ ts, t < 16) (hi : -1 ≤ inn) (hi9 : inn < 10) (h : TR D ts) (hb : RB D (vaR (sW S).1 inn (mnD S c)) b) (hl : (ts.length : Int) = p4) : ∃ D', at_ X d cd_M_rowsOf 0 [vR 12 0, vI (c : Int), vI p2, vI (ts.length : Int), vI p4, vI inn, vU] [] (hp D) = some (none, hp D') ∧ TR D' ts ∧ RB D' (vaR (sW S).1 inn (mnD S c)) (oR (vaR (sW S).1 inn (mnD S c)) b ts) ∧ fr rQ D D' := by
  have n6 := hS.n6
  have hok := hS.oc hc
  have hL := hS.L
  obtain ⟨D1, a1, a2, a3⟩ := s_M_triesAs (X := X) (d := d) (D := D) (c := c) (v := mnD S c) (by omega) (by omega) hok (hM.mc hc)
  have hout : ∀ D2, fr (mP (mB 6)) D D2 → ∀ t k, t ≠ 22 → D2 t 0 k = D t 0 k := fun D2 e t k ht => e t 0 k (by unfold mP; omega)
  have fin : ∀ (D2 : DD) (w : Cr) (v5 : ab_V), okc w → MC D2 (mB 6) w → fr (mP (mB 6)) D D2 → wrS (sW S).1 (bs (cL w)) = vaR (sW S).1 inn (mnD S c) ts → ∃ D', at_ X d cd_M_rowsOf 94 [vR 12 0, vU, vU, vI (ts.length : Int), vU, v5, vU] [] (hp D2) = some (none, hp D') ∧ TR D' ts ∧ RB D' (vaR (sW S).1 inn (mnD S c)) (oR (vaR (sW S).1 inn (mnD S c)) b ts) ∧ fr rQ D D' := by
    intro D2 w v5 hw hm e ev9
    have hlm : LM D2 (sW S).1 := hM.l.fm (b := mB 6) (by decide) e
    have b1 := s_M_bitsIn (X := X) (d := d) (D := D2) (c := 6) (by omega) (by omega) hm ⟨hw.2.1, hw.2.2.1, by have := hw.2.2.2; have := hw.1.2.1; omega⟩
    have b1 : ev X d m_M_bitsIn [vR 12 0, vI 6] (hp D2) = _ := b1
    obtain ⟨D3, g1, g2, g3, g4⟩ := s_M_isBest (X := X) (d := d) (D := D2) (ts := ts) (val := vaR (sW S).1 inn (mnD S c)) (b := b) (by omega) h3 (fun j hj => (hout D2 e 36 j (by omega)).trans (h j hj)) (hb.on (hout D2 e 12 33 (by omega)) (hout D2 e 12 24 (by omega)) (fun j => hout D2 e 37 j (by omega)))
    rw [b_M_rowsOf_94, b1]
    simp only [ab_ci]
    rw [b_M_rowsOf_102, s_M_worthOf (by omega) hL hlm (bs_31 hw.2.2.1), ev9]
    simp only [ab_ci]
    rw [b_M_rowsOf_105, g1]
    simp only [ab_cv]
    rw [b_M_rowsOf_109]
    exact ⟨D3, rfl, g2, g3, (e.mo fun _ _ _ z => Or.inl z).tr g4⟩
  have key : ∀ (m k : Nat) (v1 v2 v4 : ab_V) (w : Cr) (D2 : DD), k + m = ts.length → okc w → MC D2 (mB 6) w → fr (mP (mB 6)) D D2 → (ts.drop k).foldl (stV (sW S).1 inn) w = ts.foldl (stV (sW S).1 inn) (mnD S c) → ∃ D', at_ X d cd_M_rowsOf 14 [vR 12 0, v1, v2, vI (ts.length : Int), v4, vI inn, vI (k : Int)] [] (hp D2) = some (none, hp D') ∧ TR D' ts ∧ RB D' (vaR (sW S).1 inn (mnD S c)) (oR (vaR (sW S).1 inn (mnD S c)) b ts) ∧ fr rQ D D' := by
    intro m
    induction m with
    | zero =>
      intro k v1 v2 v4 w D2 hk hw hm e hf
      have hlm : LM D2 (sW S).1 := hM.l.fm (b := mB 6) (by decide) e
      rw [List.drop_eq_nil_of_le (by omega), List.foldl_nil] at hf
      rw [b_M_rowsOf_14, if_pos (by omega)]
      by_cases ci : inn = -1
      · rw [if_pos ci]
        refine fin D2 w _ hw hm e ?_
        unfold vaR lfV
        rw [if_pos ci, ← hf]
      · rw [if_neg ci]
        obtain ⟨j, rfl⟩ : ∃ t : Nat, inn = (t : Int) := ⟨inn.toNat, by omega⟩
        obtain ⟨D3, c1, c2, c3⟩ := s_M_walk (X := X) (d := d) (D := D2) (c := 6) (to := j) (by omega) (by omega) hL hlm hw hm (by omega)
        have c1 : ev X d m_M_walk [vR 12 0, vI 6, vI (j : Int)] (hp D2) = _ := c1
        rw [c1]
        simp only [ab_ci]
        rw [b_M_rowsOf_93]
        refine fin D3 _ _ (hw.walk hL (by omega)) c2 (e.tr c3) ?_
        unfold vaR lfV
        rw [if_neg ci, ← hf, Int.toNat_natCast]
    | succ m ih =>
      intro k v1 v2 v4 w D2 hk hw hm e hf
      have hlm : LM D2 (sW S).1 := hM.l.fm (b := mB 6) (by decide) e
      have h16 := hts _ (say_mem (l := ts) (k := k) (by omega))
      have e36 : D2 36 0 k = (ts.getD k 0 : Nat) := (hout D2 e 36 k (by omega)).trans (h k (by omega))
      rw [drop_gN (show k < ts.length by omega), List.foldl_cons] at hf
      rw [b_M_rowsOf_14, if_neg (by omega)]
      by_cases ci : inn = -1
      · rw [if_neg (fun z => z ci), if_pos (by omega), Int.toNat_natCast, e36]
        obtain ⟨D3, c1, c2, c3⟩ := s_M_hear (X := X) (d := d) (D := D2) (c := 6) (t := ts.getD k 0) (by omega) (by omega) hw hm h16
        have c1 : ev X d m_M_hear [vR 12 0, vI 6, vI ((ts.getD k 0 : Nat) : Int)] (hp D2) = _ := c1
        rw [c1]
        simp only [ab_ci]
        rw [b_M_rowsOf_39, b_M_rowsOf_73, zb_s (by omega)]
        refine ih (k + 1) vU vU vU _ D3 (by omega) (hw.hr h16) c2 (e.tr c3) ?_
        rw [← hf]
        unfold stV
        rw [if_pos ci]
      · have b1 := s_M_has (X := X) (d := d) (D := D2) (c := 6) (t := ts.getD k 0) (by omega) (by omega) hm (by have := hw.2.2.2; have := hw.1.2.1; omega)
        have b1 : ev X d m_M_has [vR 12 0, vI 6, vI ((ts.getD k 0 : Nat) : Int)] (hp D2) = _ := b1
        rw [if_pos ci, if_pos (by omega), Int.toNat_natCast, e36, b1]
        simp only [ab_ci]
        rw [b_M_rowsOf_56]
        by_cases hh : ts.getD k 0 ∈ cL w
        · obtain ⟨D3, c1, c2, c3⟩ := s_M_say (X := X) (d := d) (D := D2) (c := 6) (t := ts.getD k 0) (by omega) (by omega) hL hlm hw hm h16
          have c1 : ev X d m_M_say [vR 12 0, vI 6, vI ((ts.getD k 0 : Nat) : Int)] (hp D2) = _ := c1
          rw [if_pos hh, if_neg (by decide), if_pos (by omega), Int.toNat_natCast, e36, c1]
          simp only [ab_ci]
          rw [b_M_rowsOf_72, b_M_rowsOf_73, zb_s (by omega)]
          refine ih (k + 1) vU vU vU _ D3 (by omega) (hw.say h16) c2 (e.tr c3) ?_
          rw [← hf]
          show _ = List.foldl _ (stV (sW S).1 inn w (ts.getD k 0)) _
          rw [show stV (sW S).1 inn w (ts.getD k 0) = sayV (sW S).1 w (ts.getD k 0) by unfold stV; rw [if_neg ci, if_pos hh]]
        · rw [if_neg hh, if_pos rfl, b_M_rowsOf_73, zb_s (by omega)]
          refine ih (k + 1) vU vU vU _ D2 (by omega) hw hm e ?_
          rw [← hf]
          rw [show stV (sW S).1 inn w (ts.getD k 0) = w by unfold stV; rw [if_neg ci, if_neg hh]]
  rw [b_M_rowsOf_0, if_neg (fun z => z hl), a1]
  simp only [ab_cv]
  rw [b_M_rowsOf_11]
  exact key ts.length 0 _ _ _ (mnD S c) D1 (by omega) hok a2 a3 rfl
theorem s_M_rowsOf {X : Nat × (Nat → Int)} {S : St} {c : Nat} {inn : Int} (hS : SOK S) (hc : c < (sW S).2.1.length) (hi : -1 ≤ inn) (hi9 : inn < 10) : ∀ (f left d : Nat) (ts : List Nat) (b : Option (List Nat)) (D : DD), f + 9 ≤ d → MH D S → left < 65536 → ts.length + f ≤ 3 → (∀ t ∈ ts, t < 16) → TR D ts → RB D (vaR (sW S).1 inn (mnD S c)) b → ∃ D', ev X d m_M_rowsOf [vR 12 0, vI (c : Int), vI (left : Int), vI (ts.length : Int), vI ((ts.length + f : Nat) : Int), vI inn] (hp D) = some (none, hp D') ∧ TR D' ts ∧ RB D' (vaR (sW S).1 inn (mnD S c)) ((lvL ((sW S).1 0) f left ts).foldl (oR (vaR (sW S).1 inn (mnD S c))) b) ∧ fr rQ D D' := by
  have h16 := hS.L.1.1
  intro f
  induction f with
  | zero =>
    intro left d ts b D hd hM hl hlen hts ht hb
    obtain ⟨d, rfl⟩ : ∃ e, d = e + 1 := ⟨d - 1, by omega⟩
    rw [e_M_rowsOf, lvL]
    exact s_M_leaf (by omega) hS hM hc (by omega) hts hi hi9 ht hb (by omega)
  | succ f ih =>
    intro left d ts b D hd hM hl hlen hts ht hb
    obtain ⟨d, rfl⟩ : ∃ e, d = e + 1 := ⟨d - 1, by omega⟩
    rw [e_M_rowsOf, lvL, b_M_rowsOf_0, if_pos (by omega), List.foldl_flatMap]
    have key : ∀ (m p : Nat) (b : Option (List Nat)) (D1 : DD), p + m = (sW S).1 0 → TR D1 ts → RB D1 (vaR (sW S).1 inn (mnD S c)) b → fr rQ D D1 → ∃ D', at_ X d cd_M_rowsOf 113 [vR 12 0, vI (c : Int), vI (left : Int), vI (ts.length : Int), vI ((ts.length + (f + 1) : Nat) : Int), vI inn, vI (p : Int)] [] (hp D1) = some (none, hp D') ∧ TR D' ts ∧ RB D' (vaR (sW S).1 inn (mnD S c)) ((List.range' p m).foldl (fun b t => (if left.testBit t = true then lvL ((sW S).1 0) f (nd left (2 ^ t)) (ts ++ [t]) else []).foldl (oR (vaR (sW S).1 inn (mnD S c))) b) b) ∧ fr rQ D D' := by
      intro m
      induction m with
      | zero =>
        intro p b D1 hp8 ht hb hf
        have hM1 : MH D1 S := hM.scr hS (hf.mo fun _ _ _ z => rQ_mX z)
        have e0 : D1 22 0 0 = ((sW S).1 0 : Int) := hM1.l 0 (by omega)
        rw [b_M_rowsOf_113, e0, if_pos (by omega)]
        exact ⟨D1, rfl, ht, hb, hf⟩
      | succ m ihm =>
        intro p b D1 hp8 ht hb hf
        have hM1 : MH D1 S := hM.scr hS (hf.mo fun _ _ _ z => rQ_mX z)
        have e0 : D1 22 0 0 = ((sW S).1 0 : Int) := hM1.l 0 (by omega)
        rw [List.range'_succ, List.foldl_cons, b_M_rowsOf_113, e0, if_neg (by omega), zb_bit (by omega) (by omega)]
        by_cases hbit : left.testBit p = true
        · have h2 : 2 ^ p < 2 ^ 16 := zb_p2 (by omega)
          have f2 : fr rQ D1 (u3 D1 36 0 ts.length (p : Int)) := (fr.rf D1).u (Or.inr ⟨rfl, Or.inr (Or.inl rfl)⟩)
          have t2 : TR (u3 D1 36 0 ts.length (p : Int)) (ts ++ [p]) := by
            intro j hj
            rw [List.length_append, List.length_singleton] at hj
            rw [u3_a, getD_snoc (by omega)]
            by_cases e : j = ts.length
            · rw [if_pos ⟨rfl, rfl, e⟩, if_pos e]
            · rw [if_neg (fun z => e z.2.2), if_neg e]
              exact ht j (by omega)
          have b2 : RB (u3 D1 36 0 ts.length (p : Int)) (vaR (sW S).1 inn (mnD S c)) b := hb.on (by rw [u3_t (by omega)]) (by rw [u3_t (by omega)]) (fun j => by rw [u3_t (by omega)])
          obtain ⟨D3, c1, c2, c3, c4⟩ := ih (nd left (2 ^ p)) d (ts ++ [p]) b _ (by omega) (hM1.scr hS (f2.mo fun _ _ _ z => rQ_mX z)) (nd_lt (k := 16) hl) (by rw [List.length_append, List.length_singleton]; omega) (fun t h => by
            rcases List.mem_append.mp h with z | z
            · exact hts t z
            · rw [List.mem_singleton.mp z]; omega) t2 b2
          rw [List.length_append, List.length_singleton, show ts.length + 1 + f = ts.length + (f + 1) by omega] at c1
          rw [if_pos hbit, if_pos (by decide), if_pos hbit, if_pos (by omega), Int.toNat_natCast, zb_sl (by omega), zb_nd (by omega) (by omega), zb_s (by omega), c1]
          simp only [ab_cv]
          rw [b_M_rowsOf_164, zb_s (by omega)]
          exact ihm (p + 1) _ D3 (by omega) (TR.pre c2) c3 ((hf.tr f2).tr c4)
        · rw [if_neg hbit, if_neg (by decide), if_neg hbit, b_M_rowsOf_164, zb_s (by omega)]
          exact ihm (p + 1) b D1 (by omega) ht hb hf
    exact key ((sW S).1 0) 0 b D (by omega) ht hb (fr.rf D)
end
