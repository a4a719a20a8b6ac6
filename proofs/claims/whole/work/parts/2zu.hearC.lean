/-! hearings of the class: refusals, by rule, through -/
section
def tsR (S : St) (x : Int) : List Nat := (rwD S x.toNat).2.map Int.toNat
theorem tsR_lt {S : St} {x : Int} (h : atI (sW S).1 (rwD S x.toNat).2 = 1) : ∀ t ∈ tsR S x, t < (sW S).1 0 := by
  intro t ht
  obtain ⟨y, hy, rfl⟩ := List.mem_map.mp ht
  have := atI_1 h y hy
  omega
theorem tsR_len (S : St) (x : Int) : (tsR S x).length = (rwD S x.toNat).2.length := List.length_map ..
def rhI (S : St) (x size law last : Int) : Int := if law < 0 ∨ last < law then -2 else if rrI S x = 0 then (if (1 ≤ size ∧ size ≤ 9) ∧ atI (sW S).1 (rwD S x.toNat).2 = 1 then 0 else -3) else rrI S x
theorem s_C_isSize {X : Nat × (Nat → Int)} {d : Nat} {D : DD} {x : Int} (hd : 1 ≤ d) : ev X d m_N_isSize [vI x] (hp D) = some (some (vI (if 1 ≤ x ∧ x ≤ 9 then 1 else 0)), hp D) := by
  obtain ⟨d, rfl⟩ : ∃ e, d = e + 1 := ⟨d - 1, by omega⟩
  rw [e_N_isSize, b_N_isSize_0]
  by_cases h1 : x < 1
  · rw [if_pos h1, if_neg (by omega)]
  · by_cases h2 : 9 < x
    · rw [if_neg h1, if_pos h2, if_neg (by omega)]
    · rw [if_neg h1, if_neg h2, if_pos (by omega)]
theorem s_C_refHear {X : Nat × (Nat → Int)} {d : Nat} {D : DD} {S : St} {x size law last : Int} (hd : 4 ≤ d) (hS : SOK S) (hC : CH D S) : ∃ D', ev X d m_N_refusalOfHearings [vR 11 0, vI x, vI size, vI law, vI last] (hp D) = some (some (vI (rhI S x size law last)), hp D') ∧ (rhI S x size law last = 0 → HR D' (tsR S x)) ∧ fr hP_ D D' := by
  obtain ⟨d, rfl⟩ : ∃ e, d = e + 1 := ⟨d - 1, by omega⟩
  rw [e_N_refusalOfHearings, b_N_refusalOfHearings_0]
  unfold rhI
  by_cases h0 : law < 0 ∨ last < law
  · rw [if_pos h0]
    refine ⟨D, ?_, (fun z => by cases z), fr.rf D⟩
    by_cases h1 : law < 0
    · rw [if_pos h1]
    · rw [if_neg h1, if_neg (by omega)]
  rw [if_neg h0, if_neg (by omega), if_pos (by omega), s_C_refusalOfRow (by omega) hC]
  simp only [ab_ci]
  rw [b_N_refusalOfHearings_18]
  by_cases h2 : rrI S x = 0
  · obtain ⟨r, rfl, hr, er⟩ := rrI_0 h2
    have hrc := hC.2.2.1 r hr
    have hro := hS.2.2.1 r hr
    rw [er] at hrc hro
    rw [if_pos h2, if_pos h2, s_C_isSize (by omega), Int.toNat_natCast]
    simp only [ab_ci]
    rw [b_N_refusalOfHearings_32]
    by_cases h3 : 1 ≤ size ∧ size ≤ 9
    · obtain ⟨D1, g1, g2, g3⟩ := s_C_takeRow (X := X) (d := d) (D := D) (r := r) (q := 1) (by omega) hS.L hC.l hrc hro
      rw [if_pos h3, if_neg (by decide), if_pos (by omega), Int.toNat_natCast, R21 hr]
      simp only [ab_rf]
      rw [b_N_refusalOfHearings_45, g1]
      simp only [ab_ci]
      rw [b_N_refusalOfHearings_52]
      rcases atI_01 (sW S).1 (rwD S r).2 with e | e
      · rw [e, if_neg (by decide), if_pos (And.intro h3 rfl)]
        exact ⟨D1, rfl, fun _ => g2 e, g3⟩
      · rw [e, if_pos rfl, if_neg (fun z => by have := z.2; omega)]
        exact ⟨D1, rfl, (fun z => by cases z), g3⟩
    · rw [if_neg h3, if_pos rfl, if_neg (fun z => h3 z.1)]
      exact ⟨D, rfl, (fun z => by cases z), fr.rf D⟩
  · rw [if_neg h2, if_neg h2]
    exact ⟨D, rfl, fun z => absurd z h2, fr.rf D⟩
theorem rhI_0 {S : St} {x size law last : Int} (h : rhI S x size law last = 0) : (0 ≤ law ∧ law ≤ last) ∧ rrI S x = 0 ∧ (1 ≤ size ∧ size ≤ 9) ∧ atI (sW S).1 (rwD S x.toNat).2 = 1 := by
  unfold rhI at h
  split at h
  · cases h
  · split at h
    · split at h
      · rename_i h1 h2 h3
        exact ⟨by omega, h2, h3.1, h3.2⟩
      · cases h
    · rename_i h1 h2
      exact absurd h h2
-- by rule
def nrF (say : Bool) (z : Cr × Nat) (t : Nat) : Cr × Nat := if t ∈ cL z.1 then (if say = true then (hrV z.1 t, z.2) else z) else (hrV z.1 t, z.2 + 1)
def nrV (say : Bool) (n : Nat) (ts : List Nat) : Cr × Nat := ts.foldl (nrF say) (emV n, 0)
theorem nrF_ok {say : Bool} {z : Cr × Nat} {t : Nat} (ht : t < 16) (h : okc z.1) : okc (nrF say z t).1 ∧ (nrF say z t).2 ≤ z.2 + 1 := by
  unfold nrF
  split
  · split
    · exact ⟨h.hr ht, by show z.2 ≤ z.2 + 1; omega⟩
    · exact ⟨h, by omega⟩
  · exact ⟨h.hr ht, Nat.le_refl _⟩
theorem nrV_ok {say : Bool} {ts : List Nat} (hts : ∀ t ∈ ts, t < 16) {z : Cr × Nat} (h : okc z.1) : okc (ts.foldl (nrF say) z).1 ∧ (ts.foldl (nrF say) z).2 ≤ z.2 + ts.length := by
  induction ts generalizing z with
  | nil => exact ⟨h, Nat.le_refl _⟩
  | cons t ts ih =>
    obtain ⟨k1, k2⟩ := nrF_ok (say := say) (hts t List.mem_cons_self) h
    obtain ⟨r1, r2⟩ := ih (fun u hu => hts u (List.mem_cons_of_mem _ hu)) k1
    exact ⟨r1, by rw [List.foldl_cons, List.length_cons]; omega⟩
def hQ : Nat → Nat → Nat → Prop := fun t i k => (t = 4 ∧ k = 1) ∨ cP 12 t i k
theorem hQ_cX {t i k : Nat} (h : hQ t i k) : cX t i k := by unfold hQ cP at h; unfold cX; omega
theorem HR.fq {D D' : DD} {ts : List Nat} (h : HR D ts) (e : fr hQ D D') : HR D' ts := ⟨(e 4 0 2 (by unfold hQ cP; omega)).trans h.1, fun k hk => (e 48 0 k (by unfold hQ cP; omega)).trans (h.2 k hk)⟩
theorem drop_gN {l : List Nat} {k : Nat} (h : k < l.length) : l.drop k = l.getD k 0 :: l.drop (k + 1) := by
  rw [List.drop_eq_getElem_cons h, List.getD_eq_getElem?_getD, List.getElem?_eq_getElem h]
  rfl
theorem s_C_byRule {X : Nat × (Nat → Int)} {d : Nat} {D : DD} {n : Nat} {say : Bool} {ts : List Nat} (hd : 6 ≤ d) (h1 : 1 ≤ n) (h9 : n ≤ 9) (h40 : ts.length ≤ 40) (hts : ∀ t ∈ ts, t < 16) (hr : HR D ts) : ∃ D', ev X d m_Hearings_newByRule [vR 4 0, vI (n : Int), vI (bI say)] (hp D) = some (some (vI ((nrV say n ts).2 : Int)), hp D') ∧ D' 4 0 1 = (bs (cL (nrV say n ts).1) : Int) ∧ fr hQ D D' := by
  obtain ⟨d, rfl⟩ : ∃ e, d = e + 1 := ⟨d - 1, by omega⟩
  have key : ∀ (m k : Nat) (D : DD) (z : Cr × Nat) (v1 : ab_V), k + m = ts.length → HR D ts → okc z.1 → z.2 ≤ k → CC D 12 z.1 → ∃ D', at_ X d cd_Hearings_newByRule 13 [vR 4 0, v1, vI (bI say), vI (z.2 : Int), vI (k : Int), vU] [] (hp D) = some (some (vI (((ts.drop k).foldl (nrF say) z).2 : Int)), hp D') ∧ D' 4 0 1 = (bs (cL ((ts.drop k).foldl (nrF say) z).1) : Int) ∧ fr hQ D D' := by
    intro m
    induction m with
    | zero =>
      intro k D z v1 hk hr oz hz hc
      rw [b_Hearings_newByRule_13, hr.1, if_pos (by omega), List.drop_of_length_le (by omega), hc.2.2.2.1]
      exact ⟨_, rfl, u3_eq _ _ _ _ _, (fr.rf D).u (Or.inl ⟨rfl, rfl⟩)⟩
    | succ m ih =>
      intro k D z v1 hk hr oz hz hc
      have ht := hts _ (say_mem (l := ts) (k := k) (by omega))
      rw [b_Hearings_newByRule_13, hr.1, if_neg (by omega), if_pos (by omega), Int.toNat_natCast, hr.2 k (by omega), s_C_has (l := cL z.1) (by omega) hc.2.2.2.1 oz.2.2.1 ht, drop_gN (by omega), List.foldl_cons]
      simp only [ab_ci]
      rw [b_Hearings_newByRule_36]
      obtain ⟨D1, g1, g2, g3⟩ := s_C_hear (X := X) (d := d) (D := D) (i := 12) (t := ts.getD k 0) (v := z.1) (by omega) oz hc ht
      have f1 : fr hQ D D1 := g3.mo fun _ _ _ z => Or.inr z
      have hear : ∀ (l3 : Int) (v5 : ab_V), at_ X d cd_Hearings_newByRule 63 [vR 4 0, vU, vI (bI say), vI l3, vI (k : Int), v5] [] (hp D) = at_ X d cd_Hearings_newByRule 13 [vR 4 0, vU, vI (bI say), vI l3, vI ((k + 1 : Nat) : Int), vU] [] (hp D1) := by
        intro l3 v5
        rw [b_Hearings_newByRule_63, if_pos (by omega), Int.toNat_natCast, hr.2 k (by omega), g1]
        simp only [ab_ci]
        rw [b_Hearings_newByRule_77, b_Hearings_newByRule_78, zb_s (by omega)]
      generalize ts.getD k 0 = t at ht g2 ⊢
      by_cases hm : t ∈ cL z.1
      · rw [if_pos hm, if_pos (by decide), b_Hearings_newByRule_44, if_pos rfl, b_Hearings_newByRule_54, if_neg (by decide)]
        cases hs : say with
        | true =>
          have e : nrF true z t = (hrV z.1 t, z.2) := by unfold nrF; rw [if_pos hm, if_pos rfl]
          rw [hs] at hear ih
          rw [if_neg (show ¬ bI true = 0 by decide), hear, e]
          obtain ⟨D2, r1, r2, r3⟩ := ih (k + 1) D1 (hrV z.1 t, z.2) vU (by omega) (hr.fq f1) (oz.hr ht) (by show z.2 ≤ k + 1; omega) g2
          exact ⟨D2, r1, r2, f1.tr r3⟩
        | false =>
          have e : nrF false z t = z := by unfold nrF; rw [if_pos hm, if_neg (by decide)]
          rw [hs] at ih
          rw [if_pos (show bI false = 0 from rfl), b_Hearings_newByRule_78, zb_s (by omega), e]
          exact ih (k + 1) D z vU (by omega) hr oz (by omega) hc
      · have e : nrF say z t = (hrV z.1 t, z.2 + 1) := by unfold nrF; rw [if_neg hm]
        rw [if_neg hm, if_neg (by decide), b_Hearings_newByRule_44, if_neg (by decide), b_Hearings_newByRule_54, if_pos (by decide), zb_s (by omega), hear, e]
        obtain ⟨D2, r1, r2, r3⟩ := ih (k + 1) D1 (hrV z.1 t, z.2 + 1) vU (by omega) (hr.fq f1) (oz.hr ht) (by show z.2 + 1 ≤ k + 1; omega) g2
        exact ⟨D2, r1, r2, f1.tr r3⟩
  obtain ⟨D1, g1, g2, g3⟩ := s_C_begin (X := X) (d := d) (D := D) (i := 12) (n := n) (by omega)
  have f1 : fr hQ D D1 := g3.mo fun _ _ _ z => Or.inr z
  rw [e_Hearings_newByRule, b_Hearings_newByRule_0, g1]
  simp only [ab_cv]
  rw [b_Hearings_newByRule_10]
  obtain ⟨D2, r1, r2, r3⟩ := key ts.length 0 D1 (emV n, 0) (vI (n : Int)) (by omega) (hr.fq f1) (okc.em h1 h9) (Nat.le_refl _) g2
  exact ⟨D2, r1, r2, f1.tr r3⟩
-- through
def thV (L : Nat → Nat) (n : Nat) (ts : List Nat) (inn : Nat) : Nat := (delV L (walkV L (hrs (emV n) ts) inn)).2
theorem thV_lt {L : Nat → Nat} (hL : LOK L) {n : Nat} (h1 : 1 ≤ n) (h9 : n ≤ 9) {ts : List Nat} (hts : ∀ t ∈ ts, t < 16) {inn : Nat} (hi : inn < 10) : thV L n ts inn < 65536 := (((okc.em h1 h9).hs hts).walk hL hi).del hL |>.2
theorem s_C_through {X : Nat × (Nat → Int)} {d : Nat} {D : DD} {n q inn : Nat} {ts : List Nat} {L : Nat → Nat} (hd : 8 ≤ d) (hL : LOK L) (hl : LC D q L) (h1 : 1 ≤ n) (h9 : n ≤ 9) (h40 : ts.length ≤ 40) (hts : ∀ t ∈ ts, t < 16) (hi : inn < 10) (hr : HR D ts) : ∃ D', ev X d m_Hearings_comesThrough [vR 4 0, vR 5 q, vI (n : Int), vI (inn : Int)] (hp D) = some (some (vI (thV L n ts inn : Int)), hp D') ∧ fr hQ D D' := by
  obtain ⟨d, rfl⟩ : ∃ e, d = e + 1 := ⟨d - 1, by omega⟩
  have key : ∀ (m k : Nat) (D : DD) (z : Cr) (v2 : ab_V), k + m = ts.length → HR D ts → okc z → CC D 12 z → ∃ D', at_ X d cd_Hearings_comesThrough 11 [vR 4 0, vR 5 q, v2, vI (inn : Int), vI (k : Int)] [] (hp D) = (ab_ci (ev X d m_Courier_walk [vR 3 12, vR 5 q, vI (inn : Int)] (hp D')) fun y9 h9 => at_ X d cd_Hearings_comesThrough 50 [vR 4 0, vR 5 q, vU, vI (inn : Int), vU] [vI y9] h9) ∧ CC D' 12 (hrs z (ts.drop k)) ∧ fr hQ D D' := by
    intro m
    induction m with
    | zero =>
      intro k D z v2 hk hr oz hc
      rw [b_Hearings_comesThrough_11, hr.1, if_pos (by omega), List.drop_of_length_le (by omega)]
      exact ⟨D, rfl, hc, fr.rf D⟩
    | succ m ih =>
      intro k D z v2 hk hr oz hc
      have ht := hts _ (say_mem (l := ts) (k := k) (by omega))
      obtain ⟨D1, g1, g2, g3⟩ := s_C_hear (X := X) (d := d) (D := D) (i := 12) (t := ts.getD k 0) (v := z) (by omega) oz hc ht
      have f1 : fr hQ D D1 := g3.mo fun _ _ _ z => Or.inr z
      rw [b_Hearings_comesThrough_11, hr.1, if_neg (by omega), if_pos (by omega), Int.toNat_natCast, hr.2 k (by omega), g1, drop_gN (by omega)]
      simp only [ab_ci]
      rw [b_Hearings_comesThrough_34, zb_s (by omega)]
      obtain ⟨D2, r1, r2, r3⟩ := ih (k + 1) D1 (hrV z (ts.getD k 0)) vU (by omega) (hr.fq f1) (oz.hr ht) g2
      exact ⟨D2, r1, r2, f1.tr r3⟩
  obtain ⟨D1, g1, g2, g3⟩ := s_C_begin (X := X) (d := d) (D := D) (i := 12) (n := n) (by omega)
  have f1 : fr hQ D D1 := g3.mo fun _ _ _ z => Or.inr z
  rw [e_Hearings_comesThrough, b_Hearings_comesThrough_0, g1]
  simp only [ab_cv]
  rw [b_Hearings_comesThrough_8]
  obtain ⟨D2, r1, r2, r3⟩ := key ts.length 0 D1 (emV n) (vI (n : Int)) (by omega) (hr.fq f1) (okc.em h1 h9) g2
  rw [show ((0 : Nat) : Int) = 0 from rfl] at r1
  rw [List.drop_zero] at r2
  have ok2 := (okc.em h1 h9).hs hts
  have l2 : LC D2 q L := hl.on fun t k ht => (r3 t q k (by unfold hQ cP; omega)).trans (f1 t q k (by unfold hQ cP; omega))
  obtain ⟨D3, w1, w2, w3⟩ := s_C_walk (X := X) (d := d) (D := D2) (i := 12) (q := q) (to := inn) (v := hrs (emV n) ts) (L := L) (by omega) hL l2 ok2 r2 hi
  obtain ⟨D4, y1, y2, y3⟩ := s_C_deliver (X := X) (d := d) (D := D3) (i := 12) (q := q) (v := walkV L (hrs (emV n) ts) inn) (L := L) (by omega) hL (l2.fc w3) (ok2.walk hL hi) w2
  rw [r1, w1]
  simp only [ab_ci]
  rw [b_Hearings_comesThrough_50, y1]
  simp only [ab_ci]
  rw [b_Hearings_comesThrough_59]
  exact ⟨D4, rfl, ((f1.tr r3).tr (w3.mo fun _ _ _ z => Or.inr z)).tr (y3.mo fun _ _ _ z => Or.inr z)⟩
theorem s_C_inRow {X : Nat × (Nat → Int)} {d : Nat} {D : DD} {ts : List Nat} (hd : 1 ≤ d) (h40 : ts.length ≤ 40) (hts : ∀ t ∈ ts, t < 16) (hr : HR D ts) : ev X d m_Hearings_inRow [vR 4 0] (hp D) = some (some (vI (bs ts : Int)), hp D) := by
  obtain ⟨d, rfl⟩ : ∃ e, d = e + 1 := ⟨d - 1, by omega⟩
  have key : ∀ (m k : Nat), k + m = ts.length → at_ X d cd_Hearings_inRow 4 [vR 4 0, vI (bs (ts.take k) : Int), vI (k : Int)] [] (hp D) = some (some (vI (bs ts : Int)), hp D) := by
    intro m
    induction m with
    | zero =>
      intro k hk
      rw [b_Hearings_inRow_4, hr.1, if_pos (by omega), List.take_of_length_le (by omega)]
    | succ m ih =>
      intro k hk
      have ht := hts _ (say_mem (l := ts) (k := k) (by omega))
      have hb := bs_31 (l := ts.take k) (fun t ht => hts t (List.mem_of_mem_take ht))
      have h2 : 2 ^ ts.getD k 0 < 2 ^ 16 := zb_p2 ht
      rw [b_Hearings_inRow_4, hr.1, if_neg (by omega), if_pos (by omega), Int.toNat_natCast, hr.2 k (by omega), zb_sl (by omega), zb_or (by omega) (by omega), zb_s (by omega)]
      have e : bs (ts.take k) ||| 2 ^ ts.getD k 0 = bs (ts.take (k + 1)) := by
        rw [take_getD (by omega), bs_app, bs, bs, Nat.or_zero]
      rw [e]
      exact ih (k + 1) (by omega)
  rw [e_Hearings_inRow, b_Hearings_inRow_0]
  exact key ts.length 0 (by omega)
-- far back
def fbU (ts : List Nat) (i : Nat) : Nat → Nat → Int
  | 0, _ => -1
  | k + 1, b => if ts.getD k 0 = ts.getD i 0 then (pc (b ||| 2 ^ ts.getD k 0) : Int) else fbU ts i k (b ||| 2 ^ ts.getD k 0)
theorem s_C_unlike {X : Nat × (Nat → Int)} {d : Nat} {D : DD} {i : Nat} {ts : List Nat} (hd : 2 ≤ d) (h40 : ts.length ≤ 40) (hts : ∀ t ∈ ts, t < 16) (hi : i < ts.length) (hr : HR D ts) : ev X d m_Hearings_unlikeSinceLast [vR 4 0, vI (i : Int)] (hp D) = some (some (vI (fbU ts i i 0)), hp D) := by
  obtain ⟨d, rfl⟩ : ∃ e, d = e + 1 := ⟨d - 1, by omega⟩
  have key : ∀ (k b : Nat), k ≤ i → b < 65536 → at_ X d cd_Hearings_unlikeSinceLast 6 [vR 4 0, vI (i : Int), vI (b : Int), vI ((k : Int) - 1)] [] (hp D) = some (some (vI (fbU ts i k b)), hp D) := by
    intro k
    induction k with
    | zero =>
      intro b hk hb
      rw [b_Hearings_unlikeSinceLast_6, if_pos (by omega)]
      rfl
    | succ k ih =>
      intro b hk hb
      have ht := hts _ (say_mem (l := ts) (k := k) (by omega))
      have h2 : 2 ^ ts.getD k 0 < 2 ^ 16 := zb_p2 ht
      have hor : b ||| 2 ^ ts.getD k 0 < 2 ^ 16 := Nat.or_lt_two_pow hb h2
      rw [b_Hearings_unlikeSinceLast_6, show ((k + 1 : Nat) : Int) - 1 = (k : Int) by omega, if_neg (by omega), if_pos (by omega), if_pos (by omega), if_pos (by omega), Int.toNat_natCast, Int.toNat_natCast, hr.2 k (by omega), hr.2 i hi, zb_sl (by omega), zb_or (by omega) (by omega), fbU]
      by_cases e : ts.getD k 0 = ts.getD i 0
      · rw [if_neg (by omega), if_pos e, s_bitCount (by omega) hor]
        simp only [ab_ci]
        rw [b_Hearings_unlikeSinceLast_40]
      · rw [if_pos (by omega), if_neg e, zb_w (by omega) (by omega), show (k : Int) + -1 = (k : Int) - 1 by omega]
        exact ih _ (by omega) hor
  rw [e_Hearings_unlikeSinceLast, b_Hearings_unlikeSinceLast_0, zb_w (by omega) (by omega)]
  exact key i 0 (Nat.le_refl _) (by omega)
end
