/-! the lore; say, walk, deliver of the class's courier -/
section
/-- a lore L by the reference's places: 0 things, 1 size of a mind, 2.. rhymes, 18.. secrets, 34.. worths, 50 inns, 51.. how many news, 61.. news, 151 lines -/
def LC (D : DD) (q : Nat) (L : Nat → Nat) : Prop :=
  (D 5 q 0 = (L 0 : Int) ∧ D 5 q 1 = (L 1 : Int) ∧ D 5 q 2 = (L 151 : Int) ∧ D 5 q 3 = (L 50 : Int)) ∧ (∀ t, t < 16 → D 51 q t = (L (2 + t) : Int)) ∧ (∀ t, t < 16 → D 52 q t = (L (18 + t) : Int)) ∧ (∀ t, t < L 0 → D 53 q t = (L (34 + t) : Int)) ∧ (∀ i, i < 10 → D 54 q i = (L (51 + i) : Int)) ∧ (∀ i k, i < 10 → k < L (51 + i) → D 55 q (9 * i + k) = (L (61 + 9 * i + k) : Int))
def LOK (L : Nat → Nat) : Prop :=
  (L 0 ≤ 16 ∧ 1 ≤ L 1 ∧ L 1 ≤ 9 ∧ L 50 ≤ 10 ∧ L 151 ≤ 500) ∧ (∀ t, t < 16 → L (2 + t) < 2 ^ L 0) ∧ (∀ t, t < 16 → L (18 + t) < 2 ^ L 0) ∧ (∀ t u, t < 16 → u < 16 → (L (18 + t)).testBit u = (L (18 + u)).testBit t) ∧ (∀ t, t < 16 → (L (18 + t)).testBit t = false) ∧ (∀ t, t < 16 → L (34 + t) ≤ 99) ∧ (∀ i, i < 10 → L (51 + i) ≤ 9) ∧ (∀ i k, i < 10 → k < L (51 + i) → L (61 + 9 * i + k) < L 0)
theorem LC.on {D D' : DD} {q : Nat} {L : Nat → Nat} (h : LC D q L) (e : ∀ t k, (t = 5 ∨ (51 ≤ t ∧ t ≤ 55)) → D' t q k = D t q k) : LC D' q L := by
  obtain ⟨⟨h0, h1, h2, h3⟩, h4, h5, h6, h7, h8⟩ := h
  refine ⟨⟨by rw [e _ _ (Or.inl rfl), h0], by rw [e _ _ (Or.inl rfl), h1], by rw [e _ _ (Or.inl rfl), h2], by rw [e _ _ (Or.inl rfl), h3]⟩, fun t ht => by rw [e _ _ (Or.inr (by omega)), h4 t ht], fun t ht => by rw [e _ _ (Or.inr (by omega)), h5 t ht], fun t ht => by rw [e _ _ (Or.inr (by omega)), h6 t ht], fun t ht => by rw [e _ _ (Or.inr (by omega)), h7 t ht], fun i k hi hk => by rw [e _ _ (Or.inr (by omega)), h8 i k hi hk]⟩
theorem p2le {a b : Nat} (h : a ≤ b) : 2 ^ a ≤ 2 ^ b := Nat.pow_le_pow_right (by omega) h
theorem LC.fc {D D' : DD} {q i : Nat} {L : Nat → Nat} (h : LC D q L) (e : fr (cP i) D D') : LC D' q L := h.on fun t k ht => e t q k (fun z => by have := z.1; omega)
theorem LOK.r {L : Nat → Nat} (h : LOK L) {t : Nat} (ht : t < 16) : L (2 + t) < 65536 := Nat.lt_of_lt_of_le (h.2.1 t ht) (p2le h.1.1)
theorem LOK.s {L : Nat → Nat} (h : LOK L) {t : Nat} (ht : t < 16) : L (18 + t) < 65536 := Nat.lt_of_lt_of_le (h.2.2.1 t ht) (p2le h.1.1)
def hrs (v : Cr) (ts : List Nat) : Cr := ts.foldl hrV v
theorem okc.hs {v : Cr} (h : okc v) {ts : List Nat} (ht : ∀ t ∈ ts, t < 16) : okc (hrs v ts) := by
  induction ts generalizing v with
  | nil => exact h
  | cons t ts ih => exact ih (h.hr (ht t List.mem_cons_self)) (fun u hu => ht u (List.mem_cons_of_mem _ hu))
/-- the things of a set from r on -/
def rst (n r : Nat) : List Nat := (List.range' r (16 - r)).filter (fun t => n.testBit t)
theorem rst_0 (n : Nat) : rst n 0 = els n := by unfold rst els; rw [List.range_eq_range']
theorem rst_s {n r : Nat} (h : r < 16) : rst n r = if n.testBit r = true then r :: rst n (r + 1) else rst n (r + 1) := by
  unfold rst
  rw [show 16 - r = (16 - (r + 1)) + 1 by omega, List.range'_succ, List.filter_cons]
theorem rst_n {n r : Nat} (h : ∀ j, r ≤ j → n.testBit j = false) : rst n r = [] := by
  unfold rst
  rw [List.filter_eq_nil_iff]
  intro a ha
  rw [List.mem_range'_1] at ha
  rw [h a ha.1]
  decide
theorem rst_lt {n r t : Nat} (h : t ∈ rst n r) : t < 16 := by
  unfold rst at h
  rw [List.mem_filter, List.mem_range'_1] at h
  omega
def sayV (L : Nat → Nat) (v : Cr) (t : Nat) : Cr := hrs (hrV v t) (els (L (2 + t)))
theorem okc.say {L : Nat → Nat} {v : Cr} (h : okc v) {t : Nat} (ht : t < 16) : okc (sayV L v t) := (h.hr ht).hs fun _ hu => els_lt hu
theorem s_C_say {X : Nat × (Nat → Int)} {d : Nat} {D : DD} {i q t : Nat} {v : Cr} {L : Nat → Nat} (hd : 5 ≤ d) (hL : LOK L) (hl : LC D q L) (hv : okc v) (h : CC D i v) (ht : t < 16) : ∃ D', ev X d m_Courier_say [vR 3 i, vR 5 q, vI (t : Int)] (hp D) = some (some (vI (w32 (cZ (sayV L v t) - cZ v))), hp D') ∧ CC D' i (sayV L v t) ∧ fr (cP i) D D' := by
  obtain ⟨d, rfl⟩ : ∃ e, d = e + 1 := ⟨d - 1, by omega⟩
  have key : ∀ (m r : Nat) (D : DD) (w : Cr) (v2 : ab_V), r + m = 16 → LC D q L → okc w → CC D i w → ∃ D', at_ X d cd_Courier_say 22 [vR 3 i, vR 5 q, v2, vI (cZ v), vI (L (2 + t) : Int), vI (r : Int)] [] (hp D) = some (some (vI (w32 (cZ (hrs w (rst (L (2 + t)) r)) - cZ v))), hp D') ∧ CC D' i (hrs w (rst (L (2 + t)) r)) ∧ fr (cP i) D D' := by
    intro m
    induction m with
    | zero =>
      intro r D w v2 hr hl ow hw
      have e : rst (L (2 + t)) r = [] := rst_n fun j hj => Nat.testBit_lt_two_pow (Nat.lt_of_lt_of_le (hL.r ht) (p2le (a := 16) (by omega)))
      have := hL.1.1
      rw [b_Courier_say_22, hl.1.1, if_pos (by omega), b_Courier_say_62, hw.2.2.2.2.2.1, e]
      exact ⟨D, rfl, hw, fr.rf D⟩
    | succ m ih =>
      intro r D w v2 hr hl ow hw
      have hR := hL.r ht
      rw [b_Courier_say_22, hl.1.1]
      by_cases h1 : L 0 ≤ r
      · have e : rst (L (2 + t)) r = [] := rst_n fun j hj => Nat.testBit_lt_two_pow (Nat.lt_of_lt_of_le (hL.2.1 t ht) (p2le (by omega)))
        rw [if_pos (by omega), b_Courier_say_62, hw.2.2.2.2.2.1, e]
        exact ⟨D, rfl, hw, fr.rf D⟩
      · rw [if_neg (by omega), zb_sr (by omega)]
        by_cases h2 : L (2 + t) >>> r = 0
        · have e : rst (L (2 + t)) r = [] := rst_n fun j hj => by
            have := Nat.testBit_shiftRight (i := r) (j := j - r) (L (2 + t))
            rw [h2, show r + (j - r) = j by omega] at this
            rw [← this]
            exact Nat.zero_testBit _
          rw [if_pos (by omega), b_Courier_say_62, hw.2.2.2.2.2.1, e]
          exact ⟨D, rfl, hw, fr.rf D⟩
        · rw [if_neg (by omega), ← zb_sr (by omega), zb_bit (by omega) (by omega), rst_s (by omega)]
          by_cases h3 : (L (2 + t)).testBit r = true
          · rw [if_pos h3, if_pos h3, if_neg (by omega)]
            obtain ⟨D1, g1, g2, g3⟩ := s_C_hear (X := X) (d := d) (D := D) (i := i) (t := r) (v := w) (by omega) ow hw (by omega)
            rw [g1]
            simp only [ab_ci]
            rw [b_Courier_say_55, b_Courier_say_56, zb_s (by omega)]
            obtain ⟨D2, k1, k2, k3⟩ := ih (r + 1) D1 (hrV w r) vU (by omega) (hl.fc g3) (ow.hr (by omega)) g2
            exact ⟨D2, k1, k2, g3.tr k3⟩
          · rw [if_neg h3, if_neg h3, if_pos rfl, b_Courier_say_56, zb_s (by omega)]
            exact ih (r + 1) D w vU (by omega) hl ow hw
  rw [e_Courier_say, b_Courier_say_0]
  obtain ⟨D1, g1, g2, g3⟩ := s_C_hear (X := X) (d := d) (D := D) (i := i) (t := t) (v := v) (by omega) hv h ht
  rw [g1]
  simp only [ab_ci]
  rw [b_Courier_say_10, if_pos (by omega), Int.toNat_natCast, (hl.fc g3).2.1 t ht, h.2.2.2.2.2.1]
  obtain ⟨D2, k1, k2, k3⟩ := key 16 0 D1 (hrV v t) (vI t) (by omega) (hl.fc g3) (hv.hr ht) g2
  rw [rst_0] at k1 k2
  exact ⟨D2, k1, k2, g3.tr k3⟩
/-- the news of an inn -/
def nws (L : Nat → Nat) (i : Nat) : List Nat := (List.range (L (51 + i))).map (fun k => L (61 + 9 * i + k))
theorem nws_len (L : Nat → Nat) (i : Nat) : (nws L i).length = L (51 + i) := by unfold nws; rw [List.length_map, List.length_range]
theorem nws_get {L : Nat → Nat} {i k : Nat} (h : k < L (51 + i)) : (nws L i).drop k = L (61 + 9 * i + k) :: (nws L i).drop (k + 1) := by
  have h1 : k < (nws L i).length := by rw [nws_len]; exact h
  rw [List.drop_eq_getElem_cons h1]
  congr 1
  simp [nws]
theorem nws_lt {L : Nat → Nat} (hL : LOK L) {i t : Nat} (hi : i < 10) (h : t ∈ nws L i) : t < L 0 := by
  unfold nws at h
  rw [List.mem_map] at h
  obtain ⟨k, hk, rfl⟩ := h
  exact hL.2.2.2.2.2.2.2 i k hi (List.mem_range.mp hk)
def atV (v : Cr) (i : Nat) : Cr := (cN v, i, cL v, cZ v, cA v)
def goV (L : Nat → Nat) (v : Cr) (i : Nat) : Cr := hrs (atV v i) (nws L i)
theorem hrs_S (v : Cr) (ts : List Nat) : cS (hrs v ts) = cS v ∧ cN (hrs v ts) = cN v := by
  induction ts generalizing v with
  | nil => exact ⟨rfl, rfl⟩
  | cons t ts ih => exact ih (hrV v t)
theorem goV_S (L : Nat → Nat) (v : Cr) (i : Nat) : cS (goV L v i) = i := (hrs_S _ _).1
theorem okc.go {L : Nat → Nat} (hL : LOK L) {v : Cr} (h : okc v) {i : Nat} (hi : i < 10) : okc (goV L v i) := okc.hs (v := atV v i) ⟨⟨h.1.1, h.1.2.1, hi⟩, h.2⟩ fun t ht => Nat.lt_of_lt_of_le (nws_lt hL hi ht) hL.1.1
def nxI (s to : Nat) : Nat := if s < to then s + 1 else s - 1
def wkV (L : Nat → Nat) (to : Nat) : Nat → Cr → Cr
  | 0, v => v
  | m + 1, v => wkV L to m (goV L v (nxI (cS v) to))
def dst (s to : Nat) : Nat := if s < to then to - s else s - to
def walkV (L : Nat → Nat) (v : Cr) (to : Nat) : Cr := wkV L to (dst (cS v) to) v
theorem okc.wk {L : Nat → Nat} (hL : LOK L) {to : Nat} (hto : to < 10) (m : Nat) {v : Cr} (h : okc v) : okc (wkV L to m v) := by
  induction m generalizing v with
  | zero => exact h
  | succ m ih => exact ih (h.go hL (by unfold nxI; have := h.1.2.2; split <;> omega))
theorem okc.walk {L : Nat → Nat} (hL : LOK L) {to : Nat} (hto : to < 10) {v : Cr} (h : okc v) : okc (walkV L v to) := h.wk hL hto _
theorem s_C_newsAt {X : Nat × (Nat → Int)} {d : Nat} {D : DD} {q i k : Nat} {L : Nat → Nat} (hd : 1 ≤ d) (hL : LOK L) (hl : LC D q L) (hi : i < 10) (hk : k < L (51 + i)) : ev X d m_Lore_newsAt [vR 5 q, vI (i : Int), vI (k : Int)] (hp D) = some (some (vI (L (61 + 9 * i + k) : Int)), hp D) := by
  obtain ⟨d, rfl⟩ : ∃ e, d = e + 1 := ⟨d - 1, by omega⟩
  have := hL.2.2.2.2.2.2.1 i hi
  rw [e_Lore_newsAt, b_Lore_newsAt_0, zb_w (n := (i : Int) * 9) (by omega) (by omega), zb_w (by omega) (by omega), if_pos (by omega), tn (n := 9 * i + k) (by omega), hl.2.2.2.2.2 i k hi hk]
theorem s_C_news {X : Nat × (Nat → Int)} {d : Nat} {i q j : Nat} {L : Nat → Nat} {z0 l4 l5 : Int} (hd : 4 ≤ d) (hL : LOK L) (hj : j < 10) : ∀ (m k : Nat) (D : DD) (w : Cr), k + m = L (51 + j) → LC D q L → okc w → CC D i w → cS w = j → ∃ D', at_ X d cd_Courier_walk 50 [vR 3 i, vR 5 q, vU, vI z0, vI l4, vI l5, vI (k : Int)] [] (hp D) = at_ X d cd_Courier_walk 31 [vR 3 i, vR 5 q, vU, vI z0, vI l4, vI (w32 (l5 + (-1))), vU] [] (hp D') ∧ CC D' i (hrs w ((nws L j).drop k)) ∧ fr (cP i) D D' := by
  intro m
  induction m with
  | zero =>
    intro k D w hk hl ow hw hs
    rw [b_Courier_walk_50, hw.2.1, hs, if_pos (by omega), Int.toNat_natCast, hl.2.2.2.2.1 j hj, if_pos (by omega), List.drop_of_length_le (by rw [nws_len]; omega)]
    exact ⟨D, rfl, hw, fr.rf D⟩
  | succ m ih =>
    intro k D w hk hl ow hw hs
    have h9 := hL.2.2.2.2.2.2.1 j hj
    rw [b_Courier_walk_50, hw.2.1, hs, if_pos (by omega), Int.toNat_natCast, hl.2.2.2.2.1 j hj, if_neg (by omega), s_C_newsAt (by omega) hL hl hj (by omega)]
    simp only [ab_ci]
    have ht : L (61 + 9 * j + k) < 16 := Nat.lt_of_lt_of_le (hL.2.2.2.2.2.2.2 j k hj (by omega)) hL.1.1
    obtain ⟨D1, g1, g2, g3⟩ := s_C_hear (X := X) (d := d) (D := D) (i := i) (t := L (61 + 9 * j + k)) (v := w) (by omega) ow hw ht
    rw [b_Courier_walk_75, g1]
    simp only [ab_ci]
    rw [b_Courier_walk_78, zb_s (by omega), nws_get (by omega)]
    obtain ⟨D2, k1, k2, k3⟩ := ih (k + 1) D1 (hrV w _) (by omega) (hl.fc g3) (ow.hr ht) g2 hs
    exact ⟨D2, k1, k2, g3.tr k3⟩
theorem s_C_walk {X : Nat × (Nat → Int)} {d : Nat} {D : DD} {i q to : Nat} {v : Cr} {L : Nat → Nat} (hd : 5 ≤ d) (hL : LOK L) (hl : LC D q L) (hv : okc v) (h : CC D i v) (ht : to < 10) : ∃ D', ev X d m_Courier_walk [vR 3 i, vR 5 q, vI (to : Int)] (hp D) = some (some (vI (w32 (cZ (walkV L v to) - cZ v))), hp D') ∧ CC D' i (walkV L v to) ∧ fr (cP i) D D' := by
  obtain ⟨d, rfl⟩ : ∃ e, d = e + 1 := ⟨d - 1, by omega⟩
  have key : ∀ (m : Nat) (D : DD) (w : Cr) (v2 : ab_V) (st : Int), ((st = 1 ∧ cS w + m = to) ∨ (st = -1 ∧ to + m = cS w)) → LC D q L → okc w → CC D i w → ∃ D', at_ X d cd_Courier_walk 31 [vR 3 i, vR 5 q, v2, vI (cZ v), vI st, vI (m : Int), vU] [] (hp D) = some (some (vI (w32 (cZ (wkV L to m w) - cZ v))), hp D') ∧ CC D' i (wkV L to m w) ∧ fr (cP i) D D' := by
    intro m
    induction m with
    | zero =>
      intro D w v2 st hst hl ow hw
      rw [b_Courier_walk_31, if_pos (by omega), hw.2.2.2.2.2.1]
      exact ⟨D, rfl, hw, fr.rf D⟩
    | succ m ih =>
      intro D w v2 st hst hl ow hw
      have o3 := ow.1.2.2
      have hn : nxI (cS w) to < 10 := by unfold nxI; split <;> omega
      have e : w32 ((cS w : Int) + st) = ((nxI (cS w) to : Nat) : Int) := by
        rw [zb_w (by omega) (by omega)]
        unfold nxI
        split <;> omega
      rw [b_Courier_walk_31, if_neg (by omega), hw.2.1, e]
      have hw' : CC (u3 D 3 i 1 ((nxI (cS w) to : Nat) : Int)) i (atV w (nxI (cS w) to)) := by
        obtain ⟨h0, h1, h2, h3, h4, h5, h6⟩ := hw
        exact ⟨by rw [u3_k (by omega), h0]; rfl, by rw [u3_eq]; rfl, by rw [u3_k (by omega), h2]; rfl, by rw [u3_k (by omega), h3]; rfl, by rw [u3_k (by omega), h4]; rfl, by rw [u3_k (by omega), h5]; rfl, fun s hs => by rw [u3_t (by omega), h6 s hs]; rfl⟩
      have fw : fr (cP i) D (u3 D 3 i 1 ((nxI (cS w) to : Nat) : Int)) := (fr.rf D).u ⟨Or.inl rfl, rfl⟩
      obtain ⟨D1, g1, g2, g3⟩ := s_C_news (X := X) (d := d) (i := i) (q := q) (z0 := cZ v) (l4 := st) (l5 := ((m + 1 : Nat) : Int)) (by omega) hL hn (L (51 + nxI (cS w) to)) 0 _ (atV w (nxI (cS w) to)) (by omega) (hl.fc fw) ⟨⟨ow.1.1, ow.1.2.1, hn⟩, ow.2⟩ hw' rfl
      rw [show ((0 : Nat) : Int) = 0 from rfl] at g1
      rw [g1, zb_w (by omega) (by omega), show ((m + 1 : Nat) : Int) + -1 = (m : Int) by omega]
      have hgo := goV_S L w (nxI (cS w) to)
      obtain ⟨D2, k1, k2, k3⟩ := ih D1 (goV L w (nxI (cS w) to)) vU st (by rw [hgo]; unfold nxI; split <;> omega) ((hl.fc fw).fc g3) (ow.go hL hn) g2
      exact ⟨D2, k1, k2, (fw.tr g3).tr k3⟩
  have o3 := hv.1.2.2
  rw [e_Courier_walk, b_Courier_walk_0, h.2.1, h.2.2.2.2.2.1]
  by_cases hc : cS v < to
  · rw [if_neg (by omega), b_Courier_walk_18, h.2.1, zb_w (by omega) (by omega), if_pos (by omega), show (to : Int) - (cS v : Int) = ((dst (cS v) to : Nat) : Int) by unfold dst; rw [if_pos hc]; omega]
    exact key _ D v _ 1 (Or.inl ⟨rfl, by unfold dst; rw [if_pos hc]; omega⟩) hl hv h
  · rw [if_pos (by omega), b_Courier_walk_18, h.2.1, zb_w (n := (to : Int) - (cS v : Int)) (by omega) (by omega)]
    have e : (if (0 : Int) ≤ (to : Int) - (cS v : Int) then (to : Int) - (cS v : Int) else w32 (0 - ((to : Int) - (cS v : Int)))) = ((dst (cS v) to : Nat) : Int) := by
      unfold dst
      rw [if_neg hc]
      split
      · omega
      · rw [zb_w (by omega) (by omega)]; omega
    rw [e]
    exact key _ D v _ (-1) (Or.inr ⟨rfl, by unfold dst; rw [if_neg hc]; omega⟩) hl hv h
end
