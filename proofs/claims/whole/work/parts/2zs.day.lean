/-! call: day -/
section
def dr (x : Int) : Int := w32 (w32 (1103515245 * x) + 12345)
def dv (x : Int) : Nat := (b_us x 16).toNat
theorem dv_eq (x : Int) : b_us x 16 = (dv x : Int) ∧ dv x < 65536 := by
  unfold dv b_us
  have e : ((16 : Int) % 32).toNat = 16 := by decide
  rw [e]
  unfold w32
  omega
theorem tm_eq {a b : Nat} (hb : 0 < b) (h : b < 2147483648) : w32 (Int.tmod (a : Int) (b : Int)) = ((a % b : Nat) : Int) := by
  rw [Int.tmod_eq_emod_of_nonneg (by omega), ← Int.natCast_emod]
  have := Nat.mod_lt a hb
  generalize a % b = q at this
  exact zb_w (by omega) (by omega)
def dyF (L : Nat → Nat) (z : List Cr × Int) (c : Nat) : List Cr × Int :=
  if dv (dr z.2) % 4 = 0 then (z.1.set c (hrV (mnL z.1 c) (dv (dr (dr z.2)) % L 0)), dr (dr z.2))
  else if dv (dr z.2) % 4 = 1 then (if (cL (mnL z.1 c)).length = 0 then (z.1, dr z.2) else (z.1.set c (sayV L (mnL z.1 c) ((cL (mnL z.1 c)).getD (dv (dr (dr z.2)) % (cL (mnL z.1 c)).length) 0)), dr (dr z.2)))
  else (if L 50 = 0 then (z.1, dr z.2) else (z.1.set c (walkV L (mnL z.1 c) (dv (dr (dr z.2)) % L 50)), dr (dr z.2)))
def dyI (L : Nat → Nat) : Nat → Nat → List Cr × Int → List Cr × Int
  | 0, _, z => z
  | m + 1, c, z => dyI L m (c + 1) (dyF L z c)
def dyT (L : Nat → Nat) (n : Nat) : Nat → List Cr × Int → List Cr × Int
  | 0, z => z
  | t + 1, z => dyT L n t (dyI L n 0 z)
def lsm : List Cr → Int
  | [] => 0
  | v :: r => cZ v + lsm r
theorem lsm_set {men : List Cr} {c : Nat} {v : Cr} (h : c < men.length) : lsm (men.set c v) = lsm men + (cZ v - cZ (mnL men c)) := by
  induction men generalizing c with
  | nil => exact absurd h (Nat.not_lt_zero _)
  | cons a r ih =>
    cases c with
    | zero =>
      show cZ v + lsm r = cZ a + lsm r + (cZ v - cZ a)
      omega
    | succ c =>
      have := ih (c := c) (by rw [List.length_cons] at h; omega)
      show cZ a + lsm (r.set c v) = cZ a + lsm r + (cZ v - cZ (mnL r c))
      rw [this]
      omega
theorem lsm_app (l r : List Cr) : lsm (l ++ r) = lsm l + lsm r := by
  induction l with
  | nil => exact (Int.zero_add _).symm
  | cons a l ih =>
    show cZ a + lsm (l ++ r) = cZ a + lsm l + lsm r
    rw [ih]
    omega
theorem say_mem {l : List Nat} {k : Nat} (h : k < l.length) : l.getD k 0 ∈ l := List.mem_of_getElem? (getD_some h)
theorem dyF_ok {L : Nat → Nat} (hL : LOK L) (h0 : 0 < L 0) {z : List Cr × Int} {c : Nat} (hm : okm z.1) (hc : c < z.1.length) : okm (dyF L z c).1 ∧ (dyF L z c).1.length = z.1.length := by
  have h16 := hL.1.1
  have h10 := hL.1.2.2.2.1
  unfold dyF
  split
  · have := Nat.mod_lt (dv (dr (dr z.2))) h0
    exact ⟨hm.set ((hm.oc hc).hr (by omega)), List.length_set⟩
  · split
    · split
      · exact ⟨hm, rfl⟩
      · rename_i hl
        have hk := Nat.mod_lt (dv (dr (dr z.2))) (Nat.pos_of_ne_zero hl)
        exact ⟨hm.set ((hm.oc hc).say ((hm.oc hc).2.2.1 _ (say_mem hk))), List.length_set⟩
    · split
      · exact ⟨hm, rfl⟩
      · rename_i hl
        have hk := Nat.mod_lt (dv (dr (dr z.2))) (Nat.pos_of_ne_zero hl)
        exact ⟨hm.set ((hm.oc hc).walk hL (by omega)), List.length_set⟩
theorem dyI_ok {L : Nat → Nat} (hL : LOK L) (h0 : 0 < L 0) : ∀ (m c : Nat) (z : List Cr × Int), okm z.1 → c + m ≤ z.1.length → okm (dyI L m c z).1 ∧ (dyI L m c z).1.length = z.1.length := by
  intro m
  induction m with
  | zero => intro c z h _; exact ⟨h, rfl⟩
  | succ m ih =>
    intro c z h hc
    obtain ⟨k1, k2⟩ := dyF_ok hL h0 h (c := c) (by omega)
    obtain ⟨r1, r2⟩ := ih (c + 1) (dyF L z c) k1 (by omega)
    exact ⟨r1, r2.trans k2⟩
theorem dyT_ok {L : Nat → Nat} (hL : LOK L) (h0 : 0 < L 0) : ∀ (t : Nat) (z : List Cr × Int), okm z.1 → okm (dyT L z.1.length t z).1 ∧ (dyT L z.1.length t z).1.length = z.1.length := by
  have key : ∀ (t n : Nat) (z : List Cr × Int), okm z.1 → z.1.length = n → okm (dyT L n t z).1 ∧ (dyT L n t z).1.length = n := by
    intro t
    induction t with
    | zero => intro n z h hn; exact ⟨h, hn⟩
    | succ t ih =>
      intro n z h hn
      obtain ⟨k1, k2⟩ := dyI_ok hL h0 n 0 z h (by omega)
      exact ih n (dyI L n 0 z) k1 (by omega)
  exact fun t z h => key t _ z h rfl
theorem s_C_draw {X : Nat × (Nat → Int)} {d : Nat} {D : DD} {q : Nat} (hd : 1 ≤ d) : ev X d m_Company_draw [vR 2 q] (hp D) = some (some (vI (dv (dr (D 2 q 3)) : Int)), hp (u3 D 2 q 3 (dr (D 2 q 3)))) := by
  obtain ⟨d, rfl⟩ : ∃ e, d = e + 1 := ⟨d - 1, by omega⟩
  rw [e_Company_draw, b_Company_draw_0, u3_eq]
  show some (some (vI (b_us (dr (D 2 q 3)) 16)), _) = _
  rw [(dv_eq _).1]
  rfl
theorem s_M_draw {X : Nat × (Nat → Int)} {d : Nat} {D : DD} {b : Nat} (hd : 1 ≤ d) (hb : 0 < b) (h31 : b < 2147483648) : ev X d m_M_draw [vR 12 0, vI (b : Int)] (hp D) = some (some (vI ((dv (dr (D 12 0 18)) % b : Nat) : Int)), hp (u3 D 12 0 18 (dr (D 12 0 18)))) := by
  obtain ⟨d, rfl⟩ : ∃ e, d = e + 1 := ⟨d - 1, by omega⟩
  rw [e_M_draw, b_M_draw_0, if_neg (by omega), u3_eq]
  show some (some (vI (w32 (Int.tmod (b_us (dr (D 12 0 18)) 16) (b : Int)))), _) = _
  rw [(dv_eq _).1, tm_eq hb h31]
  rfl
def yP : Nat → Nat → Nat → Prop := fun t i k => gP 0 t i k ∨ (t = 2 ∧ i = 0 ∧ k = 3)
theorem LC.fy {D D' : DD} {q : Nat} {L : Nat → Nat} (h : LC D q L) (e : fr yP D D') : LC D' q L := h.on fun t k ht => e t q k (by unfold yP gP; omega)
theorem GC.u23 {D : DD} {men : List Cr} {x : Int} (h : GC D 0 men) : GC (u3 D 2 0 3 x) 0 men := ⟨by rw [u3_k (by omega)]; exact h.1, fun c v hv => (h.2 c v hv).fr fun t k ht => by rw [u3_t (by omega)]⟩
theorem s_C_spendOnce {X : Nat × (Nat → Int)} {d : Nat} {D : DD} {c q : Nat} {L : Nat → Nat} {z : List Cr × Int} (hd : 7 ≤ d) (hL : LOK L) (h0 : 0 < L 0) (hl : LC D q L) (hm : okm z.1) (h : GC D 0 z.1) (hx : D 2 0 3 = z.2) (hc : c < z.1.length) : ∃ D', ev X d m_Company_spendOnce [vR 2 0, vR 5 q, vR 3 c] (hp D) = some (none, hp D') ∧ (GC D' 0 (dyF L z c).1 ∧ D' 2 0 3 = (dyF L z c).2) ∧ fr yP D D' := by
  obtain ⟨d, rfl⟩ : ∃ e, d = e + 1 := ⟨d - 1, by omega⟩
  have h6 := hm.1
  have h16 := hL.1.1
  have h10 := hL.1.2.2.2.1
  have k0 : kB 0 + c = c := Nat.zero_add c
  have f1 : fr yP D (u3 D 2 0 3 (dr z.2)) := (fr.rf D).u (Or.inr ⟨rfl, rfl, rfl⟩)
  have f2 : fr yP D (u3 (u3 D 2 0 3 (dr z.2)) 2 0 3 (dr (dr z.2))) := f1.u (Or.inr ⟨rfl, rfl, rfl⟩)
  have g1 : GC (u3 D 2 0 3 (dr z.2)) 0 z.1 := h.u23
  have g2 : GC (u3 (u3 D 2 0 3 (dr z.2)) 2 0 3 (dr (dr z.2))) 0 z.1 := g1.u23
  have cc1 := g1.cc hc
  have cc2 := g2.cc hc
  rw [k0] at cc1 cc2
  have l1 := hl.fy f1
  have l2 := hl.fy f2
  have ok := hm.oc hc
  rw [e_Company_spendOnce, b_Company_spendOnce_0, s_C_draw (by omega), hx]
  simp only [ab_ci]
  have e4 : w32 (Int.tmod (dv (dr z.2) : Int) 4) = ((dv (dr z.2) % 4 : Nat) : Int) := tm_eq (b := 4) (by omega) (by omega)
  have d2 : ev X d m_Company_draw [vR 2 0] (hp (u3 D 2 0 3 (dr z.2))) = some (some (vI (dv (dr (dr z.2)) : Int)), hp (u3 (u3 D 2 0 3 (dr z.2)) 2 0 3 (dr (dr z.2)))) := by
    have := s_C_draw (X := X) (d := d) (D := u3 D 2 0 3 (dr z.2)) (q := 0) (by omega)
    rw [u3_eq] at this
    exact this
  -- what hearing, saying or walking does is put back
  have fin : ∀ (v : Cr) (D3 : DD), CC D3 c v → fr (cP c) (u3 (u3 D 2 0 3 (dr z.2)) 2 0 3 (dr (dr z.2))) D3 → (GC D3 0 (z.1.set c v) ∧ D3 2 0 3 = dr (dr z.2)) ∧ fr yP D D3 := by
    intro v D3 w1 w2
    have w2' : fr (cP (kB 0 + c)) (u3 (u3 D 2 0 3 (dr z.2)) 2 0 3 (dr (dr z.2))) D3 := by rw [k0]; exact w2
    refine ⟨⟨g2.set hc w2' (by rw [k0]; exact w1), ?_⟩, f2.tr ((cP_gP (a := 0) (by omega) w2').mo fun _ _ _ z => Or.inl z)⟩
    rw [w2 2 0 3 (fun z => by have := z.1; omega), u3_eq]
  rw [b_Company_spendOnce_4, e4, l1.1.1, l1.1.2.2.2, cc1.2.2.1]
  unfold dyF
  by_cases c0 : dv (dr z.2) % 4 = 0
  · rw [if_neg (by omega), if_neg (by omega), d2, if_pos c0]
    simp only [ab_ci]
    have hk := Nat.mod_lt (dv (dr (dr z.2))) h0
    rw [b_Company_spendOnce_23, l2.1.1, if_neg (by omega), tm_eq h0 (by omega)]
    obtain ⟨D3, w1, w2, w3⟩ := s_C_hear (X := X) (d := d) (D := u3 (u3 D 2 0 3 (dr z.2)) 2 0 3 (dr (dr z.2))) (i := c) (t := dv (dr (dr z.2)) % L 0) (v := mnL z.1 c) (by omega) ok cc2 (by omega)
    rw [w1]
    simp only [ab_ci]
    rw [b_Company_spendOnce_31]
    obtain ⟨r1, r2⟩ := fin _ D3 w2 w3
    exact ⟨D3, rfl, r1, r2⟩
  rw [if_pos (by omega), if_neg c0]
  by_cases c1 : dv (dr z.2) % 4 = 1
  · rw [if_neg (by omega), if_pos c1]
    by_cases hn : (cL (mnL z.1 c)).length = 0
    · rw [if_pos (by omega), if_pos hn]
      exact ⟨_, rfl, ⟨g1, u3_eq _ _ _ _ _⟩, f1⟩
    · have hk := Nat.mod_lt (dv (dr (dr z.2))) (Nat.pos_of_ne_zero hn)
      have o9 : (cL (mnL z.1 c)).length ≤ 9 := Nat.le_trans ok.2.2.2 ok.1.2.1
      rw [if_neg (by omega), d2, if_neg hn]
      simp only [ab_ci]
      rw [b_Company_spendOnce_54, cc2.2.2.1, if_neg (by omega), tm_eq (Nat.pos_of_ne_zero hn) (by omega), s_C_thingAt (by omega) cc2.2.2.2.2.1 ok.2.2.1 (by omega) (by omega)]
      simp only [ab_ci]
      obtain ⟨D3, w1, w2, w3⟩ := s_C_say (X := X) (d := d) (D := u3 (u3 D 2 0 3 (dr z.2)) 2 0 3 (dr (dr z.2))) (i := c) (q := q) (t := (cL (mnL z.1 c)).getD (dv (dr (dr z.2)) % (cL (mnL z.1 c)).length) 0) (v := mnL z.1 c) (L := L) (by omega) hL l2 ok cc2 (ok.2.2.1 _ (say_mem hk))
      rw [b_Company_spendOnce_62, w1]
      simp only [ab_ci]
      rw [b_Company_spendOnce_65]
      obtain ⟨r1, r2⟩ := fin _ D3 w2 w3
      exact ⟨D3, rfl, r1, r2⟩
  · rw [if_pos (by omega), if_neg c1]
    by_cases hn : L 50 = 0
    · rw [if_pos (by omega), if_pos hn]
      exact ⟨_, rfl, ⟨g1, u3_eq _ _ _ _ _⟩, f1⟩
    · have hk := Nat.mod_lt (dv (dr (dr z.2))) (Nat.pos_of_ne_zero hn)
      rw [if_neg (by omega), d2, if_neg hn]
      simp only [ab_ci]
      rw [b_Company_spendOnce_82, l2.1.2.2.2, if_neg (by omega), tm_eq (Nat.pos_of_ne_zero hn) (by omega)]
      obtain ⟨D3, w1, w2, w3⟩ := s_C_walk (X := X) (d := d) (D := u3 (u3 D 2 0 3 (dr z.2)) 2 0 3 (dr (dr z.2))) (i := c) (q := q) (to := dv (dr (dr z.2)) % L 50) (v := mnL z.1 c) (L := L) (by omega) hL l2 ok cc2 (by omega)
      rw [w1]
      simp only [ab_ci]
      rw [b_Company_spendOnce_90]
      obtain ⟨r1, r2⟩ := fin _ D3 w2 w3
      exact ⟨D3, rfl, r1, r2⟩
theorem s_C_lostByAll {X : Nat × (Nat → Int)} {d : Nat} {D : DD} {men : List Cr} (hd : 1 ≤ d) (hm : okm men) (h : GC D 0 men) : ev X d m_Company_lostByAll [vR 2 0] (hp D) = some (some (vI (w32 (lsm men))), hp D) := by
  obtain ⟨d, rfl⟩ : ∃ e, d = e + 1 := ⟨d - 1, by omega⟩
  have h6 := hm.1
  have key : ∀ (m k : Nat), k + m = men.length → at_ X d cd_Company_lostByAll 4 [vR 2 0, vI (w32 (lsm (men.take k))), vI (k : Int)] [] (hp D) = some (some (vI (w32 (lsm men))), hp D) := by
    intro m
    induction m with
    | zero =>
      intro k hk
      rw [b_Company_lostByAll_4, h.1, if_pos (by omega), List.take_of_length_le (by omega)]
    | succ m ih =>
      intro k hk
      have hlt : k < men.length := by omega
      have cc := h.cc hlt
      have e : lsm (men.take (k + 1)) = lsm (men.take k) + cZ (mnL men k) := by
        rw [List.take_add_one, mnL_some hlt, lsm_app]
        show _ + (cZ (mnL men k) + 0) = _
        omega
      rw [b_Company_lostByAll_4, h.1, if_neg (by omega), if_pos (by omega), Int.toNat_natCast, R46 (by omega)]
      simp only [ab_rf]
      rw [b_Company_lostByAll_19, cc.2.2.2.2.2.1, zb_wadd, ← e, zb_s (by omega)]
      exact ih (k + 1) (by omega)
  rw [e_Company_lostByAll, b_Company_lostByAll_0]
  exact key men.length 0 (by omega)
def f_day (S : St) (x t : Int) : Int × St := if (sW S).2.1.length = 0 then (-5, S) else if 1 ≤ t ∧ t ≤ 40 then (w32 (lsm (dyT (sW S).1 (sW S).2.1.length t.toNat ((sW S).2.1, x)).1 - lsm (sW S).2.1), stG S (dyT (sW S).1 (sW S).2.1.length t.toNat ((sW S).2.1, x)).1) else (-3, S)
theorem C_day {X : Nat × (Nat → Int)} {d : Nat} {D : DD} {S : St} {x t : Int} (hd : 12 ≤ d) (hS : SOK S) (hC : CH D S) : cRes X d m_N_day [vI x, vI t] D (f_day S x t) := by
  obtain ⟨d, rfl⟩ : ∃ e, d = e + 1 := ⟨d - 1, by omega⟩
  have h6 := hS.n6
  unfold cRes f_day
  rw [e_N_day, b_N_day_0, hC.n]
  by_cases h1 : (sW S).2.1.length = 0
  · rw [if_neg (by omega), if_pos h1]
    exact ⟨D, rfl, hC, fr.rf D⟩
  have h0 : 0 < (sW S).1 0 := hS.1.2.2.2.1 (fun e => h1 (by rw [e]; rfl))
  rw [if_pos (by omega), if_neg h1]
  by_cases h2 : 1 ≤ t ∧ t ≤ 40
  · obtain ⟨tt, rfl⟩ : ∃ n : Nat, t = (n : Int) := ⟨t.toNat, by omega⟩
    rw [if_neg (by omega), if_pos (by omega), if_pos h2, Int.toNat_natCast]
    obtain ⟨d, rfl⟩ : ∃ e, d = e + 1 := ⟨d - 1, by omega⟩
    have gA : GC (u3 D 2 0 3 x) 0 (sW S).2.1 := hC.gc.u23
    rw [e_Company_spendDay, b_Company_spendDay_0, s_C_lostByAll (by omega) hS.gm gA]
    simp only [ab_ci]
    rw [b_Company_spendDay_9]
    have inn : ∀ (m c : Nat) (D : DD) (z : List Cr × Int) (l4 l5 : Int), c + m = (sW S).2.1.length → z.1.length = (sW S).2.1.length → LC D 1 (sW S).1 → okm z.1 → GC D 0 z.1 → D 2 0 3 = z.2 → ∃ D', at_ X d cd_Company_spendDay 23 [vR 2 0, vR 5 1, vU, vI (tt : Int), vI l4, vI l5, vI (c : Int)] [] (hp D) = at_ X d cd_Company_spendDay 14 [vR 2 0, vR 5 1, vU, vI (tt : Int), vI l4, vI (w32 (l5 + 1)), vU] [] (hp D') ∧ (GC D' 0 (dyI (sW S).1 m c z).1 ∧ D' 2 0 3 = (dyI (sW S).1 m c z).2) ∧ fr yP D D' := by
      intro m
      induction m with
      | zero =>
        intro c D z l4 l5 hc hz hl hm hg hx
        rw [b_Company_spendDay_23, hg.1, if_pos (by omega)]
        exact ⟨D, rfl, ⟨hg, hx⟩, fr.rf D⟩
      | succ m ih =>
        intro c D z l4 l5 hc hz hl hm hg hx
        obtain ⟨D1, w1, ⟨w2, w3⟩, w4⟩ := s_C_spendOnce (X := X) (d := d) (D := D) (c := c) (q := 1) (L := (sW S).1) (z := z) (by omega) hS.L h0 hl hm hg hx (by omega)
        obtain ⟨k1, k2⟩ := dyF_ok hS.L h0 hm (c := c) (by omega)
        rw [b_Company_spendDay_23, hg.1, if_neg (by omega), if_pos (by omega), Int.toNat_natCast, R46_0 (by omega)]
        simp only [ab_rf]
        rw [b_Company_spendDay_41, w1]
        simp only [ab_cv]
        rw [b_Company_spendDay_44, zb_s (by omega)]
        obtain ⟨D2, r1, r2, r3⟩ := ih (c + 1) D1 (dyF (sW S).1 z c) l4 l5 (by omega) (by omega) (hl.fy w4) k1 w2 w3
        exact ⟨D2, r1, r2, w4.tr r3⟩
    have out : ∀ (m k : Nat) (D : DD) (z : List Cr × Int) (l4 : Int) (v2 : ab_V), k + m = tt → z.1.length = (sW S).2.1.length → LC D 1 (sW S).1 → okm z.1 → GC D 0 z.1 → D 2 0 3 = z.2 → ∃ D', at_ X d cd_Company_spendDay 14 [vR 2 0, vR 5 1, v2, vI (tt : Int), vI l4, vI (k : Int), vU] [] (hp D) = some (some (vI (w32 (w32 (lsm (dyT (sW S).1 (sW S).2.1.length m z).1) - l4))), hp D') ∧ GC D' 0 (dyT (sW S).1 (sW S).2.1.length m z).1 ∧ fr yP D D' := by
      intro m
      induction m with
      | zero =>
        intro k D z l4 v2 hk hz hl hm hg hx
        rw [b_Company_spendDay_14, if_pos (by omega), s_C_lostByAll (by omega) hm hg]
        simp only [ab_ci]
        rw [b_Company_spendDay_60]
        exact ⟨D, rfl, hg, fr.rf D⟩
      | succ m ih =>
        intro k D z l4 v2 hk hz hl hm hg hx
        obtain ⟨D1, w1, ⟨w2, w3⟩, w4⟩ := inn (sW S).2.1.length 0 D z l4 (k : Int) (by omega) hz hl hm hg hx
        rw [show ((0 : Nat) : Int) = 0 from rfl] at w1
        obtain ⟨k1, k2⟩ := dyI_ok hS.L h0 (sW S).2.1.length 0 z hm (by omega)
        rw [b_Company_spendDay_14, if_neg (by omega), w1, zb_s (by omega)]
        obtain ⟨D2, r1, r2, r3⟩ := ih (k + 1) D1 (dyI (sW S).1 (sW S).2.1.length 0 z) l4 vU (by omega) (by omega) (hl.fy w4) k1 w2 w3
        exact ⟨D2, r1, r2, w4.tr r3⟩
    have fA : fr yP D (u3 D 2 0 3 x) := (fr.rf D).u (Or.inr ⟨rfl, rfl, rfl⟩)
    obtain ⟨D1, r1, r2, r3⟩ := out tt 0 (u3 D 2 0 3 x) ((sW S).2.1, x) (w32 (lsm (sW S).2.1)) (vI x) (by omega) rfl (hC.l.fy fA) hS.gm gA (u3_eq _ _ _ _ _)
    rw [show ((0 : Nat) : Int) = 0 from rfl, zb_wsub, zb_subw] at r1
    rw [r1]
    simp only []
    rw [b_N_day_40]
    exact ⟨D1, rfl, hC.grp hS ((fA.tr r3).mo fun t i k z => by
      rcases z with z | z
      · exact Or.inl z
      · exact Or.inr (by unfold cX; omega)) r2⟩
  · rw [if_neg h2]
    by_cases h3 : t < 1
    · rw [if_pos h3]
      exact ⟨D, rfl, hC, fr.rf D⟩
    · rw [if_neg h3, if_neg (by omega)]
      exact ⟨D, rfl, hC, fr.rf D⟩
theorem ok_day {S : St} {x t : Int} (hS : SOK S) : SOK (f_day S x t).2 := by
  unfold f_day
  split
  · exact hS
  · rename_i h1
    split
    · have h0 : 0 < (sW S).1 0 := hS.1.2.2.2.1 (fun e => h1 (by rw [e]; rfl))
      obtain ⟨r1, r2⟩ := dyT_ok hS.L h0 t.toNat ((sW S).2.1, x) hS.gm
      exact hS.grp r1 r2
    · exact hS
end
