/-! the class's courier: has, thingAt, placeOf, hear -/
section
def CC (D : DD) (i : Nat) (v : Cr) : Prop :=
  D 3 i 0 = (cN v : Int) ∧ D 3 i 1 = (cS v : Int) ∧ D 3 i 2 = ((cL v).length : Int) ∧ D 3 i 3 = (bs (cL v) : Int) ∧ D 3 i 4 = (enc (cL v) : Int) ∧ D 3 i 5 = cZ v ∧ ∀ t, t < 16 → D 47 i t = cA v t
/-- the cells of courier i -/
def cP (i : Nat) : Nat → Nat → Nat → Prop := fun t j _ => (t = 3 ∨ t = 47) ∧ j = i
theorem CC.fr {D D' : DD} {i : Nat} {v : Cr} (h : CC D i v) (e : ∀ t k, (t = 3 ∨ t = 47) → D' t i k = D t i k) : CC D' i v := by
  obtain ⟨h0, h1, h2, h3, h4, h5, h6⟩ := h
  refine ⟨by rw [e 3 _ (Or.inl rfl), h0], by rw [e 3 _ (Or.inl rfl), h1], by rw [e 3 _ (Or.inl rfl), h2], by rw [e 3 _ (Or.inl rfl), h3], by rw [e 3 _ (Or.inl rfl), h4], by rw [e 3 _ (Or.inl rfl), h5], fun t ht => by rw [e 47 _ (Or.inr rfl), h6 t ht]⟩
theorem bs_31 {l : List Nat} (h : ∀ t ∈ l, t < 16) : bs l < 65536 := bs_lt (n := 16) h
theorem s_C_has {X : Nat × (Nat → Int)} {d : Nat} {D : DD} {i t : Nat} {l : List Nat} (hd : 1 ≤ d) (h3 : D 3 i 3 = (bs l : Int)) (hl : ∀ t ∈ l, t < 16) (ht : t < 16) : ev X d m_Courier_has [vR 3 i, vI (t : Int)] (hp D) = some (some (vI (if t ∈ l then 1 else 0)), hp D) := by
  obtain ⟨d, rfl⟩ : ∃ e, d = e + 1 := ⟨d - 1, by omega⟩
  have hb := bs_31 hl
  rw [e_Courier_has, b_Courier_has_0, h3, zb_bit (by omega) (by omega), bs_bit]
  by_cases h : t ∈ l <;> simp [h]
theorem enc_10 {l : List Nat} (h : ∀ t ∈ l, t < 16) (hl : l.length ≤ 10) : enc l < 1099511627776 := by
  have h1 := enc_lt h
  have h2 : 16 ^ l.length ≤ 16 ^ 10 := Nat.pow_le_pow_right (by omega) hl
  omega
theorem s_C_thingAt {X : Nat × (Nat → Int)} {d : Nat} {D : DD} {i k : Nat} {l : List Nat} (hd : 1 ≤ d) (h4 : D 3 i 4 = (enc l : Int)) (hl : ∀ t ∈ l, t < 16) (hn : l.length ≤ 10) (hk : k ≤ 10) : ev X d m_Courier_thingAt [vR 3 i, vI (k : Int)] (hp D) = some (some (vI (l.getD k 0 : Nat)), hp D) := by
  obtain ⟨d, rfl⟩ : ∃ e, d = e + 1 := ⟨d - 1, by omega⟩
  have hb := enc_10 hl hn
  rw [e_Courier_thingAt, b_Courier_thingAt_0, h4, zb_w (n := 4 * (k : Int)) (by omega) (by omega), show (4 : Int) * (k : Int) = ((4 * k : Nat) : Int) by omega, zd_us (by omega) (by omega), zb_and15, p16, enc_get hl]
def ixI (l : List Nat) (t : Nat) : Int := if t ∈ l then (l.idxOf t : Int) else -1
theorem ixI_ge {l : List Nat} {t k : Nat} (hk : l.length ≤ k) (h : ∀ j, j < k → l[j]? ≠ some t) : ixI l t = -1 := by
  unfold ixI
  rw [if_neg]
  intro hm
  obtain ⟨j, hj, e⟩ := List.mem_iff_getElem.mp hm
  exact h j (by omega) (by rw [List.getElem?_eq_getElem hj, e])
theorem ixI_eq {l : List Nat} {t k : Nat} (hk : l[k]? = some t) (h : ∀ j, j < k → l[j]? ≠ some t) : ixI l t = (k : Int) := by
  obtain ⟨hk1, hk2⟩ := List.getElem?_eq_some_iff.mp hk
  have hm : t ∈ l := List.mem_of_getElem? hk
  unfold ixI
  rw [if_pos hm]
  have h1 : l.idxOf t < l.length := List.idxOf_lt_length_of_mem hm
  have h2 : l[l.idxOf t]? = some t := by rw [List.getElem?_eq_getElem h1, List.getElem_idxOf h1]
  have h3 : ¬ l.idxOf t < k := fun z => h _ z h2
  have h4 : l.idxOf t ≤ k := by
    apply Classical.byContradiction
    intro hc
    have := List.not_of_lt_findIdx (p := fun x => x == t) (xs := l) (i := k) (by unfold List.idxOf at hc; omega)
    rw [hk2] at this
    simp at this
  omega
theorem getD_some {l : List Nat} {k : Nat} (h : k < l.length) : l[k]? = some (l.getD k 0) := by
  rw [List.getD_eq_getElem?_getD, List.getElem?_eq_getElem h]
  rfl
theorem s_C_placeOf {X : Nat × (Nat → Int)} {d : Nat} {D : DD} {i t : Nat} {l : List Nat} (hd : 2 ≤ d) (h2 : D 3 i 2 = (l.length : Int)) (h4 : D 3 i 4 = (enc l : Int)) (hl : ∀ t ∈ l, t < 16) (hn : l.length ≤ 10) : ev X d m_Courier_placeOf [vR 3 i, vI (t : Int)] (hp D) = some (some (vI (ixI l t)), hp D) := by
  obtain ⟨d, rfl⟩ : ∃ e, d = e + 1 := ⟨d - 1, by omega⟩
  have key : ∀ (m k : Nat), k + m = l.length → (∀ j, j < k → l[j]? ≠ some t) → at_ X d cd_Courier_placeOf 2 [vR 3 i, vI (t : Int), vI (k : Int)] [] (hp D) = some (some (vI (ixI l t)), hp D) := by
    intro m
    induction m with
    | zero =>
      intro k hk hj
      rw [b_Courier_placeOf_2, if_pos (by omega), ixI_ge (k := k) (by omega) hj]
    | succ m ih =>
      intro k hk hj
      rw [b_Courier_placeOf_2, if_neg (by omega), s_C_thingAt (by omega) h4 hl hn (by omega)]
      simp only [ab_ci]
      rw [b_Courier_placeOf_15]
      have g := getD_some (l := l) (k := k) (by omega)
      by_cases he : l.getD k 0 = t
      · rw [if_neg (by omega), ixI_eq (k := k) (by rw [g, he]) hj]
      · rw [if_pos (by omega), zb_s (by omega)]
        refine ih (k + 1) (by omega) fun j hj' => ?_
        by_cases e : j = k
        · subst e
          rw [g]
          simpa using he
        · exact hj j (by omega)
  rw [e_Courier_placeOf, b_Courier_placeOf_0]
  exact key l.length 0 (by omega) (fun j hj => absurd hj (by omega))
theorem ta_get {l : List Nat} {k : Nat} (hl : ∀ t ∈ l, t < 16) (hn : l.length ≤ 10) (hk : k ≤ 10) : b_an (w32 (d_us (enc l : Int) (w32 (4 * (k : Int))))) 15 = ((l.getD k 0 : Nat) : Int) := by
  have hb := enc_10 hl hn
  rw [zb_w (n := 4 * (k : Int)) (by omega) (by omega), show (4 : Int) * (k : Int) = ((4 * k : Nat) : Int) by omega, zd_us (by omega) (by omega), zb_and15, p16, enc_get hl]
theorem da_get {l : List Nat} {k : Nat} (hl : ∀ t ∈ l, t < 16) (hn : l.length ≤ 10) (hk : k ≤ 10) : d_an (d_us (enc l : Int) ((4 * k : Nat) : Int)) 15 = ((l.getD k 0 : Nat) : Int) := by
  have hb := enc_10 hl hn
  have hq := Nat.div_le_self (enc l) (2 ^ (4 * k))
  have h : d_an ((enc l / 2 ^ (4 * k) : Nat) : Int) 15 = ((enc l / 2 ^ (4 * k) &&& (2 ^ 4 - 1) : Nat) : Int) := zd_an (n := enc l / 2 ^ (4 * k)) (m := 15) (by omega) (by omega)
  rw [zd_us (by omega) (by omega), h, Nat.and_two_pow_sub_one_eq_mod, p16 k]
  exact congrArg (fun z : Nat => (z : Int)) (enc_get hl k)
/-- the packed long, a thing brought forward -/
theorem bf_enc {l : List Nat} {p t : Nat} (hl : ∀ t ∈ l, t < 16) (hn : l.length ≤ 9) (hp9 : p < l.length) (ht : t < 16) : d_orr (d_orr (d_sl (d_us (enc l : Int) (w32 (((4 * p : Nat) : Int) + 4))) (w32 (((4 * p : Nat) : Int) + 4))) (d_sl (d_an (enc l : Int) (w64 ((d_sl 1 ((4 * p : Nat) : Int)) - 1))) 4)) (t : Int) = ((enc (t :: (l.take p ++ l.drop (p + 1))) : Nat) : Int) := by
  have hb := enc_10 hl (by omega)
  rw [zb_w (n := ((4 * p : Nat) : Int) + 4) (by omega) (by omega)]
  have c2 : ((4 * p : Nat) : Int) + 4 = ((4 * (p + 1) : Nat) : Int) := by omega
  rw [c2, zd_us (by omega) (by omega), p16, enc_div hl]
  have b1 : enc (l.drop (p + 1)) * 2 ^ (4 * (p + 1)) ≤ enc l := by
    rw [p16, ← enc_div hl]
    exact Nat.div_mul_le_self _ _
  have b2 : 16 ^ p ≤ 16 ^ 8 := Nat.pow_le_pow_right (by omega) (by omega)
  have b3 : 0 < 16 ^ p := Nat.pos_of_ne_zero (by exact Nat.ne_of_gt (Nat.pow_pos (by omega)))
  rw [zd_sl (by omega) (by omega)]
  have c3 : d_sl 1 ((4 * p : Nat) : Int) = ((16 ^ p : Nat) : Int) := by
    have := zd_sl (n := 1) (t := 4 * p) (by omega) (by rw [p16]; omega)
    rw [Nat.one_mul, p16] at this
    exact this
  have c4 : w64 (((16 ^ p : Nat) : Int) - 1) = ((2 ^ (4 * p) - 1 : Nat) : Int) := by
    rw [p16, zb_w64 (by omega) (by omega)]
    omega
  rw [c3, c4, zd_an (by omega) (by rw [p16]; omega), Nat.and_two_pow_sub_one_eq_mod, p16 p, enc_mod hl]
  have b4 : enc (l.take p) ≤ enc l := by rw [← enc_mod hl]; exact Nat.mod_le _ _
  have c5 : d_sl ((enc (l.take p) : Nat) : Int) 4 = ((enc (l.take p) * 16 : Nat) : Int) := zd_sl (n := enc (l.take p)) (t := 4) (by omega) (by omega)
  have b5 : enc (l.take p) < 16 ^ p := by rw [← enc_mod hl]; exact Nat.mod_lt _ b3
  rw [c5, zd_or (by omega) (by omega)]
  have c6 : enc (l.drop (p + 1)) * 2 ^ (4 * (p + 1)) ||| enc (l.take p) * 16 = enc (l.drop (p + 1)) * 16 ^ (p + 1) + enc (l.take p) * 16 := by
    have h := Nat.two_pow_add_eq_or_of_lt (i := 4 * (p + 1)) (b := enc (l.take p) * 16) (by rw [p16, Nat.pow_succ]; omega) (enc (l.drop (p + 1)))
    rw [Nat.mul_comm, ← h, p16, Nat.mul_comm]
  rw [p16] at b1
  rw [c6, zd_or (by omega) (by omega)]
  have c7 : enc (l.drop (p + 1)) * 16 ^ (p + 1) + enc (l.take p) * 16 ||| t = enc (l.drop (p + 1)) * 16 ^ (p + 1) + enc (l.take p) * 16 + t := by
    have e : enc (l.drop (p + 1)) * 16 ^ (p + 1) + enc (l.take p) * 16 = 2 ^ 4 * (enc (l.drop (p + 1)) * 16 ^ p + enc (l.take p)) := by
      rw [Nat.pow_succ, ← Nat.mul_assoc]
      omega
    rw [e, ← Nat.two_pow_add_eq_or_of_lt (i := 4) (b := t) (by omega)]
  rw [c7, enc, enc_app, List.length_take, Nat.min_eq_left (by omega), Nat.pow_succ]
  have : enc (l.drop (p + 1)) * (16 ^ p * 16) = 16 * (16 ^ p * enc (l.drop (p + 1))) := by
    rw [Nat.mul_comm, Nat.mul_comm (16 ^ p) 16, Nat.mul_assoc]
  rw [this]
  omega
theorem bs_perm {l r : List Nat} (h : ∀ t, t ∈ l ↔ t ∈ r) : bs l = bs r := by
  apply Nat.eq_of_testBit_eq
  intro i
  rw [bs_bit, bs_bit]
  simp only [h i]
theorem s_C_bring {X : Nat × (Nat → Int)} {d : Nat} {D : DD} {i t : Nat} {v : Cr} (hd : 3 ≤ d) (hv : okc v) (h : CC D i v) (ht : t ∈ cL v) : ev X d m_Courier_bringForward [vR 3 i, vI (t : Int)] (hp D) = some (none, hp (u3 D 3 i 4 (enc (hrM (cL v) t) : Nat))) := by
  obtain ⟨d, rfl⟩ : ∃ e, d = e + 1 := ⟨d - 1, by omega⟩
  obtain ⟨h0, h1, h2, h3, h4, h5, h6⟩ := h
  obtain ⟨⟨o1, o2, o3⟩, o4, o5, o6⟩ := hv
  have hi : (cL v).idxOf t < (cL v).length := List.idxOf_lt_length_of_mem ht
  have gt : (cL v).getD ((cL v).idxOf t) 0 = t := by
    have g := getD_some (l := cL v) (k := (cL v).idxOf t) hi
    rw [List.getElem?_eq_getElem hi, List.getElem_idxOf hi] at g
    exact (Option.some.inj g).symm
  have gn : ∀ k, k < (cL v).idxOf t → (cL v).getD k 0 ≠ t := by
    intro k hk he
    obtain ⟨k1, k2⟩ := List.getElem?_eq_some_iff.mp (getD_some (l := cL v) (k := k) (by omega))
    have := List.not_of_lt_findIdx (p := fun x => x == t) (xs := cL v) (i := k) (by unfold List.idxOf at hk; omega)
    rw [k2, he] at this
    simp at this
  have key : ∀ (m k : Nat), k + m = (cL v).idxOf t → at_ X d cd_Courier_bringForward 2 [vR 3 i, vI (t : Int), vI ((4 * k : Nat) : Int), vU, vU, vU, vU] [] (hp D) = at_ X d cd_Courier_bringForward 34 [vR 3 i, vI (t : Int), vI ((4 * (cL v).idxOf t : Nat) : Int), vU, vU, vU, vU] [] (hp D) := by
    intro m
    induction m with
    | zero =>
      intro k hk
      have hk' : k = (cL v).idxOf t := by omega
      rw [b_Courier_bringForward_2, h2, h4, zb_w (n := 4 * ((cL v).length : Int)) (by omega) (by omega), if_neg (by omega), da_get o5 (by omega) (by omega), hk', gt, if_pos (cmp_eq.mpr rfl)]
    | succ m ih =>
      intro k hk
      have hg : d_cmp (((cL v).getD k 0 : Nat) : Int) (t : Int) ≠ 0 := cmp_ne.mpr fun z => gn k (by omega) (Int.ofNat.inj z)
      rw [b_Courier_bringForward_2, h2, h4, zb_w (n := 4 * ((cL v).length : Int)) (by omega) (by omega), if_neg (by omega), da_get o5 (by omega) (by omega), if_neg hg, zb_w (n := ((4 * k : Nat) : Int) + 4) (by omega) (by omega), show ((4 * k : Nat) : Int) + 4 = ((4 * (k + 1) : Nat) : Int) by omega]
      exact ih (k + 1) (by omega)
  have k0 : at_ X d cd_Courier_bringForward 2 [vR 3 i, vI (t : Int), vI 0, vU, vU, vU, vU] [] (hp D) = _ := key ((cL v).idxOf t) 0 (by omega)
  rw [e_Courier_bringForward, b_Courier_bringForward_0, k0, b_Courier_bringForward_34, h4, bf_enc (p := (cL v).idxOf t) o5 (by omega) hi (o5 t ht)]
  have e : (cL v).take ((cL v).idxOf t) ++ (cL v).drop ((cL v).idxOf t + 1) = (cL v).erase t := by
    rw [List.erase_eq_eraseIdx_of_idxOf (i := (cL v).idxOf t) rfl, List.eraseIdx_eq_take_drop_succ]
  rw [e]
end
