/-! acts: words; the class's company -/
section
def GC (D : DD) (a : Nat) (men : List Cr) : Prop := D 2 a 1 = (men.length : Int) ∧ ∀ c v, men[c]? = some v → CC D (kB a + c) v
def okm (men : List Cr) : Prop := men.length ≤ 6 ∧ ∀ v ∈ men, okc v
def mnL (men : List Cr) (c : Nat) : Cr := men.getD c (emV 1)
theorem mnL_some {men : List Cr} {c : Nat} (h : c < men.length) : men[c]? = some (mnL men c) := by
  unfold mnL
  rw [List.getD_eq_getElem?_getD, List.getElem?_eq_getElem h]
  rfl
theorem okm.oc {men : List Cr} (h : okm men) {c : Nat} (hc : c < men.length) : okc (mnL men c) := h.2 _ (List.mem_of_getElem? (mnL_some hc))
theorem GC.cc {D : DD} {a : Nat} {men : List Cr} (h : GC D a men) {c : Nat} (hc : c < men.length) : CC D (kB a + c) (mnL men c) := h.2 c _ (mnL_some hc)
theorem okm.set {men : List Cr} {c : Nat} {v : Cr} (h : okm men) (hv : okc v) : okm (men.set c v) := by
  refine ⟨by rw [List.length_set]; exact h.1, fun w hw => ?_⟩
  rcases List.mem_or_eq_of_mem_set hw with z | z
  · exact h.2 w z
  · rw [z]; exact hv
theorem mnL_set {men : List Cr} {c : Nat} {v : Cr} (h : c < men.length) : mnL (men.set c v) c = v := by
  unfold mnL
  rw [List.getD_eq_getElem?_getD, List.getElem?_set_self h]
  rfl
theorem mnL_ne {men : List Cr} {c o : Nat} {v : Cr} (h : o ≠ c) : mnL (men.set c v) o = mnL men o := by
  unfold mnL
  rw [List.getD_eq_getElem?_getD, List.getElem?_set_ne (fun z => h z.symm), ← List.getD_eq_getElem?_getD]
/-- the couriers of company a -/
def gP (a : Nat) : Nat → Nat → Nat → Prop := fun t i _ => (t = 3 ∨ t = 47) ∧ kB a ≤ i ∧ i < kB a + 6
theorem GC.set {D D' : DD} {a c : Nat} {men : List Cr} {v : Cr} (h : GC D a men) (hc : c < men.length) (e : fr (cP (kB a + c)) D D') (hv : CC D' (kB a + c) v) : GC D' a (men.set c v) := by
  refine ⟨by rw [e 2 a 1 (fun z => by have := z.1; omega), h.1, List.length_set], fun c' v' hc' => ?_⟩
  by_cases e1 : c' = c
  · subst e1
    rw [List.getElem?_set_self hc] at hc'
    cases hc'
    exact hv
  · rw [List.getElem?_set_ne (fun z => e1 z.symm)] at hc'
    exact (h.2 c' v' hc').fr fun t k ht => e t _ k (fun z => by have := z.2; omega)
theorem cP_gP {a c : Nat} (h : c < 6) {D D' : DD} (e : fr (cP (kB a + c)) D D') : fr (gP a) D D' := e.mo fun t i k z => ⟨z.1, by have := z.2; omega, by have := z.2; omega⟩
theorem LC.fg {D D' : DD} {q a : Nat} {L : Nat → Nat} (h : LC D q L) (e : fr (gP a) D D') : LC D' q L := h.on fun t k ht => e t q k (fun z => by have := z.1; omega)
/-- what is told to one by a teller -/
def lsF (L : Nat → Nat) (z : Cr × Cr) (t : Nat) : Cr × Cr := if t ∈ cL z.2 then (hrV z.1 t, sayV L z.2 t) else z
def lsV (L : Nat → Nat) (v w : Cr) : Cr × Cr := (cL w).foldl (lsF L) (v, w)
theorem lsF_ok {L : Nat → Nat} {l : List Nat} (hl : ∀ t ∈ l, t < 16) {z : Cr × Cr} (h1 : okc z.1) (h2 : okc z.2) : okc (l.foldl (lsF L) z).1 ∧ okc (l.foldl (lsF L) z).2 := by
  induction l generalizing z with
  | nil => exact ⟨h1, h2⟩
  | cons t l ih =>
    have ht := hl t List.mem_cons_self
    rw [List.foldl_cons]
    unfold lsF
    split
    · exact ih (fun u hu => hl u (List.mem_cons_of_mem _ hu)) (h1.hr ht) (h2.say ht)
    · exact ih (fun u hu => hl u (List.mem_cons_of_mem _ hu)) h1 h2
/-- one act: what becomes of the men, or none if it can't be done -/
def actV (L : Nat → Nat) (men : List Cr) (c : Nat) (x : Int) : Option (List Cr) :=
  if x < 20 then (if 0 ≤ x ∧ x < (L 0 : Int) then some (men.set c (hrV (mnL men c) x.toNat)) else none)
  else if x < 40 then (if (0 ≤ x - 20 ∧ x - 20 < (L 0 : Int)) ∧ (x - 20).toNat ∈ cL (mnL men c) then some (men.set c (sayV L (mnL men c) (x - 20).toNat)) else none)
  else if x < 60 then (if 0 ≤ x - 40 ∧ x - 40 < (L 50 : Int) then some (men.set c (walkV L (mnL men c) (x - 40).toNat)) else none)
  else (if ((0 ≤ x - 60 ∧ x - 60 < (men.length : Int)) ∧ (c : Int) ≠ x - 60) ∧ cS (mnL men c) = cS (mnL men (x - 60).toNat) then some ((men.set c (lsV L (mnL men c) (mnL men (x - 60).toNat)).1).set (x - 60).toNat (lsV L (mnL men c) (mnL men (x - 60).toNat)).2) else none)
theorem okm.act {L : Nat → Nat} (hL : LOK L) {men men' : List Cr} {c : Nat} {x : Int} (h : okm men) (hc : c < men.length) (e : actV L men c x = some men') : okm men' ∧ men'.length = men.length := by
  have h16 := hL.1.1
  have h10 := hL.1.2.2.2.1
  unfold actV at e
  split at e
  · split at e
    · cases e
      exact ⟨h.set ((h.oc hc).hr (by omega)), List.length_set⟩
    · cases e
  · split at e
    · split at e
      · cases e
        exact ⟨h.set ((h.oc hc).say (by omega)), List.length_set⟩
      · cases e
    · split at e
      · split at e
        · cases e
          exact ⟨h.set ((h.oc hc).walk hL (by omega)), List.length_set⟩
        · cases e
      · split at e
        · cases e
          have ho := h.oc (c := (x - 60).toNat) (by omega)
          obtain ⟨k1, k2⟩ := lsF_ok (L := L) (l := cL (mnL men (x - 60).toNat)) (z := (mnL men c, mnL men (x - 60).toNat)) ho.2.2.1 (h.oc hc) ho
          exact ⟨(h.set k1).set k2, by rw [List.length_set, List.length_set]⟩
        · cases e
theorem s_C_listen {X : Nat × (Nat → Int)} {d : Nat} {D : DD} {a c o q : Nat} {men : List Cr} {L : Nat → Nat} (hd : 6 ≤ d) (hL : LOK L) (hl : LC D q L) (hm : okm men) (h : GC D a men) (hc : c < men.length) (ho : o < men.length) (hco : c ≠ o) : ∃ D', ev X d m_Company_listenIfNear [vR 5 q, vR 3 (kB a + c), vR 3 (kB a + o)] (hp D) = some (some (vI (if cS (mnL men c) = cS (mnL men o) then 1 else 0)), hp D') ∧ (if cS (mnL men c) = cS (mnL men o) then GC D' a ((men.set c (lsV L (mnL men c) (mnL men o)).1).set o (lsV L (mnL men c) (mnL men o)).2) else GC D' a men) ∧ fr (gP a) D D' := by
  obtain ⟨d, rfl⟩ : ∃ e, d = e + 1 := ⟨d - 1, by omega⟩
  have h6 := hm.1
  rw [e_Company_listenIfNear, b_Company_listenIfNear_0, (h.cc hc).2.1, (h.cc ho).2.1]
  by_cases hs : cS (mnL men c) = cS (mnL men o)
  · simp only [if_pos hs]
    rw [if_pos (by omega), (h.cc ho).2.2.1, (h.cc ho).2.2.2.2.1]
    have o5 := (hm.oc ho).2.2.1
    have o9 : (cL (mnL men o)).length ≤ 9 := Nat.le_trans (hm.oc ho).2.2.2 (hm.oc ho).1.2.1
    have key : ∀ (m k : Nat) (D : DD) (z : Cr × Cr), k + m = (cL (mnL men o)).length → LC D q L → okc z.1 → okc z.2 → GC D a ((men.set c z.1).set o z.2) → ∃ D', at_ X d cd_Company_listenIfNear 27 [vR 5 q, vR 3 (kB a + c), vR 3 (kB a + o), vL (enc (cL (mnL men o)) : Int), vU, vI ((cL (mnL men o)).length : Int), vI (k : Int), vU] [] (hp D) = some (some (vI 1), hp D') ∧ GC D' a ((men.set c (((cL (mnL men o)).drop k).foldl (lsF L) z).1).set o (((cL (mnL men o)).drop k).foldl (lsF L) z).2) ∧ fr (gP a) D D' := by
      intro m
      induction m with
      | zero =>
        intro k D z hk hl k1 k2 hg
        rw [b_Company_listenIfNear_27, if_pos (by omega), List.drop_of_length_le (by omega)]
        exact ⟨D, rfl, hg, fr.rf D⟩
      | succ m ih =>
        intro k D z hk hl k1 k2 hg
        have hb := enc_10 o5 (by omega)
        have eT : b_an (w32 (d_us (enc (cL (mnL men o)) : Int) (w32 (4 * (k : Int))))) 15 = (((cL (mnL men o)).getD k 0 : Nat) : Int) := by
          rw [zb_w (n := 4 * (k : Int)) (by omega) (by omega), show (4 : Int) * (k : Int) = ((4 * k : Nat) : Int) by omega, zd_us (by omega) (by omega), zb_and15, p16, enc_get o5]
        have ht : (cL (mnL men o)).getD k 0 < 16 := o5 _ (List.mem_of_getElem? (getD_some (by omega)))
        have lo : o < ((men.set c z.1).set o z.2).length := by rw [List.length_set, List.length_set]; exact ho
        have lc : c < ((men.set c z.1).set o z.2).length := by rw [List.length_set, List.length_set]; exact hc
        have eo : mnL ((men.set c z.1).set o z.2) o = z.2 := mnL_set (by rw [List.length_set]; exact ho)
        have ec : mnL ((men.set c z.1).set o z.2) c = z.1 := by rw [mnL_ne hco, mnL_set hc]
        have cco := hg.cc lo
        rw [eo] at cco
        have edr : (cL (mnL men o)).drop k = (cL (mnL men o)).getD k 0 :: (cL (mnL men o)).drop (k + 1) := by
          rw [List.drop_eq_getElem_cons (by omega), List.getD_eq_getElem?_getD, List.getElem?_eq_getElem (by omega)]
          rfl
        rw [b_Company_listenIfNear_27, if_neg (by omega), eT, s_C_has (l := cL z.2) (by omega) cco.2.2.2.1 k2.2.2.1 ht, edr, List.foldl_cons]
        simp only [ab_ci]
        rw [b_Company_listenIfNear_52]
        generalize (cL (mnL men o)).getD k 0 = t at ht ⊢
        by_cases hm2 : t ∈ cL z.2
        · have ed : lsF L z t = (hrV z.1 t, sayV L z.2 t) := by unfold lsF; rw [if_pos hm2]
          rw [if_pos hm2, if_neg (by decide)]
          obtain ⟨D1, g1, g2, g3⟩ := s_C_say (X := X) (d := d) (D := D) (i := kB a + o) (q := q) (t := t) (v := z.2) (L := L) (by omega) hL hl k2 cco ht
          have hg1 := hg.set lo g3 g2
          have es1 : ((men.set c z.1).set o z.2).set o (sayV L z.2 t) = (men.set c z.1).set o (sayV L z.2 t) := List.set_set ..
          rw [es1] at hg1
          have ec1 : mnL ((men.set c z.1).set o (sayV L z.2 t)) c = z.1 := by rw [mnL_ne hco, mnL_set hc]
          have lc1 : c < ((men.set c z.1).set o (sayV L z.2 t)).length := by rw [List.length_set, List.length_set]; exact hc
          have ccc := hg1.cc lc1
          rw [ec1] at ccc
          obtain ⟨D2, w1, w2, w3⟩ := s_C_hear (X := X) (d := d) (D := D1) (i := kB a + c) (t := t) (v := z.1) (by omega) k1 ccc ht
          have hg2 := hg1.set lc1 w3 w2
          have es2 : ((men.set c z.1).set o (sayV L z.2 t)).set c (hrV z.1 t) = (men.set c (hrV z.1 t)).set o (sayV L z.2 t) := by
            rw [List.set_comm _ _ (fun e => hco e), List.set_set, List.set_comm _ _ (fun e => hco e.symm)]
          rw [es2] at hg2
          have f1 : fr (gP a) D D1 := cP_gP (by omega) g3
          have f2 : fr (gP a) D1 D2 := cP_gP (by omega) w3
          rw [g1]
          simp only [ab_ci]
          rw [b_Company_listenIfNear_62, w1]
          simp only [ab_ci]
          rw [b_Company_listenIfNear_69, b_Company_listenIfNear_70, zb_s (by omega), ed]
          obtain ⟨D3, r1, r2, r3⟩ := ih (k + 1) D2 (hrV z.1 t, sayV L z.2 t) (by omega) ((hl.fg f1).fg f2) (k1.hr ht) (k2.say ht) hg2
          exact ⟨D3, r1, r2, (f1.tr f2).tr r3⟩
        · have ed : lsF L z t = z := by unfold lsF; rw [if_neg hm2]
          rw [if_neg hm2, if_pos rfl, b_Company_listenIfNear_70, zb_s (by omega), ed]
          exact ih (k + 1) D z (by omega) hl k1 k2 hg
    have e0 : (men.set c (mnL men c)).set o (mnL men o) = men := by
      have s1 : men.set c (mnL men c) = men := by
        apply List.ext_getElem?
        intro j
        by_cases e : j = c
        · subst e; rw [List.getElem?_set_self hc, mnL_some hc]
        · rw [List.getElem?_set_ne (fun z => e z.symm)]
      rw [s1]
      apply List.ext_getElem?
      intro j
      by_cases e : j = o
      · subst e; rw [List.getElem?_set_self ho, mnL_some ho]
      · rw [List.getElem?_set_ne (fun z => e z.symm)]
    have := key (cL (mnL men o)).length 0 D (mnL men c, mnL men o) (by omega) hl (hm.oc hc) (hm.oc ho) (by rw [e0]; exact h)
    rw [List.drop_zero] at this
    exact this
  · simp only [if_neg hs]
    rw [if_neg (by omega)]
    exact ⟨D, rfl, h, fr.rf D⟩
def osI (o : Option (List Cr)) : Int := match o with
  | none => 0
  | some _ => 1
theorem s_C_actOnce {X : Nat × (Nat → Int)} {d : Nat} {D : DD} {a c q : Nat} {men : List Cr} {L : Nat → Nat} {x : Int} (hd : 8 ≤ d) (hL : LOK L) (hl : LC D q L) (hm : okm men) (h : GC D a men) (hc : c < men.length) (hx : -9223372036854775808 ≤ x ∧ x < 9223372036854775808) : ∃ D', ev X d m_Company_actOnce [vR 2 a, vR 5 q, vI (c : Int), vL x] (hp D) = some (some (vI (osI (actV L men c x))), hp D') ∧ GC D' a ((actV L men c x).getD men) ∧ fr (gP a) D D' := by
  obtain ⟨d, rfl⟩ : ∃ e, d = e + 1 := ⟨d - 1, by omega⟩
  have h6 := hm.1
  have h16 := hL.1.1
  have h10 := hL.1.2.2.2.1
  rw [e_Company_actOnce, b_Company_actOnce_0, if_pos (by omega), Int.toNat_natCast, R46 (by omega)]
  simp only [ab_rf]
  rw [b_Company_actOnce_6]
  simp only [cmp_ge]
  unfold actV
  by_cases x20 : x < 20
  · rw [if_neg (by omega), if_pos x20]
    obtain ⟨d, rfl⟩ : ∃ e, d = e + 1 := ⟨d - 1, by omega⟩
    rw [e_Company_hearIfThere, b_Company_hearIfThere_0, s_C_isThing (by omega) hl]
    simp only [ab_ci]
    rw [b_Company_hearIfThere_5]
    by_cases h1 : 0 ≤ x ∧ x < (L 0 : Int)
    · obtain ⟨t, rfl⟩ : ∃ t : Nat, x = (t : Int) := ⟨x.toNat, by omega⟩
      obtain ⟨D1, g1, g2, g3⟩ := s_C_hear (X := X) (d := d) (D := D) (i := kB a + c) (t := t) (v := mnL men c) (by omega) (hm.oc hc) (h.cc hc) (by omega)
      rw [isI_t h1, if_pos (by decide), zb_w (by omega) (by omega), g1, if_pos h1, Int.toNat_natCast]
      simp only [ab_ci]
      rw [b_Company_hearIfThere_16]
      simp only []
      rw [b_Company_actOnce_23, if_pos (by decide)]
      exact ⟨D1, rfl, h.set hc g3 g2, cP_gP (by omega) g3⟩
    · rw [isI_f h1, if_neg (by decide), if_neg h1]
      simp only []
      rw [b_Company_actOnce_23, if_pos (by decide)]
      exact ⟨D, rfl, h, fr.rf D⟩
  rw [if_pos (by omega), if_neg x20]
  by_cases x40 : x < 40
  · rw [if_neg (by omega), if_pos x40, zb_w64 (by omega) (by omega)]
    obtain ⟨d, rfl⟩ : ∃ e, d = e + 1 := ⟨d - 1, by omega⟩
    rw [e_Company_sayIfHeld, b_Company_sayIfHeld_0, s_C_isThing (by omega) hl]
    simp only [ab_ci]
    rw [b_Company_sayIfHeld_5]
    by_cases h1 : 0 ≤ x - 20 ∧ x - 20 < (L 0 : Int)
    · obtain ⟨t, ht⟩ : ∃ t : Nat, x - 20 = (t : Int) := ⟨(x - 20).toNat, by omega⟩
      rw [ht] at h1 ⊢
      rw [isI_t h1, if_neg (by decide), zb_w (by omega) (by omega), s_C_has (by omega) (h.cc hc).2.2.2.1 (hm.oc hc).2.2.1 (by omega), Int.toNat_natCast]
      simp only [ab_ci]
      rw [b_Company_sayIfHeld_14]
      by_cases h2 : t ∈ cL (mnL men c)
      · obtain ⟨D1, g1, g2, g3⟩ := s_C_say (X := X) (d := d) (D := D) (i := kB a + c) (q := q) (t := t) (v := mnL men c) (by omega) hL hl (hm.oc hc) (h.cc hc) (by omega)
        rw [if_pos h2, if_pos (by decide), zb_w (by omega) (by omega), g1, if_pos (And.intro h1 h2)]
        simp only [ab_ci]
        rw [b_Company_sayIfHeld_26]
        simp only []
        rw [b_Company_actOnce_43, if_pos (by decide)]
        exact ⟨D1, rfl, h.set hc g3 g2, cP_gP (by omega) g3⟩
      · rw [if_neg h2, if_neg (by decide), if_neg (fun z => h2 z.2)]
        simp only []
        rw [b_Company_actOnce_43, if_pos (by decide)]
        exact ⟨D, rfl, h, fr.rf D⟩
    · rw [isI_f h1, if_pos rfl, if_neg (fun z => h1 z.1)]
      simp only []
      rw [b_Company_actOnce_43, if_pos (by decide)]
      exact ⟨D, rfl, h, fr.rf D⟩
  rw [if_pos (by omega), if_neg x40]
  by_cases x60 : x < 60
  · rw [if_neg (by omega), if_pos x60, zb_w64 (by omega) (by omega)]
    obtain ⟨d, rfl⟩ : ∃ e, d = e + 1 := ⟨d - 1, by omega⟩
    rw [e_Company_walkIfThere, b_Company_walkIfThere_0, s_C_isInn (by omega) hl]
    simp only [ab_ci]
    rw [b_Company_walkIfThere_5]
    by_cases h1 : 0 ≤ x - 40 ∧ x - 40 < (L 50 : Int)
    · obtain ⟨t, ht⟩ : ∃ t : Nat, x - 40 = (t : Int) := ⟨(x - 40).toNat, by omega⟩
      rw [ht] at h1 ⊢
      obtain ⟨D1, g1, g2, g3⟩ := s_C_walk (X := X) (d := d) (D := D) (i := kB a + c) (q := q) (to := t) (v := mnL men c) (by omega) hL hl (hm.oc hc) (h.cc hc) (by omega)
      rw [isI_t h1, if_pos (by decide), zb_w (by omega) (by omega), g1, if_pos h1, Int.toNat_natCast]
      simp only [ab_ci]
      rw [b_Company_walkIfThere_17]
      simp only []
      rw [b_Company_actOnce_63, if_pos (by decide)]
      exact ⟨D1, rfl, h.set hc g3 g2, cP_gP (by omega) g3⟩
    · rw [isI_f h1, if_neg (by decide), if_neg h1]
      simp only []
      rw [b_Company_actOnce_63, if_pos (by decide)]
      exact ⟨D, rfl, h, fr.rf D⟩
  rw [if_pos (by omega), if_neg x60, zb_w64 (by omega) (by omega), s_C_areTwo (by omega) h.1]
  simp only [ab_ci]
  rw [b_Company_actOnce_79]
  by_cases h1 : (0 ≤ x - 60 ∧ x - 60 < (men.length : Int)) ∧ (c : Int) ≠ x - 60
  · obtain ⟨o, ho⟩ : ∃ t : Nat, x - 60 = (t : Int) := ⟨(x - 60).toNat, by omega⟩
    rw [ho] at h1 ⊢
    rw [if_pos (show (((0 : Int) ≤ (c : Int) ∧ (c : Int) < (men.length : Int)) ∧ (0 : Int) ≤ (o : Int) ∧ (o : Int) < (men.length : Int)) ∧ (c : Int) ≠ (o : Int) by omega), if_neg (by decide), zb_w (by omega) (by omega), if_pos (by omega), Int.toNat_natCast, R46 (by omega)]
    simp only [ab_rf]
    obtain ⟨D1, g1, g2, g3⟩ := s_C_listen (X := X) (d := d) (D := D) (a := a) (c := c) (o := o) (q := q) (by omega) hL hl hm h hc (by omega) (by omega)
    rw [b_Company_actOnce_93, g1]
    simp only [ab_ci]
    rw [b_Company_actOnce_96]
    by_cases hs : cS (mnL men c) = cS (mnL men o)
    · rw [if_pos hs] at g2
      rw [if_pos hs, if_neg (by decide), if_pos (And.intro h1 hs)]
      exact ⟨D1, rfl, g2, g3⟩
    · rw [if_neg hs] at g2
      rw [if_neg hs, if_pos rfl, if_neg (fun z => hs z.2)]
      exact ⟨D1, rfl, g2, g3⟩
  · rw [if_neg (show ¬ ((((0 : Int) ≤ (c : Int) ∧ (c : Int) < (men.length : Int)) ∧ (0 : Int) ≤ x - 60 ∧ x - 60 < (men.length : Int)) ∧ (c : Int) ≠ x - 60) by omega), if_pos rfl, if_neg (fun z => h1 z.1)]
    exact ⟨D, rfl, h, fr.rf D⟩
/-- all acts of a row: how many were done, the men, how often a secret was held whole -/
def aaV (L : Nat → Nat) (c : Nat) : List Int → Nat → List Cr → Nat → Nat × List Cr × Nat
  | [], n, men, b => (n, men, b)
  | x :: r, n, men, b => match actV L men c x with
    | none => (n, men, b)
    | some men' => aaV L c r (n + 1) men' (if spO L (bs (cL (mnL men' c))) = none then b else b + 1)
theorem s_C_act {X : Nat × (Nat → Int)} {d : Nat} {D : DD} {a c q r : Nat} {men : List Cr} {L : Nat → Nat} {z : Rw} (hd : 9 ≤ d) (hL : LOK L) (hl : LC D q L) (hm : okm men) (h : GC D a men) (hc : c < men.length) (hr : RWC D r (some z)) (hz : okr (some z)) : ∃ D', ev X d m_Company_act [vR 2 a, vR 5 q, vI (c : Int), vR 8 r] (hp D) = some (some (vI ((aaV L c z.2 0 men 0).1 : Int)), hp D') ∧ (GC D' a (aaV L c z.2 0 men 0).2.1 ∧ D' 2 a 2 = ((aaV L c z.2 0 men 0).2.2 : Int)) ∧ fr (fun t i k => gP a t i k ∨ (t = 2 ∧ i = a ∧ k = 2)) D D' := by
  obtain ⟨d, rfl⟩ : ∃ e, d = e + 1 := ⟨d - 1, by omega⟩
  obtain ⟨z1, z2, z3⟩ := hz
  have key : ∀ (m k : Nat) (D : DD) (men : List Cr) (b : Nat), k + m = z.2.length → b ≤ k → LC D q L → okm men → c < men.length → RWC D r (some z) → GC D a men → D 2 a 2 = (b : Int) → ∃ D', at_ X d cd_Company_act 8 [vR 2 a, vR 5 q, vI (c : Int), vR 8 r, vI (k : Int)] [] (hp D) = some (some (vI ((aaV L c (z.2.drop k) k men b).1 : Int)), hp D') ∧ (GC D' a (aaV L c (z.2.drop k) k men b).2.1 ∧ D' 2 a 2 = ((aaV L c (z.2.drop k) k men b).2.2 : Int)) ∧ fr (fun t i k => gP a t i k ∨ (t = 2 ∧ i = a ∧ k = 2)) D D' := by
    intro m
    induction m with
    | zero =>
      intro k D men b hk hb hl hm hc hr h h2
      rw [b_Company_act_8, hr.1, if_pos (by omega), List.drop_of_length_le (by omega)]
      refine ⟨D, ?_, ⟨h, h2⟩, fr.rf D⟩
      rw [show (z.2.length : Int) = (k : Int) by omega]
      rfl
    | succ m ih =>
      intro k D men b hk hb hl hm hc hr h h2
      have h6 := hm.1
      obtain ⟨D1, g1, g2, g3⟩ := s_C_actOnce (X := X) (d := d) (D := D) (a := a) (c := c) (q := q) (men := men) (L := L) (x := z.2.getD k 0) (by omega) hL hl hm h hc (z3 _ (getD_mem (by omega)))
      rw [b_Company_act_8, hr.1, if_neg (by omega), if_pos (by omega), Int.toNat_natCast, hr.2.2.2 k (by omega), g1, drop_getD (by omega), aaV]
      simp only [ab_ci]
      rw [b_Company_act_30]
      cases hq : actV L men c (z.2.getD k 0) with
      | none =>
        rw [hq] at g2
        rw [if_neg (show ¬ osI none ≠ 0 from fun z => z rfl)]
        exact ⟨D1, rfl, ⟨g2, (g3 2 a 2 (fun z => by have := z.1; omega)).trans h2⟩, g3.mo fun _ _ _ z => Or.inl z⟩
      | some men' =>
        rw [hq] at g2
        have g2 : GC D1 a men' := g2
        obtain ⟨k1, k2⟩ := hm.act hL hc hq
        have hc' : c < men'.length := by omega
        have hb31 := bs_31 (k1.oc hc').2.2.1
        rw [if_pos (show osI (some men') ≠ 0 from (by show (1 : Int) ≠ 0; decide)), if_pos (by omega), Int.toNat_natCast, R46 (by omega)]
        simp only [ab_rf]
        rw [b_Company_act_43, (g2.cc hc').2.2.2.1, s_C_secretPair (by omega) hL (hl.fg g3) hb31]
        simp only [ab_ci]
        rw [b_Company_act_49]
        have e22 : D1 2 a 2 = (b : Int) := (g3 2 a 2 (fun z => by have := z.1; omega)).trans h2
        have hr1 : RWC D1 r (some z) := hr.on fun t j ht => g3 t r j (fun z => by have := z.1; omega)
        by_cases hs : spO L (bs (cL (mnL men' c))) = none
        · rw [if_pos (spI_none.mpr hs), if_pos hs, b_Company_act_63, zb_s (by omega)]
          obtain ⟨D2, r1, r2, r3⟩ := ih (k + 1) D1 men' b (by omega) (by omega) (hl.fg g3) k1 hc' hr1 g2 e22
          exact ⟨D2, r1, r2, (g3.mo fun _ _ _ z => Or.inl z).tr r3⟩
        · rw [if_neg (fun e => hs (spI_none.mp e)), if_neg hs, b_Company_act_63, zb_s (by omega), e22, zb_s (by omega)]
          have f2 : fr (fun t i k => gP a t i k ∨ (t = 2 ∧ i = a ∧ k = 2)) D1 (u3 D1 2 a 2 ((b + 1 : Nat) : Int)) := (fr.rf D1).u (Or.inr ⟨rfl, rfl, rfl⟩)
          have hg2 : GC (u3 D1 2 a 2 ((b + 1 : Nat) : Int)) a men' := ⟨by rw [u3_k (by omega)]; exact g2.1, fun c v hv => (g2.2 c v hv).fr fun t k ht => by rw [u3_t (by omega)]⟩
          obtain ⟨D2, r1, r2, r3⟩ := ih (k + 1) _ men' (b + 1) (by omega) (by omega) ((hl.fg g3).on fun t k ht => by rw [u3_t (by omega)]) k1 hc' (hr1.on fun t j ht => by rw [u3_t (by omega)]) hg2 (by rw [u3_eq])
          exact ⟨D2, r1, r2, ((g3.mo fun _ _ _ z => Or.inl z).tr f2).tr r3⟩
  rw [e_Company_act, b_Company_act_0]
  have f2 : fr (fun t i k => gP a t i k ∨ (t = 2 ∧ i = a ∧ k = 2)) D (u3 D 2 a 2 0) := (fr.rf D).u (Or.inr ⟨rfl, rfl, rfl⟩)
  obtain ⟨D2, r1, r2, r3⟩ := key z.2.length 0 (u3 D 2 a 2 0) men 0 (by omega) (by omega) (hl.on fun t k ht => by rw [u3_t (by omega)]) hm hc (hr.on fun t j ht => by rw [u3_t (by omega)]) ⟨by rw [u3_k (by omega)]; exact h.1, fun c v hv => (h.2 c v hv).fr fun t k ht => by rw [u3_t (by omega)]⟩ (by rw [u3_eq]; rfl)
  rw [List.drop_zero] at r1 r2
  exact ⟨D2, r1, r2, f2.tr r3⟩
end
