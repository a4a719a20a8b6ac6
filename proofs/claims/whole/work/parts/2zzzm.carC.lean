/-! men and loads: the class's small methods -/
section
theorem subm : ∀ (o i p : Nat), (∀ t, i.testBit t = true → o.testBit t = true) → (∀ t, p.testBit t = true → o.testBit t = true) → p < i → p ≤ (i - 1) &&& o := by
  intro o i
  induction i using Nat.strongRecOn generalizing o with
  | ind i ih =>
    intro p hi hp9 hlt
    have half : ∀ x y : Nat, (x &&& y) / 2 = (x / 2) &&& (y / 2) := fun x y => Nat.eq_of_testBit_eq fun j => by
      rw [← Nat.testBit_succ, Nat.testBit_and, Nat.testBit_and, Nat.testBit_succ, Nat.testBit_succ]
    have hi2 : ∀ t, (i / 2).testBit t = true → (o / 2).testBit t = true := fun t h => by rw [← Nat.testBit_succ] at h ⊢; exact hi _ h
    have hp2 : ∀ t, (p / 2).testBit t = true → (o / 2).testBit t = true := fun t h => by rw [← Nat.testBit_succ] at h ⊢; exact hp9 _ h
    have d1 := half (i - 1) o
    by_cases c : i % 2 = 1
    · have e1 : (i - 1) / 2 = i / 2 := by omega
      have e2 : (i / 2) &&& (o / 2) = i / 2 := Nat.eq_of_testBit_eq fun t => by
        rw [Nat.testBit_and]
        cases hx : (i / 2).testBit t with
        | false => rfl
        | true => rw [hi2 t hx]; rfl
      rw [e1, e2] at d1
      omega
    · have g := ih (i / 2) (by omega) (o / 2) (p / 2) hi2 hp2 (by omega)
      have e1 : (i - 1) / 2 = i / 2 - 1 := by omega
      rw [e1] at d1
      have d0 : p % 2 ≤ ((i - 1) &&& o) % 2 := by
        by_cases h1 : p % 2 = 1
        · have h2 : o.testBit 0 = true := hp9 0 (by rw [Nat.testBit_zero]; exact decide_eq_true h1)
          have h3 : ((i - 1) &&& o).testBit 0 = true := by
            rw [Nat.testBit_and, h2, Nat.testBit_zero, decide_eq_true (by omega : (i - 1) % 2 = 1)]; rfl
          rw [Nat.testBit_zero] at h3
          have := of_decide_eq_true h3
          omega
        · omega
      omega
def KC (D : DD) (L : Nat → Nat) (e : Nat) : Prop := (∀ t, t < 16 → D 45 0 t = (L (18 + t) : Int)) ∧ D 1 0 1 = (e : Int)
theorem and_0 {a b : Nat} : a &&& b = 0 ↔ ∀ t, b.testBit t = true → a.testBit t = false := by
  constructor
  · intro h t ht
    have h9 : (a &&& b).testBit t = false := by rw [h, Nat.zero_testBit]
    rw [Nat.testBit_and, ht, Bool.and_true] at h9
    exact h9
  · intro h
    refine bit0 fun t => ?_
    rw [Nat.testBit_and]
    cases hb : b.testBit t with
    | false => exact Bool.and_false _
    | true => rw [h t hb]; rfl
theorem s_C_hardest {X : Nat × (Nat → Int)} {d : Nat} {D : DD} {L : Nat → Nat} {e all : Nat} (hd : 2 ≤ d) (hL : LOK L) (hK : KC D L e) (ha : all < 65536) (h0 : all ≠ 0) : ∃ h : Nat, ev X d m_Carriers_hardestOf [vR 1 0, vI (all : Int)] (hp D) = some (some (vI (h : Int)), hp D) ∧ h < 16 ∧ all.testBit h = true ∧ ∀ t, all.testBit t = true → pc (L (18 + t) &&& all) ≤ pc (L (18 + h) &&& all) := by
  obtain ⟨d, rfl⟩ : ∃ e, d = e + 1 := ⟨d - 1, by omega⟩
  have key : ∀ (m t : Nat) (h : Nat) (mo : Int), t + m = 16 → ((h = 0 ∧ mo = -1 ∧ ∀ u, u < t → all.testBit u = false) ∨ (h < 16 ∧ all.testBit h = true ∧ mo = (pc (L (18 + h) &&& all) : Int) ∧ ∀ u, u < t → all.testBit u = true → pc (L (18 + u) &&& all) ≤ pc (L (18 + h) &&& all))) → ∃ r : Nat, at_ X d cd_Carriers_hardestOf 7 [vR 1 0, vI (all : Int), vI (h : Int), vI mo, vI (t : Int), vU] [] (hp D) = some (some (vI (r : Int)), hp D) ∧ r < 16 ∧ all.testBit r = true ∧ ∀ t, all.testBit t = true → pc (L (18 + t) &&& all) ≤ pc (L (18 + r) &&& all) := by
    intro m
    induction m with
    | zero =>
      intro t h mo ht hinv
      rcases hinv with ⟨_, _, h3⟩ | ⟨h1, h2, _, h4⟩
      · obtain ⟨u, u1, u2⟩ := has_bit (n := 16) ha h0
        rw [h3 u (by omega)] at u2
        cases u2
      · rw [b_Carriers_hardestOf_7, if_pos (by omega)]
        exact ⟨h, rfl, h1, h2, fun u hu => h4 u (by have := bit16 ha hu; omega) hu⟩
    | succ m ih =>
      intro t h mo ht hinv
      have hs := hL.s (t := t) (by omega)
      have hlt : L (18 + t) &&& all < 65536 := Nat.lt_of_le_of_lt Nat.and_le_right ha
      rw [b_Carriers_hardestOf_7, if_neg (by omega), if_pos (by omega), Int.toNat_natCast, hK.1 t (by omega), zb_an (by omega) (by omega), s_bitCount (by omega) hlt]
      simp only [ab_ci]
      rw [b_Carriers_hardestOf_26, zb_bit (by omega) (by omega)]
      by_cases hb : all.testBit t = true
      · rw [if_pos hb, if_neg (by decide)]
        by_cases c : (pc (L (18 + t) &&& all) : Int) ≤ mo
        · rw [if_pos c, b_Carriers_hardestOf_49, zb_s (by omega)]
          refine ih (t + 1) h mo (by omega) (Or.inr ?_)
          rcases hinv with ⟨_, h2, _⟩ | ⟨h1, h2, h3, h4⟩
          · omega
          · refine ⟨h1, h2, h3, fun u hu hu2 => ?_⟩
            by_cases eu : u = t
            · rw [eu]; omega
            · exact h4 u (by omega) hu2
        · rw [if_neg c, b_Carriers_hardestOf_49, zb_s (by omega)]
          refine ih (t + 1) t _ (by omega) (Or.inr ⟨by omega, hb, rfl, fun u hu hu2 => ?_⟩)
          by_cases eu : u = t
          · rw [eu]; exact Nat.le_refl _
          · rcases hinv with ⟨_, _, h3⟩ | ⟨h1, h2, h3, h4⟩
            · rw [h3 u (by omega)] at hu2; cases hu2
            · have := h4 u (by omega) hu2
              omega
      · rw [if_neg hb, if_pos rfl, b_Carriers_hardestOf_49, zb_s (by omega)]
        rw [Bool.not_eq_true] at hb
        refine ih (t + 1) h mo (by omega) ?_
        rcases hinv with ⟨h1, h2, h3⟩ | ⟨h1, h2, h3, h4⟩
        · refine Or.inl ⟨h1, h2, fun u hu => ?_⟩
          by_cases eu : u = t
          · rw [eu]; exact hb
          · exact h3 u (by omega)
        · refine Or.inr ⟨h1, h2, h3, fun u hu hu2 => ?_⟩
          by_cases eu : u = t
          · rw [eu, hb] at hu2; cases hu2
          · exact h4 u (by omega) hu2
  rw [e_Carriers_hardestOf, b_Carriers_hardestOf_0]
  exact key 16 0 0 (-1) (by omega) (Or.inl ⟨rfl, rfl, fun u hu => by omega⟩)
theorem s_C_easy {X : Nat × (Nat → Int)} {d : Nat} {D : DD} {L : Nat → Nat} {e o all : Nat} (hd : 1 ≤ d) (hL : LOK L) (hK : KC D L e) (ho : o < 65536) (ha : all < 65536) : ∃ E : Nat, ev X d m_Carriers_easyOf [vR 1 0, vI (o : Int), vI (all : Int)] (hp D) = some (some (vI (E : Int)), hp D) ∧ E < 65536 ∧ ∀ t, E.testBit t = true ↔ o.testBit t = true ∧ L (18 + t) &&& all = 0 := by
  obtain ⟨d, rfl⟩ : ∃ e, d = e + 1 := ⟨d - 1, by omega⟩
  have key : ∀ (m t E : Nat), t + m = 16 → E < 65536 → (∀ u, E.testBit u = true ↔ u < t ∧ o.testBit u = true ∧ L (18 + u) &&& all = 0) → ∃ r : Nat, at_ X d cd_Carriers_easyOf 5 [vR 1 0, vI (o : Int), vI (all : Int), vI (E : Int), vI (t : Int)] [] (hp D) = some (some (vI (r : Int)), hp D) ∧ r < 65536 ∧ ∀ t, r.testBit t = true ↔ o.testBit t = true ∧ L (18 + t) &&& all = 0 := by
    intro m
    induction m with
    | zero =>
      intro t E ht hE hinv
      rw [b_Carriers_easyOf_5, if_pos (by omega)]
      refine ⟨E, rfl, hE, fun u => ?_⟩
      rw [hinv]
      constructor
      · exact fun h => h.2
      · exact fun h => ⟨by have := bit16 ho h.1; omega, h⟩
    | succ m ih =>
      intro t E ht hE hinv
      have hs := hL.s (t := t) (by omega)
      have h2 : 2 ^ t < 65536 := zb_p2 (k := 16) (by omega)
      rw [b_Carriers_easyOf_5, if_neg (by omega), zb_bit (by omega) (by omega)]
      have keep : ¬ (o.testBit t = true ∧ L (18 + t) &&& all = 0) → ∃ r : Nat, at_ X d cd_Carriers_easyOf 40 [vR 1 0, vI (o : Int), vI (all : Int), vI (E : Int), vI (t : Int)] [] (hp D) = some (some (vI (r : Int)), hp D) ∧ r < 65536 ∧ ∀ t, r.testBit t = true ↔ o.testBit t = true ∧ L (18 + t) &&& all = 0 := by
        intro hno
        rw [b_Carriers_easyOf_40, zb_s (by omega)]
        obtain ⟨E', g1, g2⟩ := ih (t + 1) E (by omega) hE (fun u => by
          rw [hinv]
          constructor
          · exact fun h => ⟨by omega, h.2⟩
          · intro h
            refine ⟨?_, h.2⟩
            have : u ≠ t := fun z => hno (z ▸ h.2)
            omega)
        exact ⟨E', g1, g2⟩
      by_cases hb : o.testBit t = true
      · rw [if_pos hb, if_neg (by decide), if_pos (by omega), Int.toNat_natCast, hK.1 t (by omega), zb_an (by omega) (by omega)]
        by_cases c : L (18 + t) &&& all = 0
        · rw [if_neg (by omega), zb_sl (by omega), zb_or (by omega) (by omega), b_Carriers_easyOf_40, zb_s (by omega)]
          refine ih (t + 1) (E ||| 2 ^ t) (by omega) (Nat.or_lt_two_pow (n := 16) hE h2) (fun u => ?_)
          rw [bor]
          by_cases eu : t = u
          · rw [decide_eq_true eu, Bool.or_true, ← eu]
            exact ⟨fun _ => ⟨by omega, hb, c⟩, fun _ => rfl⟩
          · rw [decide_eq_false eu, Bool.or_false, hinv]
            constructor
            · exact fun h => ⟨by omega, h.2⟩
            · exact fun h => ⟨by omega, h.2⟩
        · rw [if_pos (by omega)]
          obtain ⟨E', g⟩ := keep fun z => c z.2
          exact ⟨E', g⟩
      · rw [if_neg hb, if_pos rfl]
        exact keep fun z => hb z.1
  rw [e_Carriers_easyOf, b_Carriers_easyOf_0]
  exact key 16 0 0 (by omega) (by omega) (fun u => by rw [Nat.zero_testBit]; exact ⟨(fun h => by cases h), (fun h => by omega)⟩)
theorem s_C_tooMuch {X : Nat × (Nat → Int)} {d : Nat} {D : DD} {L : Nat → Nat} {e p : Nat} (hd : 2 ≤ d) (hL : LOK L) (hK : KC D L e) (he : 1 ≤ e) (he9 : e ≤ 9) (hp9 : p < 65536) : (Ld L (e - 1) p ∧ ev X d m_Carriers_tooMuchAt [vR 1 0, vI (p : Int)] (hp D) = some (some (vI (-1)), hp D)) ∨ ∃ b : Nat, b < 16 ∧ p.testBit b = true ∧ ev X d m_Carriers_tooMuchAt [vR 1 0, vI (p : Int)] (hp D) = some (some (vI (b : Int)), hp D) ∧ ∀ r, (∀ t, b ≤ t → p.testBit t = true → r.testBit t = true) → ¬ Ld L (e - 1) r := by
  obtain ⟨d, rfl⟩ : ∃ e, d = e + 1 := ⟨d - 1, by omega⟩
  have key : ∀ (t k : Nat), t ≤ 16 → k < 65536 → (∀ u, k.testBit u = true ↔ t ≤ u ∧ p.testBit u = true) → Ld L (e - 1) k → (Ld L (e - 1) p ∧ at_ X d cd_Carriers_tooMuchAt 5 [vR 1 0, vI (p : Int), vI (k : Int), vI ((t : Int) - 1)] [] (hp D) = some (some (vI (-1)), hp D)) ∨ ∃ b : Nat, b < 16 ∧ p.testBit b = true ∧ at_ X d cd_Carriers_tooMuchAt 5 [vR 1 0, vI (p : Int), vI (k : Int), vI ((t : Int) - 1)] [] (hp D) = some (some (vI (b : Int)), hp D) ∧ ∀ r, (∀ t, b ≤ t → p.testBit t = true → r.testBit t = true) → ¬ Ld L (e - 1) r := by
    intro t
    induction t with
    | zero =>
      intro k _ hk hinv hld
      left
      have e1 : k = p := Nat.eq_of_testBit_eq fun u => by
        have := hinv u
        cases h1 : k.testBit u <;> cases h2 : p.testBit u <;> simp [h1, h2] at this ⊢
      rw [b_Carriers_tooMuchAt_5, if_pos (by omega)]
      exact ⟨e1 ▸ hld, rfl⟩
    | succ t ih =>
      intro k ht hk hinv hld
      have hs := hL.s (t := t) (by omega)
      have h2 : 2 ^ t < 65536 := zb_p2 (k := 16) (by omega)
      rw [show ((t + 1 : Nat) : Int) - 1 = (t : Int) by omega, b_Carriers_tooMuchAt_5, if_neg (by omega), zb_bit (by omega) (by omega)]
      have hkt : k.testBit t = false := by
        cases hx : k.testBit t with
        | false => rfl
        | true => have := ((hinv t).mp hx).1; omega
      by_cases hb : p.testBit t = true
      · rw [if_pos hb, if_neg (by decide), if_pos (by omega), Int.toNat_natCast, hK.1 t (by omega), zb_an (by omega) (by omega)]
        by_cases c : L (18 + t) &&& k = 0
        · rw [if_neg (by omega), s_bitCount (by omega) hk]
          simp only [ab_ci]
          rw [b_Carriers_tooMuchAt_32, hK.2, zb_w (by omega) (by omega)]
          have hp1 := pc_lt (a := k) (b := k ||| 2 ^ t) (Nat.or_lt_two_pow (n := 16) hk h2) (fun i hi => by rw [bor, hi]; rfl) (fun z => by
            have h9 : k.testBit t = (k ||| 2 ^ t).testBit t := congrArg (fun n => n.testBit t) z
            rw [bor, hkt, decide_eq_true rfl] at h9
            cases h9)
          by_cases c2 : pc k < e - 1
          · rw [if_pos (by omega), zb_sl (by omega), zb_or (by omega) (by omega), b_Carriers_tooMuchAt_49, show (t : Int) + -1 = (t : Int) - 1 by omega, zb_w (by omega) (by omega)]
            refine ih (k ||| 2 ^ t) (by omega) (Nat.or_lt_two_pow (n := 16) hk h2) (fun u => ?_) ⟨Nat.or_lt_two_pow (n := 16) hk h2, ?_, fun a b h1 h3 => ?_⟩
            · rw [bor]
              by_cases eu : t = u
              · rw [decide_eq_true eu, Bool.or_true, ← eu]
                exact ⟨fun _ => ⟨Nat.le_refl _, hb⟩, fun _ => rfl⟩
              · rw [decide_eq_false eu, Bool.or_false, hinv]
                constructor
                · exact fun h => ⟨by omega, h.2⟩
                · exact fun h => ⟨by omega, h.2⟩
            · have := pc_or (s := k) (t := t) hk (by omega)
              omega
            · rw [bor] at h1 h3
              by_cases e1 : t = a
              · by_cases e2 : t = b
                · rw [← e1, ← e2]; exact hL.2.2.2.2.1 t (by omega)
                · rw [decide_eq_false e2, Bool.or_false] at h3
                  rw [← e1]; exact and_0.mp c b h3
              · rw [decide_eq_false e1, Bool.or_false] at h1
                by_cases e2 : t = b
                · rw [← e2, hL.2.2.2.1 a t (bit16 hk h1) (by omega)]
                  exact and_0.mp c a h1
                · rw [decide_eq_false e2, Bool.or_false] at h3
                  exact hld.2.2 a b h1 h3
          · rw [if_neg (by omega)]
            right
            refine ⟨t, by omega, hb, rfl, fun r hr hl => ?_⟩
            have hsub : ∀ u, (k ||| 2 ^ t).testBit u = true → r.testBit u = true := fun u hu => by
              rw [bor] at hu
              by_cases eu : t = u
              · rw [← eu]; exact hr t (Nat.le_refl _) hb
              · rw [decide_eq_false eu, Bool.or_false] at hu
                obtain ⟨a1, a2⟩ := (hinv u).mp hu
                exact hr u (by omega) a2
            have := pc_mono hl.1 hsub
            have := hl.2.1
            omega
        · rw [if_pos (by omega)]
          right
          refine ⟨t, by omega, hb, rfl, fun r hr hl => ?_⟩
          have hex : ∃ u, k.testBit u = true ∧ (L (18 + t)).testBit u = true := by
            apply Classical.byContradiction
            intro z
            refine c (and_0.mpr fun u hu => ?_)
            cases hx : (L (18 + t)).testBit u with
            | false => rfl
            | true => exact absurd ⟨u, hu, hx⟩ z
          obtain ⟨u, u1, u2⟩ := hex
          obtain ⟨a1, a2⟩ := (hinv u).mp u1
          rw [hl.2.2 t u (hr t (Nat.le_refl _) hb) (hr u (by omega) a2)] at u2
          cases u2
      · rw [if_neg hb, if_pos rfl, b_Carriers_tooMuchAt_49, show (t : Int) + -1 = (t : Int) - 1 by omega, zb_w (by omega) (by omega)]
        refine ih k (by omega) hk (fun u => ?_) hld
        rw [hinv]
        constructor
        · exact fun h => ⟨by omega, h.2⟩
        · intro h
          refine ⟨?_, h.2⟩
          have : u ≠ t := fun z => hb (z ▸ h.2)
          omega
  rw [e_Carriers_tooMuchAt, b_Carriers_tooMuchAt_0]
  exact key 16 0 (by omega) (by omega) (fun u => by
    rw [Nat.zero_testBit]
    refine ⟨(fun h => by cases h), fun h => ?_⟩
    have := bit16 hp9 h.2
    omega) ⟨by omega, Nat.le_trans (Nat.le_of_eq (show pc 0 = 0 by decide)) (Nat.zero_le _), fun t u h => by rw [Nat.zero_testBit] at h; cases h⟩
theorem s_C_isFull {X : Nat × (Nat → Int)} {d : Nat} {D : DD} {L : Nat → Nat} {e x all : Nat} (hd : 2 ≤ d) (hL : LOK L) (hK : KC D L e) (hx : x < 65536) (ha : all < 65536) : (fuL L e x all ∧ ev X d m_Carriers_isFull [vR 1 0, vI (x : Int), vI (all : Int)] (hp D) = some (some (vI 1), hp D)) ∨ (¬ fuL L e x all ∧ ev X d m_Carriers_isFull [vR 1 0, vI (x : Int), vI (all : Int)] (hp D) = some (some (vI 0), hp D)) := by
  obtain ⟨d, rfl⟩ : ∃ e, d = e + 1 := ⟨d - 1, by omega⟩
  rw [e_Carriers_isFull, b_Carriers_isFull_0, s_bitCount (by omega) hx]
  simp only [ab_ci]
  rw [b_Carriers_isFull_4, hK.2]
  by_cases c : pc x < e
  · rw [if_pos (by omega)]
    have key : ∀ (m t : Nat), t + m = 16 → (∀ u, u < t → all.testBit u = true → x.testBit u = false → L (18 + u) &&& x ≠ 0) → (fuL L e x all ∧ at_ X d cd_Carriers_isFull 15 [vR 1 0, vI (x : Int), vI (all : Int), vI (t : Int)] [] (hp D) = some (some (vI 1), hp D)) ∨ (¬ fuL L e x all ∧ at_ X d cd_Carriers_isFull 15 [vR 1 0, vI (x : Int), vI (all : Int), vI (t : Int)] [] (hp D) = some (some (vI 0), hp D)) := by
      intro m
      induction m with
      | zero =>
        intro t ht hinv
        rw [b_Carriers_isFull_15, if_pos (by omega)]
        exact Or.inl ⟨Or.inr fun u hu => hinv u (by omega), rfl⟩
      | succ m ih =>
        intro t ht hinv
        have hs := hL.s (t := t) (by omega)
        have hn : nd all x < 2 ^ 16 := nd_lt (k := 16) ha
        rw [b_Carriers_isFull_15, if_neg (by omega), zb_nd (by omega) (by omega), zb_bit (by omega) (by omega)]
        have keep : ¬ (all.testBit t = true ∧ x.testBit t = false ∧ L (18 + t) &&& x = 0) → (fuL L e x all ∧ at_ X d cd_Carriers_isFull 46 [vR 1 0, vI (x : Int), vI (all : Int), vI (t : Int)] [] (hp D) = some (some (vI 1), hp D)) ∨ (¬ fuL L e x all ∧ at_ X d cd_Carriers_isFull 46 [vR 1 0, vI (x : Int), vI (all : Int), vI (t : Int)] [] (hp D) = some (some (vI 0), hp D)) := by
          intro hno
          rw [b_Carriers_isFull_46, zb_s (by omega)]
          refine ih (t + 1) (by omega) fun u hu h1 h2 h3 => ?_
          by_cases eu : u = t
          · subst eu; exact hno ⟨h1, h2, h3⟩
          · exact hinv u (by omega) h1 h2 h3
        by_cases hb : (nd all x).testBit t = true
        · rw [if_pos hb, if_neg (by decide), if_pos (by omega), Int.toNat_natCast, hK.1 t (by omega), zb_an (by omega) (by omega)]
          rw [nd_bit, Bool.and_eq_true, Bool.not_eq_true'] at hb
          by_cases c2 : L (18 + t) &&& x = 0
          · rw [if_neg (by omega)]
            refine Or.inr ⟨fun z => ?_, rfl⟩
            rcases z with z | z
            · omega
            · exact z t (by omega) hb.1 hb.2 c2
          · rw [if_pos (by omega)]
            exact keep fun z => c2 z.2.2
        · rw [if_neg hb, if_pos rfl]
          refine keep fun z => hb ?_
          rw [nd_bit, z.1, z.2.1]; rfl
    exact key 16 0 (by omega) (fun u hu => by omega)
  · rw [if_neg (by omega)]
    exact Or.inl ⟨Or.inl (by omega), rfl⟩
end
