/-! day of the reference -/
section
def zP : Nat → Nat → Nat → Prop := fun t i k => aP t i k ∨ (t = 12 ∧ i = 0 ∧ k = 18)
theorem LM.fz {D D' : DD} {L : Nat → Nat} (h : LM D L) (e : fr zP D D') : LM D' L := h.on fun k hk => e 22 0 k (by unfold zP aP; omega)
theorem GM.u18 {D : DD} {men : List Cr} {x : Int} (hm : okm men) (h : GM D men) : GM (u3 D 12 0 18 x) men := ⟨by rw [u3_t (by omega)]; exact h.1, fun c v hv => (h.2 c v hv).fr (hm.2 v (List.mem_of_getElem? hv)) fun k _ _ => by rw [u3_t (by omega)]⟩
theorem lo_A (o : Option Nat) (A z : Int) : w32 (w32 A + (if goI o ≠ -1 then 1 else 0)) = w32 (A + (loZ o z - z)) := by
  cases o with
  | none =>
    show w32 (w32 A + (if (-1 : Int) ≠ -1 then 1 else 0)) = w32 (A + (z - z))
    rw [if_neg (by omega), zb_wadd]
    congr 1
    omega
  | some u =>
    show w32 (w32 A + (if (u : Int) ≠ -1 then 1 else 0)) = w32 (A + (w32 (z + 1) - z))
    rw [if_pos (by omega)]
    unfold w32
    omega
theorem w_A (A B : Int) : w32 (w32 A + w32 B) = w32 (A + B) := by rw [zb_wadd, zb_addw]
theorem M_day {X : Nat × (Nat → Int)} {d : Nat} {D : DD} {S : St} {x t : Int} (hd : 12 ≤ d) (hS : SOK S) (hM : MH D S) : mRes X d m_M_day [vI x, vI t] D (f_day S x t) := by
  obtain ⟨d, rfl⟩ : ∃ e, d = e + 1 := ⟨d - 1, by omega⟩
  have h6 := hS.n6
  have hL := hS.L
  have h16 := hL.1.1
  have h10 := hL.1.2.2.2.1
  have hM := hM.th hS
  unfold mRes f_day
  rw [e_M_day, b_M_day_0, hM.n]
  by_cases h1 : (sW S).2.1.length = 0
  · rw [if_neg (by omega), if_pos h1]
    exact ⟨_, rfl, hM, th_mY D⟩
  have h0 : 0 < (sW S).1 0 := hS.1.2.2.2.1 (fun e => h1 (by rw [e]; rfl))
  rw [if_pos (by omega), if_neg h1, s_M_within (by omega)]
  simp only [ab_ci]
  rw [b_M_day_28]
  by_cases h2 : 1 ≤ t ∧ t ≤ 40
  · obtain ⟨tt, rfl⟩ : ∃ n : Nat, t = (n : Int) := ⟨t.toNat, by omega⟩
    rw [if_pos h2, if_pos (by decide), if_pos h2, Int.toNat_natCast]
    have hT := th_mY D
    generalize u3 D 12 0 0 0 = D0 at hM hT ⊢
    have one : ∀ (c k : Nat) (D : DD) (z : List Cr × Int) (A : Int), c < z.1.length → z.1.length = (sW S).2.1.length → LM D (sW S).1 → okm z.1 → GM D z.1 → D 12 0 18 = z.2 → ∃ D', at_ X d cd_M_day 53 [vR 12 0, vU, vI (tt : Int), vI (w32 A), vI (k : Int), vI (c : Int), vU] [] (hp D) = at_ X d cd_M_day 53 [vR 12 0, vU, vI (tt : Int), vI (w32 (A + (lsm (dyF (sW S).1 z c).1 - lsm z.1))), vI (k : Int), vI ((c + 1 : Nat) : Int), vU] [] (hp D') ∧ (GM D' (dyF (sW S).1 z c).1 ∧ D' 12 0 18 = (dyF (sW S).1 z c).2) ∧ fr zP D D' := by
      intro c k D z A hc hz hl hm h hx
      have hmb : mB c = 153 + 29 * c := rfl
      have f1 : fr zP D (u3 D 12 0 18 (dr z.2)) := (fr.rf D).u (Or.inr ⟨rfl, rfl, rfl⟩)
      have f2 : fr zP D (u3 (u3 D 12 0 18 (dr z.2)) 12 0 18 (dr (dr z.2))) := f1.u (Or.inr ⟨rfl, rfl, rfl⟩)
      have g1 : GM (u3 D 12 0 18 (dr z.2)) z.1 := h.u18 hm
      have g2 : GM (u3 (u3 D 12 0 18 (dr z.2)) 12 0 18 (dr (dr z.2))) z.1 := g1.u18 hm
      have l1 := hl.fz f1
      have l2 := hl.fz f2
      have ok := hm.oc hc
      have o9 : (cL (mnL z.1 c)).length ≤ 9 := Nat.le_trans ok.2.2.2 ok.1.2.1
      have dr1 : ev X d m_M_draw [vR 12 0, vI 4] (hp D) = some (some (vI ((dv (dr z.2) % 4 : Nat) : Int)), hp (u3 D 12 0 18 (dr z.2))) := by
        have := s_M_draw (X := X) (d := d) (D := D) (b := 4) (by omega) (by omega) (by omega)
        rw [hx] at this
        exact this
      have dr2 : ∀ b : Nat, 0 < b → b < 100 → ev X d m_M_draw [vR 12 0, vI (b : Int)] (hp (u3 D 12 0 18 (dr z.2))) = some (some (vI ((dv (dr (dr z.2)) % b : Nat) : Int)), hp (u3 (u3 D 12 0 18 (dr z.2)) 12 0 18 (dr (dr z.2)))) := by
        intro b hb hb2
        have := s_M_draw (X := X) (d := d) (D := u3 D 12 0 18 (dr z.2)) (b := b) (by omega) hb (by omega)
        rw [u3_eq] at this
        exact this
      have fin : ∀ (v : Cr) (D3 : DD), MC D3 (mB c) v → fr (mP (mB c)) (u3 (u3 D 12 0 18 (dr z.2)) 12 0 18 (dr (dr z.2))) D3 → (GM D3 (z.1.set c v) ∧ D3 12 0 18 = dr (dr z.2)) ∧ fr zP D D3 := by
        intro v D3 w1 w2
        refine ⟨⟨g2.set hm hc w2 w1, ?_⟩, f2.tr ((mP_aP (by omega) w2).mo fun _ _ _ z => Or.inl z)⟩
        rw [w2 12 0 18 (fun z => by have := z.1; omega), u3_eq]
      rw [b_M_day_53, h.1, if_neg (by omega), dr1]
      simp only [ab_ci]
      rw [b_M_day_71, l1 0 (by omega), l1 50 (by omega)]
      unfold dyF
      by_cases c0 : dv (dr z.2) % 4 = 0
      · have hk := Nat.mod_lt (dv (dr (dr z.2))) h0
        rw [if_neg (by omega), dr2 _ h0 (by omega)]
        simp only [ab_ci, if_pos c0]
        obtain ⟨D3, w1, w2, w3⟩ := s_M_hear (X := X) (d := d) (D := u3 (u3 D 12 0 18 (dr z.2)) 12 0 18 (dr (dr z.2))) (c := c) (t := dv (dr (dr z.2)) % (sW S).1 0) (v := mnL z.1 c) (by omega) (by omega) ok (g2.mc hc) (by omega)
        obtain ⟨r1, r2⟩ := fin _ D3 w2 w3
        refine ⟨D3, ?_, r1, r2⟩
        have e := lo_A (hrG (mnL z.1 c) (dv (dr (dr z.2)) % (sW S).1 0)) A (cZ (mnL z.1 c))
        rw [b_M_day_92, w1, lsm_set hc]
        simp only [ab_ci]
        have ecZ : cZ (hrV (mnL z.1 c) (dv (dr (dr z.2)) % (sW S).1 0)) = loZ (hrG (mnL z.1 c) (dv (dr (dr z.2)) % (sW S).1 0)) (cZ (mnL z.1 c)) := rfl
        rw [b_M_day_95, ecZ, show A + (lsm z.1 + (loZ (hrG (mnL z.1 c) (dv (dr (dr z.2)) % (sW S).1 0)) (cZ (mnL z.1 c)) - cZ (mnL z.1 c)) - lsm z.1) = A + (loZ (hrG (mnL z.1 c) (dv (dr (dr z.2)) % (sW S).1 0)) (cZ (mnL z.1 c)) - cZ (mnL z.1 c)) by omega, ← e]
        by_cases h4 : goI (hrG (mnL z.1 c) (dv (dr (dr z.2)) % (sW S).1 0)) ≠ -1
        · rw [if_pos h4, if_pos h4, b_M_day_104, b_M_day_182, zb_s (by omega)]
        · rw [if_neg h4, if_neg h4, b_M_day_104, b_M_day_182, zb_s (by omega)]
      simp only [if_neg c0]
      rw [if_pos (by omega)]
      by_cases c1 : dv (dr z.2) % 4 = 1
      · simp only [if_pos c1]
        rw [if_neg (by omega), s_M_many (by omega) (by omega) (g1.mc hc)]
        simp only [ab_ci]
        rw [b_M_day_121]
        by_cases hn : (cL (mnL z.1 c)).length = 0
        · simp only [if_pos hn]
          rw [if_pos (by omega), b_M_day_182, zb_s (by omega)]
          refine ⟨_, ?_, ⟨g1, u3_eq _ _ _ _ _⟩, f1⟩
          rw [show A + (lsm z.1 - lsm z.1) = A by omega]
        · have hk := Nat.mod_lt (dv (dr (dr z.2))) (Nat.pos_of_ne_zero hn)
          simp only [if_neg hn]
          rw [if_neg (by omega), s_M_many (by omega) (by omega) (g1.mc hc)]
          simp only [ab_ci]
          rw [b_M_day_138, dr2 _ (Nat.pos_of_ne_zero hn) (by omega)]
          simp only [ab_ci]
          rw [b_M_day_141, s_M_thingAt (by omega) (by omega) (g2.mc hc) hk o9]
          simp only [ab_ci]
          have hmem := say_mem hk
          have ht := ok.2.2.1 _ hmem
          generalize (cL (mnL z.1 c)).getD (dv (dr (dr z.2)) % (cL (mnL z.1 c)).length) 0 = t at hmem ht ⊢
          obtain ⟨D3, w1, w2, w3⟩ := s_M_say (X := X) (d := d) (D := u3 (u3 D 12 0 18 (dr z.2)) 12 0 18 (dr (dr z.2))) (c := c) (t := t) (v := mnL z.1 c) (L := (sW S).1) (by omega) (by omega) hL l2 ok (g2.mc hc) ht
          have ez : cZ (hrV (mnL z.1 c) t) = cZ (mnL z.1 c) := by
            show loZ (hrG (mnL z.1 c) t) (cZ (mnL z.1 c)) = _
            rw [(hrG_in ok hmem).1]
            rfl
          rw [ez] at w1
          obtain ⟨r1, r2⟩ := fin _ D3 w2 w3
          refine ⟨D3, ?_, r1, r2⟩
          rw [b_M_day_144, w1, lsm_set hc]
          simp only [ab_ci]
          rw [b_M_day_147, w_A, b_M_day_182, zb_s (by omega), show A + (lsm z.1 + (cZ (sayV (sW S).1 (mnL z.1 c) t) - cZ (mnL z.1 c)) - lsm z.1) = A + (cZ (sayV (sW S).1 (mnL z.1 c) t) - cZ (mnL z.1 c)) by omega]
      · simp only [if_neg c1]
        rw [if_pos (by omega)]
        by_cases hn : (sW S).1 50 = 0
        · simp only [if_pos hn]
          rw [if_pos (by omega), b_M_day_182, zb_s (by omega)]
          refine ⟨_, ?_, ⟨g1, u3_eq _ _ _ _ _⟩, f1⟩
          rw [show A + (lsm z.1 - lsm z.1) = A by omega]
        · have hk := Nat.mod_lt (dv (dr (dr z.2))) (Nat.pos_of_ne_zero hn)
          simp only [if_neg hn]
          rw [if_neg (by omega), dr2 _ (Nat.pos_of_ne_zero hn) (by omega)]
          simp only [ab_ci]
          obtain ⟨D3, w1, w2, w3⟩ := s_M_walk (X := X) (d := d) (D := u3 (u3 D 12 0 18 (dr z.2)) 12 0 18 (dr (dr z.2))) (c := c) (to := dv (dr (dr z.2)) % (sW S).1 50) (v := mnL z.1 c) (L := (sW S).1) (by omega) (by omega) hL l2 ok (g2.mc hc) (by omega)
          obtain ⟨r1, r2⟩ := fin _ D3 w2 w3
          refine ⟨D3, ?_, r1, r2⟩
          rw [b_M_day_177, w1, lsm_set hc]
          simp only [ab_ci]
          rw [b_M_day_180, w_A, b_M_day_182, zb_s (by omega), show A + (lsm z.1 + (cZ (walkV (sW S).1 (mnL z.1 c) (dv (dr (dr z.2)) % (sW S).1 50)) - cZ (mnL z.1 c)) - lsm z.1) = A + (cZ (walkV (sW S).1 (mnL z.1 c) (dv (dr (dr z.2)) % (sW S).1 50)) - cZ (mnL z.1 c)) by omega]
    have inn : ∀ (m c k : Nat) (D : DD) (z : List Cr × Int) (A : Int), k ≤ 40 → c + m = (sW S).2.1.length → z.1.length = (sW S).2.1.length → LM D (sW S).1 → okm z.1 → GM D z.1 → D 12 0 18 = z.2 → ∃ D', at_ X d cd_M_day 53 [vR 12 0, vU, vI (tt : Int), vI (w32 A), vI (k : Int), vI (c : Int), vU] [] (hp D) = at_ X d cd_M_day 44 [vR 12 0, vU, vI (tt : Int), vI (w32 (A + (lsm (dyI (sW S).1 m c z).1 - lsm z.1))), vI ((k + 1 : Nat) : Int), vU, vU] [] (hp D') ∧ (GM D' (dyI (sW S).1 m c z).1 ∧ D' 12 0 18 = (dyI (sW S).1 m c z).2) ∧ fr zP D D' := by
      intro m
      induction m with
      | zero =>
        intro c k D z A hk hc hz hl hm hg hx
        rw [b_M_day_53, hg.1, if_pos (by omega), zb_s (by omega)]
        refine ⟨D, ?_, ⟨hg, hx⟩, fr.rf D⟩
        show _ = at_ X d cd_M_day 44 [vR 12 0, vU, vI (tt : Int), vI (w32 (A + (lsm z.1 - lsm z.1))), vI ((k + 1 : Nat) : Int), vU, vU] [] (hp D)
        rw [show A + (lsm z.1 - lsm z.1) = A by omega]
      | succ m ih =>
        intro c k D z A hk hc hz hl hm hg hx
        obtain ⟨D1, w1, ⟨w2, w3⟩, w4⟩ := one c k D z A (by omega) hz hl hm hg hx
        obtain ⟨k1, k2⟩ := dyF_ok hL h0 hm (c := c) (by omega)
        obtain ⟨D2, r1, r2, r3⟩ := ih (c + 1) k D1 (dyF (sW S).1 z c) (A + (lsm (dyF (sW S).1 z c).1 - lsm z.1)) hk (by omega) (by omega) (hl.fz w4) k1 w2 w3
        refine ⟨D2, (w1.trans r1).trans ?_, r2, w4.tr r3⟩
        show at_ X d cd_M_day 44 _ _ _ = at_ X d cd_M_day 44 [vR 12 0, vU, vI (tt : Int), vI (w32 (A + (lsm (dyI (sW S).1 m (c + 1) (dyF (sW S).1 z c)).1 - lsm z.1))), vI ((k + 1 : Nat) : Int), vU, vU] [] (hp D2)
        rw [show A + (lsm (dyF (sW S).1 z c).1 - lsm z.1) + (lsm (dyI (sW S).1 m (c + 1) (dyF (sW S).1 z c)).1 - lsm (dyF (sW S).1 z c).1) = A + (lsm (dyI (sW S).1 m (c + 1) (dyF (sW S).1 z c)).1 - lsm z.1) by omega]
    have out : ∀ (m k : Nat) (D : DD) (z : List Cr × Int) (A : Int) (v1 : ab_V), k + m = tt → z.1.length = (sW S).2.1.length → LM D (sW S).1 → okm z.1 → GM D z.1 → D 12 0 18 = z.2 → ∃ D', at_ X d cd_M_day 44 [vR 12 0, v1, vI (tt : Int), vI (w32 A), vI (k : Int), vU, vU] [] (hp D) = some (some (vI (w32 (A + (lsm (dyT (sW S).1 (sW S).2.1.length m z).1 - lsm z.1)))), hp D') ∧ GM D' (dyT (sW S).1 (sW S).2.1.length m z).1 ∧ fr zP D D' := by
      intro m
      induction m with
      | zero =>
        intro k D z A v1 hk hz hl hm hg hx
        rw [b_M_day_44, if_pos (by omega)]
        refine ⟨D, ?_, hg, fr.rf D⟩
        show _ = some (some (vI (w32 (A + (lsm z.1 - lsm z.1)))), hp D)
        rw [show A + (lsm z.1 - lsm z.1) = A by omega]
      | succ m ih =>
        intro k D z A v1 hk hz hl hm hg hx
        obtain ⟨D1, w1, ⟨w2, w3⟩, w4⟩ := inn (sW S).2.1.length 0 k D z A (by omega) (by omega) hz hl hm hg hx
        rw [show ((0 : Nat) : Int) = 0 from rfl] at w1
        obtain ⟨k1, k2⟩ := dyI_ok hL h0 (sW S).2.1.length 0 z hm (by omega)
        obtain ⟨D2, r1, r2, r3⟩ := ih (k + 1) D1 (dyI (sW S).1 (sW S).2.1.length 0 z) (A + (lsm (dyI (sW S).1 (sW S).2.1.length 0 z).1 - lsm z.1)) vU (by omega) (by omega) (hl.fz w4) k1 w2 w3
        rw [b_M_day_44, if_neg (by omega), w1, r1]
        refine ⟨D2, ?_, r2, w4.tr r3⟩
        show _ = some (some (vI (w32 (A + (lsm (dyT (sW S).1 (sW S).2.1.length m (dyI (sW S).1 (sW S).2.1.length 0 z)).1 - lsm z.1)))), hp D2)
        rw [show A + (lsm (dyI (sW S).1 (sW S).2.1.length 0 z).1 - lsm z.1) + (lsm (dyT (sW S).1 (sW S).2.1.length m (dyI (sW S).1 (sW S).2.1.length 0 z)).1 - lsm (dyI (sW S).1 (sW S).2.1.length 0 z).1) = A + (lsm (dyT (sW S).1 (sW S).2.1.length m (dyI (sW S).1 (sW S).2.1.length 0 z)).1 - lsm z.1) by omega]
    have fA : fr zP D0 (u3 D0 12 0 18 x) := (fr.rf D0).u (Or.inr ⟨rfl, rfl, rfl⟩)
    obtain ⟨D1, r1, r2, r3⟩ := out tt 0 (u3 D0 12 0 18 x) ((sW S).2.1, x) 0 (vI x) (by omega) rfl (hM.l.fz fA) hS.gm (hM.gm.u18 hS.gm) (u3_eq _ _ _ _ _)
    rw [show ((0 : Nat) : Int) = 0 from rfl, show w32 0 = 0 from rfl, Int.zero_add] at r1
    obtain ⟨k1, k2⟩ := hM.grp hS ((fA.tr r3).mo fun t i k z => by
      rcases z with z | z
      · exact Or.inl z
      · exact Or.inr (by unfold mX; omega)) r2
    exact ⟨D1, r1, k1, hT.tr k2⟩
  · rw [if_neg h2, if_neg (by decide), if_neg h2]
    exact ⟨_, rfl, hM, th_mY D⟩
end
