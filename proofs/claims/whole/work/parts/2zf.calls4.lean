/-! calls: comes, breach, loud, turned -/
section
def stP (S : St) (v : Cr) : St := ((S.1.1, S.1.2.1 ++ [v], S.1.2.2), S.2)
theorem CH.add {D D' : DD} {S : St} {v : Cr} (hS : SOK S) (h : CH D S) (h5 : (sW S).2.1.length < 6) (e : fr (cP (sW S).2.1.length) D D') (hv : CC D' (sW S).2.1.length v) : CH (u3 D' 2 0 1 (((sW S).2.1.length + 1 : Nat) : Int)) (stP S v) ∧ fr cY D (u3 D' 2 0 1 (((sW S).2.1.length + 1 : Nat) : Int)) := by
  obtain ⟨⟨a1, a2, a3, a4, a5⟩, h2, h3, h4⟩ := h
  have hn : ∀ t i k, ¬ ((t = 3 ∨ t = 47) ∧ i = (sW S).2.1.length) → ¬ (t = 2 ∧ i = 0 ∧ k = 1) → u3 D' 2 0 1 (((sW S).2.1.length + 1 : Nat) : Int) t i k = D t i k := fun t i k ht hk => by
    rw [u3_a, if_neg hk]
    exact e t i k ht
  refine ⟨⟨⟨a1.on fun t k ht => hn t _ k (by omega) (by omega), ?_, fun c' v' hc' => ?_, (hn _ _ _ (by omega) (by omega)).trans a4, fun p l hp9 => ?_⟩, fun i hi => (h2 i hi).on hi (hS.2.1 i hi) fun t j k _ n _ _ _ _ _ n2 _ _ => hn t j k (by omega) (by omega), fun r hr => (h3 r hr).on fun t k ht => hn _ _ _ (by omega) (by omega), h4.on (fun k _ => hn _ _ _ (by omega) (by omega)) (fun k => hn _ _ _ (by omega) (by omega))⟩, ?_⟩
  · rw [u3_eq]
    show _ = (((sW S).2.1 ++ [v]).length : Int)
    rw [List.length_append]
    rfl
  · have hc' : ((sW S).2.1 ++ [v])[c']? = some v' := hc'
    by_cases e1 : c' < (sW S).2.1.length
    · rw [List.getElem?_append_left e1] at hc'
      exact (a3 c' v' hc').fr fun t k ht => hn t _ k (by omega) (by omega)
    · have hlt := lt_of_some hc'
      rw [List.length_append] at hlt
      have : c' = (sW S).2.1.length := by simp at hlt; omega
      subst this
      rw [List.getElem?_append_right (Nat.le_refl _), Nat.sub_self] at hc'
      cases hc'
      rw [Nat.zero_add]
      exact hv.fr fun t k ht => by rw [u3_t (by omega)]
  · obtain ⟨g1, g2⟩ := a5 p l hp9
    exact ⟨(hn _ _ _ (by omega) (by omega)).trans g1, fun k hk => (hn _ _ _ (by omega) (by omega)).trans (g2 k hk)⟩
  · exact (e.mo fun _ _ _ z => cP_cY z).u (by unfold cY; omega)
theorem MH.add {D D' : DD} {S : St} {v : Cr} (hS : SOK S) (hok : okc v) (h : MH D S) (h5 : (sW S).2.1.length < 6) (e : fr (mP (mB (sW S).2.1.length)) D D') (hv : MC D' (mB (sW S).2.1.length) v) : MH (u3 D' 22 0 152 (((sW S).2.1.length + 1 : Nat) : Int)) (stP S v) ∧ fr mY D (u3 D' 22 0 152 (((sW S).2.1.length + 1 : Nat) : Int)) := by
  obtain ⟨⟨a1, a2, a3, a4, a5⟩, h2, h3, h4⟩ := h
  have hmb : mB (sW S).2.1.length = 153 + 29 * (sW S).2.1.length := rfl
  have hn : ∀ t i k, ¬ (t = 22 ∧ i = 0 ∧ 152 ≤ k ∧ mB (sW S).2.1.length ≤ k ∧ k < mB (sW S).2.1.length + 29) → ¬ (t = 22 ∧ i = 0 ∧ k = 152) → u3 D' 22 0 152 (((sW S).2.1.length + 1 : Nat) : Int) t i k = D t i k := fun t i k ht hk => by
    rw [u3_a, if_neg hk]
    exact e t i k (fun z => ht ⟨z.1, z.2.1, by have := z.2.2; omega, z.2.2⟩)
  refine ⟨⟨⟨fun k hk => (hn _ _ _ (by omega) (by omega)).trans (a1 k hk), ?_, fun c' v' hc' => ?_, (hn _ _ _ (by omega) (by omega)).trans a4, fun p l hp9 => ?_⟩, fun i hi => (h2 i hi).on (hS.2.1 i hi) (hn _ _ _ (by omega) (by omega)) (fun k k1 k2 => hn _ _ _ (by omega) (by omega)), fun r hr => (h3 r hr).on fun t k ht => hn _ _ _ (by omega) (by omega), h4.on (hn _ _ _ (by omega) (by omega)) (hn _ _ _ (by omega) (by omega)) (hn _ _ _ (by omega) (by omega)) (fun k => hn _ _ _ (by omega) (by omega))⟩, ?_⟩
  · rw [Nat.zero_add, u3_eq]
    show _ = (((sW S).2.1 ++ [v]).length : Int)
    rw [List.length_append]
    rfl
  · have hc' : ((sW S).2.1 ++ [v])[c']? = some v' := hc'
    by_cases e1 : c' < (sW S).2.1.length
    · rw [List.getElem?_append_left e1] at hc'
      exact (a3 c' v' hc').fr (hS.1.2.2.1 v' (List.mem_of_getElem? hc')) fun k k1 k2 => hn _ _ _ (by omega) (by omega)
    · have hlt := lt_of_some hc'
      rw [List.length_append] at hlt
      have : c' = (sW S).2.1.length := by simp at hlt; omega
      subst this
      rw [List.getElem?_append_right (Nat.le_refl _), Nat.sub_self] at hc'
      cases hc'
      rw [Nat.zero_add]
      exact hv.fr hok fun k k1 k2 => by rw [u3_k (by omega)]
  · have := lt_of_some hp9
    have h8 : (sW S).2.2.length ≤ 6 := hS.1.2.2.2.2.1
    have := hS.1.2.2.2.2.2 l (List.mem_of_getElem? hp9)
    obtain ⟨g1, g2⟩ := a5 p l hp9
    exact ⟨(hn _ _ _ (by omega) (by omega)).trans g1, fun k hk => (hn _ _ _ (by omega) (by omega)).trans (g2 k hk)⟩
  · exact (e.mo fun t i k z => by have := z.1; unfold mY; omega).u (by unfold mY; omega)
def f_comes (S : St) (x : Int) : Int × St := if (sW S).2.1.length = 6 then (-4, S) else if (sW S).1 0 = 0 then (-5, S) else if 1 ≤ x ∧ x ≤ ((sW S).1 1 : Int) then (((sW S).2.1.length : Int), stP S (emV x.toNat)) else (-3, S)
theorem C_comes {X : Nat × (Nat → Int)} {d : Nat} {D : DD} {S : St} {x : Int} (hd : 8 ≤ d) (hS : SOK S) (hC : CH D S) : cRes X d m_N_comes [vI x] D (f_comes S x) := by
  obtain ⟨d, rfl⟩ : ∃ e, d = e + 1 := ⟨d - 1, by omega⟩
  have h6 := hS.n6
  have h9 := hS.L.1.2.2.1
  unfold cRes f_comes
  rw [e_N_comes, b_N_comes_0, hC.n, hC.l.1.1, hC.l.1.2.1]
  by_cases h1 : (sW S).2.1.length = 6
  · rw [if_neg (by omega), if_pos h1]
    exact ⟨D, rfl, hC, fr.rf D⟩
  rw [if_pos (by omega), if_neg h1]
  by_cases h2 : (sW S).1 0 = 0
  · rw [if_neg (by omega), if_pos h2]
    exact ⟨D, rfl, hC, fr.rf D⟩
  rw [if_pos (by omega), if_neg h2]
  by_cases h3 : 1 ≤ x ∧ x ≤ ((sW S).1 1 : Int)
  · obtain ⟨n, rfl⟩ : ∃ t : Nat, x = (t : Int) := ⟨x.toNat, by omega⟩
    obtain ⟨d, rfl⟩ : ∃ e, d = e + 1 := ⟨d - 1, by omega⟩
    rw [if_neg (by omega), if_pos (by omega), if_pos h3, e_Company_addOne, b_Company_addOne_0, hC.n, if_pos (by omega), if_pos (by omega), Int.toNat_natCast, R46_0 (by omega)]
    simp only [ab_rf]
    obtain ⟨D1, g1, g2, g3⟩ := s_C_begin (X := X) (d := d) (D := D) (i := (sW S).2.1.length) (n := n) (by omega)
    rw [b_Company_addOne_24, g1]
    simp only [ab_cv]
    have e1 : D1 2 0 1 = ((sW S).2.1.length : Int) := (g3 2 0 1 (fun z => by have := z.1; omega)).trans hC.n
    rw [b_Company_addOne_28, e1, zb_s (by omega), u3_eq, zb_w (by omega) (by omega), show (((sW S).2.1.length + 1 : Nat) : Int) - 1 = ((sW S).2.1.length : Int) by omega]
    simp only [ab_ci]
    rw [b_N_comes_55, Int.toNat_natCast]
    exact ⟨_, rfl, hC.add hS (by omega) g3 g2⟩
  · rw [if_neg h3]
    by_cases h4 : x < 1
    · rw [if_pos h4]
      exact ⟨D, rfl, hC, fr.rf D⟩
    · rw [if_neg h4, if_neg (by omega)]
      exact ⟨D, rfl, hC, fr.rf D⟩
theorem M_comes {X : Nat × (Nat → Int)} {d : Nat} {D : DD} {S : St} {x : Int} (hd : 8 ≤ d) (hS : SOK S) (hM : MH D S) : mRes X d m_M_comes [vI x] D (f_comes S x) := by
  obtain ⟨d, rfl⟩ : ∃ e, d = e + 1 := ⟨d - 1, by omega⟩
  have h6 := hS.n6
  have h9 := hS.L.1.2.2.1
  have hM := hM.th hS
  unfold mRes f_comes
  rw [e_M_comes, b_M_comes_0, hM.n, hM.l 0 (by omega), hM.l 1 (by omega)]
  by_cases h1 : (sW S).2.1.length = 6
  · rw [if_neg (by omega), if_pos h1]
    exact ⟨_, rfl, hM, th_mY D⟩
  rw [if_pos (by omega), if_neg h1]
  by_cases h2 : (sW S).1 0 = 0
  · rw [if_neg (by omega), if_pos h2]
    exact ⟨_, rfl, hM, th_mY D⟩
  rw [if_pos (by omega), if_neg h2, s_M_within (by omega)]
  simp only [ab_ci]
  rw [b_M_comes_46]
  by_cases h3 : 1 ≤ x ∧ x ≤ ((sW S).1 1 : Int)
  · obtain ⟨n, rfl⟩ : ∃ t : Nat, x = (t : Int) := ⟨x.toNat, by omega⟩
    rw [if_pos h3, if_pos (by decide), if_pos h3, hM.n]
    have hmb : mB (sW S).2.1.length = 153 + 29 * (sW S).2.1.length := rfl
    obtain ⟨D1, g1, g2, g3⟩ := s_M_empties (X := X) (d := d) (D := u3 D 12 0 0 0) (c := (sW S).2.1.length) (n := n) (by omega) (by omega)
    rw [g1]
    simp only [ab_cv]
    have e1 : D1 22 0 152 = ((sW S).2.1.length : Int) := (g3 22 0 152 (fun z => by have := z.2.2; omega)).trans hM.n
    rw [b_M_comes_65, e1, zb_s (by omega), u3_eq, zb_w (by omega) (by omega), show (((sW S).2.1.length + 1 : Nat) : Int) - 1 = ((sW S).2.1.length : Int) by omega, Int.toNat_natCast]
    obtain ⟨k1, k2⟩ := MH.add hS (okc.em (by omega) (by omega)) hM (by omega) g3 g2
    exact ⟨_, rfl, k1, (th_mY D).tr k2⟩
  · rw [if_neg h3, if_neg (by decide), if_neg h3]
    exact ⟨_, rfl, hM, th_mY D⟩
theorem ok_comes {S : St} {x : Int} (hS : SOK S) : SOK (f_comes S x).2 := by
  have h9 := hS.L.1.2.2.1
  unfold f_comes
  split
  · exact hS
  · rename_i h1
    split
    · exact hS
    · rename_i h2
      split
      · rename_i h3
        obtain ⟨⟨o1, o2, o3, o4, o5, o6⟩, h⟩ := hS
        refine ⟨⟨o1, ?_, fun w hw => ?_, fun _ => Nat.pos_of_ne_zero h2, o5, o6⟩, h⟩
        · show ((sW S).2.1 ++ [_]).length ≤ 6
          rw [List.length_append]
          show (sW S).2.1.length + 1 ≤ 6
          omega
        · rcases List.mem_append.mp hw with z | z
          · exact o3 w z
          · rw [List.mem_singleton.mp z]
            exact okc.em (by omega) (by omega)
      · exact hS
-- loud
def f_loud (S : St) (x y : Int) : Int × St := (if (0 ≤ x ∧ x < ((sW S).1 50 : Int)) ∧ 0 ≤ y ∧ y < ((sW S).1 50 : Int) then (pc (nwV (sW S).1 y.toNat (dst x.toNat y.toNat) x.toNat 0) : Int) else -2, S)
theorem C_loud {X : Nat × (Nat → Int)} {d : Nat} {D : DD} {S : St} {x y : Int} (hd : 8 ≤ d) (hS : SOK S) (hC : CH D S) : cRes X d m_N_loud [vI x, vI y] D (f_loud S x y) := by
  obtain ⟨d, rfl⟩ : ∃ e, d = e + 1 := ⟨d - 1, by omega⟩
  have h10 := hS.L.1.2.2.2.1
  unfold cRes f_loud
  rw [e_N_loud, b_N_loud_0, s_C_isInn (by omega) hC.l]
  simp only [ab_ci]
  rw [b_N_loud_9]
  refine ⟨D, ?_, hC, fr.rf D⟩
  by_cases h1 : 0 ≤ x ∧ x < ((sW S).1 50 : Int)
  · rw [isI_t h1, if_neg (by decide), s_C_isInn (by omega) hC.l]
    simp only [ab_ci]
    rw [b_N_loud_21]
    by_cases h2 : 0 ≤ y ∧ y < ((sW S).1 50 : Int)
    · obtain ⟨s, rfl⟩ : ∃ t : Nat, x = (t : Int) := ⟨x.toNat, by omega⟩
      obtain ⟨t, rfl⟩ : ∃ t : Nat, y = (t : Int) := ⟨y.toNat, by omega⟩
      obtain ⟨g1, g2⟩ := s_C_newsOnWay (X := X) (d := d) (D := D) (q := 1) (s := s) (to := t) (by omega) hS.L hC.l (by omega) (by omega)
      rw [isI_t h2, if_pos (by decide), if_pos (And.intro h1 h2), g1]
      simp only [ab_ci]
      rw [b_N_loud_36, s_bitCount (by omega) g2]
      simp only [ab_ci]
      rw [b_N_loud_39, Int.toNat_natCast, Int.toNat_natCast]
    · rw [isI_f h2, if_neg (by decide), if_neg (fun z => h2 z.2)]
  · rw [isI_f h1, if_pos rfl, if_neg (fun z => h1 z.1)]
theorem nwV_lt {L : Nat → Nat} (hL : LOK L) {to : Nat} (ht : to < 10) : ∀ (m s a : Nat), a < 65536 → s < 10 → nwV L to m s a < 65536 := by
  intro m
  induction m with
  | zero => intro s a ha _; exact ha
  | succ m ih =>
    intro s a ha hs
    have hn : nxI s to < 10 := by unfold nxI; split <;> omega
    rw [nwV]
    exact ih _ _ (Nat.or_lt_two_pow (n := 16) ha (bs_31 fun t ht => Nat.lt_of_lt_of_le (nws_lt hL hn ht) hL.1.1)) hn
theorem M_loud {X : Nat × (Nat → Int)} {d : Nat} {D : DD} {S : St} {x y : Int} (hd : 8 ≤ d) (hS : SOK S) (hM : MH D S) : mRes X d m_M_loud [vI x, vI y] D (f_loud S x y) := by
  obtain ⟨d, rfl⟩ : ∃ e, d = e + 1 := ⟨d - 1, by omega⟩
  have hL := hS.L
  have h10 := hL.1.2.2.2.1
  have h16 := hL.1.1
  have hM := hM.th hS
  have hl := hM.l
  unfold mRes f_loud
  rw [e_M_loud, b_M_loud_0, s_M_isInn (by omega) hl hS.L]
  simp only [ab_ci]
  rw [b_M_loud_11]
  refine ⟨_, ?_, hM, th_mY D⟩
  by_cases h1 : 0 ≤ x ∧ x < ((sW S).1 50 : Int)
  · rw [isI_t h1, if_neg (by decide), s_M_isInn (by omega) hl hS.L]
    simp only [ab_ci]
    rw [b_M_loud_20]
    by_cases h2 : 0 ≤ y ∧ y < ((sW S).1 50 : Int)
    · obtain ⟨s, rfl⟩ : ∃ t : Nat, x = (t : Int) := ⟨x.toNat, by omega⟩
      obtain ⟨to, rfl⟩ : ∃ t : Nat, y = (t : Int) := ⟨y.toNat, by omega⟩
      rw [isI_t h2, if_pos (by decide), if_pos (And.intro h1 h2), Int.toNat_natCast, Int.toNat_natCast]
      generalize u3 D 12 0 0 0 = D at hl ⊢
      generalize (sW S).1 = L at hL h10 h16 hl h1 h2 ⊢
      have inn : ∀ (m k i a : Nat), a < 65536 → i < 10 → k + m = L (51 + i) → at_ X d cd_M_loud 56 [vR 12 0, vU, vI (to : Int), vI (a : Int), vI (i : Int), vI (k : Int)] [] (hp D) = at_ X d cd_M_loud 31 [vR 12 0, vU, vI (to : Int), vI ((a ||| bs ((nws L i).drop k) : Nat) : Int), vI (i : Int), vU] [] (hp D) := by
        intro m
        induction m with
        | zero =>
          intro k i a ha hi hk
          have h9 := hL.2.2.2.2.2.2.1 i hi
          rw [b_M_loud_56, zb_w (n := 51 + (i : Int)) (by omega) (by omega), if_pos (by omega), tn (n := 51 + i) (by omega), hl (51 + i) (by omega), if_pos (by omega), List.drop_of_length_le (by rw [nws_len]; omega), bs, Nat.or_zero]
        | succ m ih =>
          intro k i a ha hi hk
          have h9 := hL.2.2.2.2.2.2.1 i hi
          have hu : L (61 + 9 * i + k) < 16 := Nat.lt_of_lt_of_le (hL.2.2.2.2.2.2.2 i k hi (by omega)) h16
          have h2 : 2 ^ L (61 + 9 * i + k) < 2 ^ 16 := zb_p2 hu
          rw [b_M_loud_56, zb_w (n := 51 + (i : Int)) (by omega) (by omega), if_pos (by omega), tn (n := 51 + i) (by omega), hl (51 + i) (by omega), if_neg (by omega), zb_w (n := 9 * (i : Int)) (by omega) (by omega), zb_w (n := 61 + 9 * (i : Int)) (by omega) (by omega), zb_w (n := 61 + 9 * (i : Int) + (k : Int)) (by omega) (by omega), if_pos (by omega), tn (n := 61 + 9 * i + k) (by omega), hl (61 + 9 * i + k) (by omega), zb_sl (by omega), zb_or (by omega) (by omega), zb_s (by omega), ih (k + 1) i _ (Nat.or_lt_two_pow (n := 16) ha h2) hi (by omega), nws_get (k := k) (by omega), bs, Nat.or_assoc]
      have out : ∀ (m s a : Nat) (v1 : ab_V), a < 65536 → s < 10 → dst s to = m → at_ X d cd_M_loud 31 [vR 12 0, v1, vI (to : Int), vI (a : Int), vI (s : Int), vU] [] (hp D) = some (some (vI (pc (nwV L to m s a) : Int)), hp D) := by
        intro m
        induction m with
        | zero =>
          intro s a v1 ha hs hd9
          have e : s = to := by unfold dst at hd9; split at hd9 <;> omega
          rw [b_M_loud_31, if_pos (by omega), s_M_bitsOf (by omega) ha]
          simp only [ab_ci]
          rw [b_M_loud_105]
          rfl
        | succ m ih =>
          intro s a v1 ha hs hd9
          have e : s ≠ to := by unfold dst at hd9; split at hd9 <;> omega
          have hn : nxI s to < 10 := by unfold nxI; split <;> omega
          have hd8 : dst (nxI s to) to = m := by unfold dst at hd9 ⊢; unfold nxI; split at hd9 <;> split <;> split <;> omega
          have e2 := inn (L (51 + nxI s to)) 0 (nxI s to) a ha hn (by omega)
          rw [show ((0 : Nat) : Int) = 0 from rfl, List.drop_zero] at e2
          have e3 := ih (nxI s to) (a ||| bs (nws L (nxI s to))) vU (Nat.or_lt_two_pow (n := 16) ha (bs_31 fun t ht => Nat.lt_of_lt_of_le (nws_lt hL hn ht) h16)) hn hd8
          rw [b_M_loud_31, if_neg (by omega)]
          by_cases hx : s < to
          · rw [if_neg (by omega), b_M_loud_50, zb_w (by omega) (by omega), show (s : Int) + 1 = ((nxI s to : Nat) : Int) by unfold nxI; rw [if_pos hx]; omega]
            exact e2.trans e3
          · rw [if_pos (by omega), b_M_loud_50, zb_w (by omega) (by omega), show (s : Int) + -1 = ((nxI s to : Nat) : Int) by unfold nxI; rw [if_neg hx]; omega]
            exact e2.trans e3
      exact out _ s 0 _ (by omega) (by omega) rfl
    · rw [isI_f h2, if_neg (by decide), if_neg (fun z => h2 z.2)]
  · rw [isI_f h1, if_pos rfl, if_neg (fun z => h1 z.1)]
end
