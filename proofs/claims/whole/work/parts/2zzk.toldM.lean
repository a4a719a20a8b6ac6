/-! told: the reference's call; the class -/
section
def toB (S : St) (set n inn : Nat) : TBt := tlV (sW S).1 n inn 6 set [] (-1, 0, [])
def tdA (b : TBt) (N : Nat) (what : Int) : Int := if what = 0 then b.1 else if what = 1 then (b.2.1 : Int) else if what - 10 < (N : Int) then (b.2.2.getD (what - 10).toNat 0 : Nat) else -1
def f_told (S : St) (set n inn what : Int) : Int × St := (if 0 ≤ inn ∧ inn < ((sW S).1 50 : Int) then (if (0 ≤ what ∧ what ≤ 1) ∨ (10 ≤ what ∧ what ≤ 15) then (if 0 ≤ set ∧ set < ((2 ^ (sW S).1 0 : Nat) : Int) then (if pc set.toNat ≤ 6 then (if 1 ≤ n ∧ n ≤ 9 then tdA (toB S set.toNat n.toNat inn.toNat) (pc set.toNat) what else -3) else -3) else -3) else -2) else -2, S)
theorem toB_ok {S : St} (hS : SOK S) {set n inn : Nat} (hs : set < 2 ^ (sW S).1 0) (h6 : pc set ≤ 6) : 0 ≤ (toB S set n inn).1 ∧ (toB S set n inn).2.2.length = pc set := by
  obtain ⟨h1, h2⟩ := tl_ok (L := (sW S).1) (n := n) (inn := inn) (N := pc set) hS.L.1.1 6 set [] (-1, 0, []) hs h6 (by rw [List.length_nil]; omega) (Or.inl rfl)
  refine ⟨h2, ?_⟩
  rcases h1 with h1 | h1
  · unfold toB at *
    omega
  · exact h1.2
theorem M_told {X : Nat × (Nat → Int)} {d : Nat} {D : DD} {S : St} {set n inn what : Int} (hd : 24 ≤ d) (hS : SOK S) (hM : MH D S) : mRes X d m_M_told [vI set, vI n, vI inn, vI what] D (f_told S set n inn what) := by
  obtain ⟨d, rfl⟩ : ∃ e, d = e + 1 := ⟨d - 1, by omega⟩
  have h10 := hS.L.1.2.2.2.1
  have hp9 : 2 ^ (sW S).1 0 ≤ 2 ^ 16 := p2le hS.L.1.1
  have hM := hM.th hS
  have hT := th_mY D
  unfold mRes f_told
  rw [e_M_told, b_M_told_0]
  generalize u3 D 12 0 0 0 = D0 at hM hT ⊢
  rw [s_M_isInn (by omega) hM.l hS.L]
  simp only [ab_ci]
  rw [b_M_told_11]
  by_cases hi : 0 ≤ inn ∧ inn < ((sW S).1 50 : Int)
  · rw [isI_t hi, if_neg (by decide), if_pos hi, s_M_within (by omega)]
    simp only [ab_ci]
    rw [b_M_told_22]
    have rest : ((0 ≤ what ∧ what ≤ 1) ∨ (10 ≤ what ∧ what ≤ 15)) → ∃ D', at_ X d cd_M_told 43 [vR 12 0, vI set, vI n, vI inn, vI what] [] (hp D0) = some (some (vI (if 0 ≤ set ∧ set < ((2 ^ (sW S).1 0 : Nat) : Int) then (if pc set.toNat ≤ 6 then (if 1 ≤ n ∧ n ≤ 9 then tdA (toB S set.toNat n.toNat inn.toNat) (pc set.toNat) what else -3) else -3) else -3)), hp D') ∧ MH D' S ∧ fr mY D D' := by
      intro hw
      rw [b_M_told_43, s_M_isSet (by omega) hS.L hM.l]
      simp only [ab_ci]
      rw [b_M_told_48]
      by_cases hs : 0 ≤ set ∧ set < ((2 ^ (sW S).1 0 : Nat) : Int)
      · obtain ⟨s, rfl⟩ : ∃ t : Nat, set = (t : Int) := ⟨set.toNat, by omega⟩
        rw [setI_t hs, if_neg (by decide), if_pos hs, s_M_bitsOf (by omega) (by omega), Int.toNat_natCast]
        simp only [ab_ci]
        rw [b_M_told_55]
        by_cases h6 : pc s ≤ 6
        · rw [if_neg (by omega), if_pos h6, s_M_within (by omega)]
          simp only [ab_ci]
          rw [b_M_told_69]
          by_cases hn : 1 ≤ n ∧ n ≤ 9
          · obtain ⟨m, rfl⟩ : ∃ t : Nat, n = (t : Int) := ⟨n.toNat, by omega⟩
            obtain ⟨j, rfl⟩ : ∃ t : Nat, inn = (t : Int) := ⟨inn.toNat, by omega⟩
            have f1 : fr uQ D0 (u3 D0 12 0 24 (-1)) := (fr.rf D0).u (Or.inr ⟨rfl, Or.inl ⟨rfl, Or.inl rfl⟩⟩)
            obtain ⟨D2, a1, a2, a3, a4⟩ := s_M_tellsAll (X := X) (n := m) (inn := j) hS (by omega) (by omega) (by omega) 6 s d [] (-1, 0, []) (u3 D0 12 0 24 (-1)) (by omega) (hM.scr hS (f1.mo fun _ _ _ z => uQ_mX z)) (by omega) h6 (by rw [List.length_nil]; omega) (fun t h => by cases h) (fun k hk => by cases hk) ⟨by rw [u3_eq], fun z => by have z : (0 : Int) ≤ -1 := z; omega⟩
            obtain ⟨o1, o2⟩ := toB_ok hS (set := s) (n := m) (inn := j) (by omega) h6
            have a3 : TBm D2 (toB S s m j) := a3
            have a1 : ev X d m_M_tellsAll [vR 12 0, vI (s : Int), vI 0, vI (m : Int), vI (j : Int)] (hp (u3 D0 12 0 24 (-1))) = _ := a1
            have ff_ := f1.tr a4
            have hM2 : MH D2 S := hM.scr hS (ff_.mo fun _ _ _ z => uQ_mX z)
            have fY : fr mY D D2 := hT.tr (ff_.mo fun _ _ _ z => mX_mY (uQ_mX z))
            rw [if_pos hn, if_pos (by decide), if_pos hn, a1, Int.toNat_natCast, Int.toNat_natCast]
            simp only [ab_cv]
            rw [b_M_told_88]
            unfold tdA
            by_cases w0 : what = 0
            · rw [if_neg (by omega), if_pos w0, a3.1]
              exact ⟨D2, rfl, hM2, fY⟩
            · rw [if_pos w0, if_neg w0]
              by_cases w1 : what = 1
              · rw [if_neg (by omega), if_pos w1, (a3.2 o1).1]
                exact ⟨D2, rfl, hM2, fY⟩
              · rw [if_pos w1, if_neg w1, s_M_bitsOf (by omega) (by omega), zb_w (by omega) (by omega)]
                simp only [ab_ci]
                rw [b_M_told_122, zb_w (by omega) (by omega)]
                by_cases w2 : what - 10 < (pc s : Int)
                · rw [if_neg (by omega), if_pos (by omega), if_pos w2, (a3.2 o1).2 (what - 10).toNat (by omega)]
                  exact ⟨D2, rfl, hM2, fY⟩
                · rw [if_pos (by omega), if_neg w2]
                  exact ⟨D2, rfl, hM2, fY⟩
          · rw [if_neg hn, if_neg (by decide), if_neg hn]
            exact ⟨D0, rfl, hM, hT⟩
        · rw [if_pos (by omega), if_neg h6]
          exact ⟨D0, rfl, hM, hT⟩
      · rw [setI_f hs, if_pos rfl, if_neg hs]
        exact ⟨D0, rfl, hM, hT⟩
    by_cases w1 : 0 ≤ what ∧ what ≤ 1
    · rw [if_pos w1, if_pos (by decide), if_pos (show (0 ≤ what ∧ what ≤ 1) ∨ (10 ≤ what ∧ what ≤ 15) from Or.inl w1)]
      exact rest (Or.inl w1)
    · rw [if_neg w1, if_neg (by decide), s_M_within (by omega)]
      simp only [ab_ci]
      rw [b_M_told_37]
      by_cases w2 : 10 ≤ what ∧ what ≤ 15
      · rw [if_pos w2, if_pos (by decide), if_pos (show (0 ≤ what ∧ what ≤ 1) ∨ (10 ≤ what ∧ what ≤ 15) from Or.inr w2)]
        exact rest (Or.inr w2)
      · rw [if_neg w2, if_neg (by decide), if_neg (fun z => z.elim w1 w2)]
        exact ⟨D0, rfl, hM, hT⟩
  · rw [isI_f hi, if_pos rfl, if_neg hi]
    exact ⟨D0, rfl, hM, hT⟩
-- the class
theorem s_C_likeMind' {X : Nat × (Nat → Int)} {d : Nat} {D : DD} {i j : Nat} {v : Cr} (hd : 3 ≤ d) (hij : i ≠ j) (hv : okc v) (h : CC D j v) : ∃ D', ev X d m_Courier_likeMindOf [vR 3 i, vR 3 j] (hp D) = some (none, hp D') ∧ CC D' i (cN v, cS v, cL v, D 3 i 5, D 47 i) ∧ fr (cP i) D D' := by
  obtain ⟨d, rfl⟩ : ∃ e, d = e + 1 := ⟨d - 1, by omega⟩
  obtain ⟨h0, h1, h2, h3, h4, h5, h6⟩ := h
  have hji : j ≠ i := fun e => hij e.symm
  rw [e_Courier_likeMindOf, b_Courier_likeMindOf_0, u3_i hji, u3_i hji, u3_i hji, u3_i hji, u3_i hji, h0, h1, h3, h4, s_C_setMind (by omega) hv.2.1 hv.2.2.1]
  simp only [ab_cv]
  rw [b_Courier_likeMindOf_28]
  refine ⟨_, rfl, ?_, ((((((fr.rf D).u ⟨Or.inl rfl, rfl⟩).u ⟨Or.inl rfl, rfl⟩).u ⟨Or.inl rfl, rfl⟩).u ⟨Or.inl rfl, rfl⟩).u ⟨Or.inl rfl, rfl⟩)⟩
  exact ⟨by simp [u3_a], by simp [u3_a], by simp [u3_a], by simp [u3_a], by simp [u3_a], by simp [u3_a], fun t ht => by simp [u3_a]⟩
/-- the way's latest heard by a man with the mind of one who heard ts -/
theorem th_lru {L : Nat → Nat} {v : Cr} {n inn : Nat} {ts : List Nat} (hv : okc v) (hN : cN v = n) (hS : cS v = 0) (hL : cL v = hrN n [] ts) : (delV L (hrs v (cL (walkV L (emV n) inn)).reverse)).2 = thV L n ts inn := by
  have h1 := walk_lru (L := L) (w := emV n) (to := inn) hv (by rw [hS]; rfl) (by rw [hN]; rfl) rfl
  have h2 : mLk (walkV L v inn) (walkV L (hrs (emV n) ts) inn) := by
    obtain ⟨a1, a2⟩ := wkV_L (L := L) (to := inn) (dst (cS v) inn) v
    obtain ⟨b1, b2⟩ := wkV_L (L := L) (to := inn) (dst (cS (hrs (emV n) ts)) inn) (hrs (emV n) ts)
    obtain ⟨s1, s2⟩ := hrs_S (emV n) ts
    have s1 : cS (hrs (emV n) ts) = 0 := s1
    have s2 : cN (hrs (emV n) ts) = n := s2
    have s3 : cL (hrs (emV n) ts) = hrN n [] ts := hrs_L ts (emV n)
    unfold walkV
    refine ⟨by rw [a1, b1, hN, s2], ?_⟩
    rw [a2, b2, hN, hL, hS, s1, s2, s3]
  unfold thV
  rw [← h1.del L, h2.del L]
end
