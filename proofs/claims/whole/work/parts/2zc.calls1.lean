/-! calls: fault, thing, news, count, back, of, lost, hears, says, walks, delivers -/
section
def i32 (x : Int) : Prop := -2147483648 ≤ x ∧ x < 2147483648
theorem SOK.n6 {S : St} (hS : SOK S) : (sW S).2.1.length ≤ 6 := hS.1.2.1
theorem SOK.L {S : St} (hS : SOK S) : LOK (sW S).1 := hS.1.1
-- fault
def f_fault (S : St) (x : Int) : Int × St := (if x = 0 then (sF S : Int) else if x = 1 then sE S else -1, S)
theorem C_fault {X : Nat × (Nat → Int)} {d : Nat} {D : DD} {S : St} {x : Int} (hd : 1 ≤ d) (hC : CH D S) : cRes X d m_N_fault [vI x] D (f_fault S x) := by
  obtain ⟨d, rfl⟩ : ∃ e, d = e + 1 := ⟨d - 1, by omega⟩
  unfold cRes f_fault
  rw [e_N_fault, b_N_fault_0, hC.2.2.2.1, hC.2.2.2.2.1]
  refine ⟨D, ?_, hC, fr.rf D⟩
  split
  · rfl
  · split <;> rfl
theorem M_fault {X : Nat × (Nat → Int)} {d : Nat} {D : DD} {S : St} {x : Int} (hd : 1 ≤ d) (hS : SOK S) (hM : MH D S) : mRes X d m_M_fault [vI x] D (f_fault S x) := by
  obtain ⟨d, rfl⟩ : ∃ e, d = e + 1 := ⟨d - 1, by omega⟩
  have h := (hM.th hS).2.2.2
  unfold mRes f_fault
  rw [e_M_fault, b_M_fault_0, h.1, h.2.1]
  refine ⟨_, ?_, hM.th hS, th_mY D⟩
  by_cases h0 : x = 0
  · rw [if_neg (fun z => z h0), if_pos h0]
  · rw [if_pos h0, if_neg h0]
    by_cases h1 : x = 1
    · rw [if_neg (fun z => z h1), if_pos h1]
    · rw [if_pos h1, if_neg h1]
-- thing
def f_thing (S : St) (x y : Int) : Int × St := (if (0 ≤ x ∧ x < ((sW S).1 0 : Int)) ∧ 0 ≤ y ∧ y < 3 then ((sW S).1 ((if y = 0 then 34 else if y = 1 then 2 else 18) + x.toNat) : Int) else -2, S)
theorem C_thing {X : Nat × (Nat → Int)} {d : Nat} {D : DD} {S : St} {x y : Int} (hd : 2 ≤ d) (hS : SOK S) (hC : CH D S) : cRes X d m_N_thing [vI x, vI y] D (f_thing S x y) := by
  obtain ⟨d, rfl⟩ : ∃ e, d = e + 1 := ⟨d - 1, by omega⟩
  have h16 := hS.L.1.1
  unfold cRes f_thing
  rw [e_N_thing, b_N_thing_0, s_C_isThing (by omega) hC.l]
  simp only [ab_ci]
  rw [b_N_thing_9]
  refine ⟨D, ?_, hC, fr.rf D⟩
  by_cases h1 : 0 ≤ x ∧ x < ((sW S).1 0 : Int)
  · obtain ⟨t, rfl⟩ : ∃ t : Nat, x = (t : Int) := ⟨x.toNat, by omega⟩
    rw [isI_t h1, if_pos (by decide)]
    by_cases y0 : y = 0
    · rw [if_pos y0, if_pos (by omega), if_pos (by omega), if_pos y0, Int.toNat_natCast, hC.l.2.2.2.1 t (by omega)]
    · by_cases y1 : y = 1
      · rw [if_neg y0, if_pos y1, if_pos (by omega), if_pos (by omega), if_neg y0, if_pos y1, Int.toNat_natCast, hC.l.2.1 t (by omega)]
      · by_cases y2 : y = 2
        · rw [if_neg y0, if_neg y1, if_pos y2, if_pos (by omega), if_pos (by omega), if_neg y0, if_neg y1, Int.toNat_natCast, hC.l.2.2.1 t (by omega)]
        · rw [if_neg y0, if_neg y1, if_neg y2, if_neg (by omega)]
  · rw [isI_f h1, if_neg (by decide), if_neg (fun z => h1 z.1)]
theorem M_thing {X : Nat × (Nat → Int)} {d : Nat} {D : DD} {S : St} {x y : Int} (hd : 3 ≤ d) (hS : SOK S) (hM : MH D S) : mRes X d m_M_thing [vI x, vI y] D (f_thing S x y) := by
  obtain ⟨d, rfl⟩ : ∃ e, d = e + 1 := ⟨d - 1, by omega⟩
  have h16 := hS.L.1.1
  have hM := hM.th hS
  unfold mRes f_thing
  rw [e_M_thing, b_M_thing_0, s_M_isThing (by omega) hM.l hS.L]
  simp only [ab_ci]
  rw [b_M_thing_11]
  refine ⟨_, ?_, hM, th_mY D⟩
  by_cases h1 : 0 ≤ x ∧ x < ((sW S).1 0 : Int)
  · obtain ⟨t, rfl⟩ : ∃ t : Nat, x = (t : Int) := ⟨x.toNat, by omega⟩
    rw [isI_t h1, if_neg (by decide), s_M_within (by omega)]
    simp only [ab_ci]
    rw [b_M_thing_23]
    by_cases h2 : 0 ≤ y ∧ y ≤ 2
    · rw [if_pos h2, if_pos (by decide), if_pos (show ((0 : Int) ≤ (t : Int) ∧ (t : Int) < ((sW S).1 0 : Int)) ∧ 0 ≤ y ∧ y < 3 by omega)]
      by_cases y0 : y = 0
      · rw [if_neg (by omega), b_M_thing_53, zb_w (by omega) (by omega), if_pos (by omega), tn (n := 34 + t) (by omega), if_pos y0, Int.toNat_natCast, hM.l (34 + t) (by omega)]
      · by_cases y1 : y = 1
        · rw [if_pos y0, if_neg (by omega), b_M_thing_53, zb_w (by omega) (by omega), if_pos (by omega), tn (n := 2 + t) (by omega), if_neg y0, if_pos y1, Int.toNat_natCast, hM.l (2 + t) (by omega)]
        · rw [if_pos y0, if_pos y1, b_M_thing_53, zb_w (by omega) (by omega), if_pos (by omega), tn (n := 18 + t) (by omega), if_neg y0, if_neg y1, Int.toNat_natCast, hM.l (18 + t) (by omega)]
    · rw [if_neg h2, if_neg (by decide), if_neg (by omega)]
  · rw [isI_f h1, if_pos rfl, if_neg (fun z => h1 z.1)]
-- news
def f_news (S : St) (x y : Int) : Int × St := (if 0 ≤ x ∧ x < ((sW S).1 50 : Int) then (if y = -1 then ((sW S).1 (51 + x.toNat) : Int) else if 0 ≤ y ∧ y < ((sW S).1 (51 + x.toNat) : Int) then ((sW S).1 (61 + 9 * x.toNat + y.toNat) : Int) else -7) else -2, S)
theorem C_news {X : Nat × (Nat → Int)} {d : Nat} {D : DD} {S : St} {x y : Int} (hd : 2 ≤ d) (hS : SOK S) (hC : CH D S) : cRes X d m_N_news [vI x, vI y] D (f_news S x y) := by
  obtain ⟨d, rfl⟩ : ∃ e, d = e + 1 := ⟨d - 1, by omega⟩
  have h10 := hS.L.1.2.2.2.1
  unfold cRes f_news
  rw [e_N_news, b_N_news_0, s_C_isInn (by omega) hC.l]
  simp only [ab_ci]
  rw [b_N_news_9]
  refine ⟨D, ?_, hC, fr.rf D⟩
  by_cases h1 : 0 ≤ x ∧ x < ((sW S).1 50 : Int)
  · obtain ⟨i, rfl⟩ : ∃ t : Nat, x = (t : Int) := ⟨x.toNat, by omega⟩
    have hn := hC.l.2.2.2.2.1 i (by omega)
    rw [isI_t h1, if_pos (by decide), if_pos h1, Int.toNat_natCast, hn]
    by_cases y1 : y = -1
    · rw [if_neg (by omega), if_pos (by omega), if_pos y1]
    · rw [if_pos y1, if_neg y1]
      by_cases y2 : y < 0
      · rw [if_pos y2, if_neg (by omega)]
      · obtain ⟨k, rfl⟩ : ∃ t : Nat, y = (t : Int) := ⟨y.toNat, by omega⟩
        rw [if_neg y2, if_pos (by omega)]
        by_cases y3 : k < (sW S).1 (51 + i)
        · rw [if_pos (by omega), if_pos (by omega), s_C_newsAt (by omega) hS.L hC.l (by omega) y3]
          simp only [ab_ci]
          rw [b_N_news_59, Int.toNat_natCast]
        · rw [if_neg (by omega), if_neg (by omega)]
  · rw [isI_f h1, if_neg (by decide), if_neg h1]
theorem M_news {X : Nat × (Nat → Int)} {d : Nat} {D : DD} {S : St} {x y : Int} (hd : 3 ≤ d) (hS : SOK S) (hM : MH D S) : mRes X d m_M_news [vI x, vI y] D (f_news S x y) := by
  obtain ⟨d, rfl⟩ : ∃ e, d = e + 1 := ⟨d - 1, by omega⟩
  have h10 := hS.L.1.2.2.2.1
  have hM := hM.th hS
  unfold mRes f_news
  rw [e_M_news, b_M_news_0, s_M_isInn (by omega) hM.l hS.L]
  simp only [ab_ci]
  rw [b_M_news_11]
  refine ⟨_, ?_, hM, th_mY D⟩
  by_cases h1 : 0 ≤ x ∧ x < ((sW S).1 50 : Int)
  · obtain ⟨i, rfl⟩ : ∃ t : Nat, x = (t : Int) := ⟨x.toNat, by omega⟩
    have h9 := hS.L.2.2.2.2.2.2.1 i (by omega)
    rw [isI_t h1, if_pos (by decide), if_pos h1, Int.toNat_natCast, zb_w (n := 51 + (i : Int)) (by omega) (by omega), tn (n := 51 + i) (by omega), hM.l (51 + i) (by omega)]
    by_cases y1 : y = -1
    · rw [if_neg (by omega), if_pos (by omega), if_pos y1]
    · rw [if_pos y1, if_neg y1, if_pos (by omega), zb_w (by omega) (by omega), s_M_within (by omega)]
      simp only [ab_ci]
      rw [b_M_news_50]
      by_cases y3 : 0 ≤ y ∧ y < ((sW S).1 (51 + i) : Int)
      · obtain ⟨k, rfl⟩ : ∃ t : Nat, y = (t : Int) := ⟨y.toNat, by omega⟩
        rw [if_pos (show (0 : Int) ≤ (k : Int) ∧ (k : Int) ≤ ((sW S).1 (51 + i) : Int) - 1 by omega), if_neg (by decide), if_pos y3, zb_w (n := 9 * (i : Int)) (by omega) (by omega), zb_w (n := 61 + 9 * (i : Int)) (by omega) (by omega), zb_w (by omega) (by omega), if_pos (by omega), tn (n := 61 + 9 * i + k) (by omega), Int.toNat_natCast, hM.l (61 + 9 * i + k) (by omega)]
      · rw [if_neg (show ¬ (0 ≤ y ∧ y ≤ ((sW S).1 (51 + i) : Int) - 1) by omega), if_pos rfl, if_neg y3]
  · rw [isI_f h1, if_neg (by decide), if_neg h1]
-- count
def f_count (S : St) (x : Int) : Int × St := (if x = 0 then ((sW S).1 0 : Int) else if x = 1 then ((sW S).1 1 : Int) else if x = 2 then ((sW S).1 50 : Int) else if x = 3 then ((sW S).2.1.length : Int) else if x = 4 then ((sW S).2.2.length : Int) else if x = 5 then ((sW S).1 151 : Int) else if x = 6 then ((sT S).length : Int) else -1, S)
theorem C_count {X : Nat × (Nat → Int)} {d : Nat} {D : DD} {S : St} {x : Int} (hd : 1 ≤ d) (hC : CH D S) : cRes X d m_N_count [vI x] D (f_count S x) := by
  obtain ⟨d, rfl⟩ : ∃ e, d = e + 1 := ⟨d - 1, by omega⟩
  unfold cRes f_count
  rw [e_N_count, b_N_count_0, hC.l.1.1, hC.l.1.2.1, hC.l.1.2.2.1, hC.l.1.2.2.2, hC.n, hC.1.2.2.2.1, hC.2.2.2.2.2.1]
  refine ⟨D, ?_, hC, fr.rf D⟩
  repeat' split
  all_goals rfl
theorem M_count {X : Nat × (Nat → Int)} {d : Nat} {D : DD} {S : St} {x : Int} (hd : 1 ≤ d) (hS : SOK S) (hM : MH D S) : mRes X d m_M_count [vI x] D (f_count S x) := by
  obtain ⟨d, rfl⟩ : ∃ e, d = e + 1 := ⟨d - 1, by omega⟩
  have h := hM.th hS
  have h356 := h.1.2.2.2.1
  rw [Nat.zero_add] at h356
  unfold mRes f_count
  rw [e_M_count, b_M_count_0, h.l 0 (by omega), h.l 1 (by omega), h.l 50 (by omega), h.l 151 (by omega), h.n, h356, h.2.2.2.2.2.1]
  refine ⟨_, ?_, h, th_mY D⟩
  repeat' split
  all_goals rfl
-- back
theorem setI_t {L : Nat → Nat} {x : Int} (h : 0 ≤ x ∧ x < ((2 ^ L 0 : Nat) : Int)) : setI L x = 1 := by unfold setI; rw [if_pos h]
theorem setI_f {L : Nat → Nat} {x : Int} (h : ¬ (0 ≤ x ∧ x < ((2 ^ L 0 : Nat) : Int))) : setI L x = 0 := by unfold setI; rw [if_neg h]
def f_back (S : St) (x : Int) : Int × St := (if 0 ≤ x ∧ x < ((2 ^ (sW S).1 0 : Nat) : Int) then (clo (sW S).1 x.toNat : Int) else -3, S)
theorem C_back {X : Nat × (Nat → Int)} {d : Nat} {D : DD} {S : St} {x : Int} (hd : 2 ≤ d) (hS : SOK S) (hx : i32 x) (hC : CH D S) : cRes X d m_N_back [vI x] D (f_back S x) := by
  obtain ⟨d, rfl⟩ : ∃ e, d = e + 1 := ⟨d - 1, by omega⟩
  have h16 : 2 ^ (sW S).1 0 ≤ 2 ^ 16 := p2le hS.L.1.1
  unfold cRes f_back
  rw [e_N_back, b_N_back_0, s_C_isSet (by omega) hS.L hC.l hx.1 hx.2]
  simp only [ab_ci]
  rw [b_N_back_8]
  refine ⟨D, ?_, hC, fr.rf D⟩
  by_cases h1 : 0 ≤ x ∧ x < ((2 ^ (sW S).1 0 : Nat) : Int)
  · obtain ⟨t, rfl⟩ : ∃ t : Nat, x = (t : Int) := ⟨x.toNat, by omega⟩
    rw [setI_t h1, if_neg (by decide), if_pos h1, s_C_comeBack (by omega) hS.L hC.l (by omega)]
    simp only [ab_ci]
    rw [b_N_back_19, Int.toNat_natCast]
  · rw [setI_f h1, if_pos rfl, if_neg h1]
theorem M_back {X : Nat × (Nat → Int)} {d : Nat} {D : DD} {S : St} {x : Int} (hd : 3 ≤ d) (hS : SOK S) (hM : MH D S) : mRes X d m_M_back [vI x] D (f_back S x) := by
  obtain ⟨d, rfl⟩ : ∃ e, d = e + 1 := ⟨d - 1, by omega⟩
  have hM := hM.th hS
  unfold mRes f_back
  rw [e_M_back, b_M_back_0, s_M_isSet (by omega) hS.L hM.l]
  simp only [ab_ci]
  rw [b_M_back_10]
  refine ⟨_, ?_, hM, th_mY D⟩
  by_cases h1 : 0 ≤ x ∧ x < ((2 ^ (sW S).1 0 : Nat) : Int)
  · obtain ⟨t, rfl⟩ : ∃ t : Nat, x = (t : Int) := ⟨x.toNat, by omega⟩
    rw [setI_t h1, if_neg (by decide), if_pos h1, s_M_backOf (by omega) hS.L hM.l (by omega)]
    simp only [ab_ci]
    rw [b_M_back_18, Int.toNat_natCast]
  · rw [setI_f h1, if_pos rfl, if_neg h1]
-- of
def f_of (S : St) (x y : Int) : Int × St := (if 0 ≤ x ∧ x < ((sW S).2.1.length : Int) then (if y = 0 then (cN (mnD S x.toNat) : Int) else if y = 1 then (cS (mnD S x.toNat) : Int) else if y = 2 then ((cL (mnD S x.toNat)).length : Int) else if y = 3 then (bs (cL (mnD S x.toNat)) : Int) else if y = 4 then (wrS (sW S).1 (bs (cL (mnD S x.toNat))) : Int) else if y = 5 then cZ (mnD S x.toNat) else if y < 10 then -2 else if y - 10 < ((cL (mnD S x.toNat)).length : Int) then ((cL (mnD S x.toNat)).getD (y - 10).toNat 0 : Nat) else -7) else -2, S)
theorem C_of {X : Nat × (Nat → Int)} {d : Nat} {D : DD} {S : St} {x y : Int} (hd : 2 ≤ d) (hS : SOK S) (hy : i32 y) (hC : CH D S) : cRes X d m_N_of [vI x, vI y] D (f_of S x y) := by
  obtain ⟨d, rfl⟩ : ∃ e, d = e + 1 := ⟨d - 1, by omega⟩
  have h6 := hS.n6
  unfold cRes f_of
  rw [e_N_of, b_N_of_0, s_C_isOne (by omega) hC.n]
  simp only [ab_ci]
  rw [b_N_of_9]
  refine ⟨D, ?_, hC, fr.rf D⟩
  by_cases h1 : 0 ≤ x ∧ x < ((sW S).2.1.length : Int)
  · obtain ⟨c, rfl⟩ : ∃ t : Nat, x = (t : Int) := ⟨x.toNat, by omega⟩
    have hc : c < (sW S).2.1.length := by omega
    obtain ⟨a0, a1, a2, a3, a4, a5, a6⟩ := hC.cc hc
    have ok := hS.oc hc
    have o6 := ok.2.2.2
    have o2 := ok.1.2.1
    rw [isI_t h1, if_pos (by decide), if_pos (by omega), Int.toNat_natCast, R46_0 (by omega), if_pos h1]
    simp only [ab_rf]
    rw [b_N_of_24, a0, a1, a2, a3, a5]
    by_cases y0 : y = 0
    · rw [if_pos y0, if_pos y0]
    rw [if_neg y0, if_neg y0]
    by_cases y1 : y = 1
    · rw [if_pos y1, if_pos y1]
    rw [if_neg y1, if_neg y1]
    by_cases y2 : y = 2
    · rw [if_pos y2, if_pos y2]
    rw [if_neg y2, if_neg y2]
    by_cases y3 : y = 3
    · rw [if_pos y3, if_pos y3]
    rw [if_neg y3, if_neg y3]
    by_cases y4 : y = 4
    · rw [if_pos y4, if_pos y4, s_C_worthOf (by omega) hS.L hC.l (bs_31 ok.2.2.1)]
      simp only [ab_ci]
      rw [b_N_of_95]
    rw [if_neg y4, if_neg y4]
    by_cases y5 : y = 5
    · rw [if_pos y5, if_pos y5]
    rw [if_neg y5, if_neg y5]
    by_cases y9 : y < 10
    · rw [if_neg (by omega), if_pos y9]
    have hy2 := hy.2
    obtain ⟨k, hk⟩ : ∃ k : Nat, y - 10 = (k : Int) := ⟨(y - 10).toNat, by omega⟩
    rw [if_pos (by omega), if_neg y9, zb_w (by omega) (by omega), hk]
    by_cases y8 : k < (cL (mnD S c)).length
    · rw [if_neg (by omega), if_pos (by omega), s_C_thingAt (by omega) a4 ok.2.2.1 (by omega) (by omega)]
      simp only [ab_ci]
      rw [b_N_of_131, Int.toNat_natCast]
    · rw [if_pos (by omega), if_neg (by omega)]
  · rw [isI_f h1, if_neg (by decide), if_neg h1]
theorem M_of {X : Nat × (Nat → Int)} {d : Nat} {D : DD} {S : St} {x y : Int} (hd : 4 ≤ d) (hS : SOK S) (hy : i32 y) (hM : MH D S) : mRes X d m_M_of [vI x, vI y] D (f_of S x y) := by
  obtain ⟨d, rfl⟩ : ∃ e, d = e + 1 := ⟨d - 1, by omega⟩
  have h6 := hS.n6
  have hM := hM.th hS
  unfold mRes f_of
  rw [e_M_of, b_M_of_0, s_M_isMan (by omega) hM.n h6]
  simp only [ab_ci]
  rw [b_M_of_11]
  refine ⟨_, ?_, hM, th_mY D⟩
  by_cases h1 : 0 ≤ x ∧ x < ((sW S).2.1.length : Int)
  · obtain ⟨c, rfl⟩ : ∃ t : Nat, x = (t : Int) := ⟨x.toNat, by omega⟩
    have hc : c < (sW S).2.1.length := by omega
    have hmc := hM.mc hc
    obtain ⟨a0, a1, a2, a3, a4, a5⟩ := hM.mc hc
    have ok := hS.oc hc
    have o6 := ok.2.2.2
    have o2 := ok.1.2.1
    have ok9 : okl 9 (cL (mnD S c)) := ⟨ok.2.1, ok.2.2.1, by omega⟩
    have hmb : mB c = 153 + 29 * c := rfl
    rw [isI_t h1, if_neg (by decide), if_pos h1, Int.toNat_natCast]
    by_cases yn : y < 0
    · rw [if_pos yn, if_neg (by omega), if_neg (by omega), if_neg (by omega), if_neg (by omega), if_neg (by omega), if_neg (by omega), if_pos (by omega)]
    rw [if_neg yn, s_M_within (by omega)]
    simp only [ab_ci]
    rw [b_M_of_29]
    by_cases y69 : 6 ≤ y ∧ y ≤ 9
    · rw [if_pos y69, if_neg (by decide), if_neg (by omega), if_neg (by omega), if_neg (by omega), if_neg (by omega), if_neg (by omega), if_neg (by omega), if_pos (by omega)]
    rw [if_neg y69, if_pos rfl]
    by_cases y9 : y ≤ 9
    · rw [if_pos y9]
      by_cases y0 : y = 0
      · rw [if_pos y0, if_pos y0, s_M_manAt (by omega) (by omega)]
        simp only [ab_ci]
        rw [b_M_of_112, Int.add_zero, zb_w (by omega) (by omega), if_pos (by omega), Int.toNat_natCast, a0]
      rw [if_neg y0, if_neg y0]
      by_cases y1 : y = 1
      · rw [if_pos y1, if_pos y1, s_M_manAt (by omega) (by omega)]
        simp only [ab_ci]
        rw [b_M_of_124, zb_w (by omega) (by omega), if_pos (by omega), tn (n := mB c + 1) (by omega), a1]
      rw [if_neg y1, if_neg y1]
      by_cases y2 : y = 2
      · rw [if_pos y2, if_pos y2, s_M_many (by omega) (by omega) hmc]
        simp only [ab_ci]
        rw [b_M_of_133]
      rw [if_neg y2, if_neg y2]
      by_cases y3 : y = 3
      · rw [if_pos y3, if_pos y3, s_M_bitsIn (by omega) (by omega) hmc ok9]
        simp only [ab_ci]
        rw [b_M_of_139]
      rw [if_neg y3, if_neg y3]
      by_cases y4 : y = 4
      · rw [if_pos y4, if_pos y4, s_M_bitsIn (by omega) (by omega) hmc ok9]
        simp only [ab_ci]
        rw [b_M_of_146, s_M_worthOf (by omega) hS.L hM.l (bs_31 ok.2.2.1)]
        simp only [ab_ci]
        rw [b_M_of_149]
      rw [if_neg y4, if_neg y4, if_pos (by omega), s_M_manAt (by omega) (by omega)]
      simp only [ab_ci]
      rw [b_M_of_158, zb_w (by omega) (by omega), if_pos (by omega), tn (n := mB c + 3) (by omega), a3]
    · have hy2 := hy.2
      obtain ⟨k, hk⟩ : ∃ k : Nat, y - 10 = (k : Int) := ⟨(y - 10).toNat, by omega⟩
      rw [if_neg y9, if_neg (show ¬ y = 0 by omega), if_neg (show ¬ y = 1 by omega), if_neg (show ¬ y = 2 by omega), if_neg (show ¬ y = 3 by omega), if_neg (show ¬ y = 4 by omega), if_neg (show ¬ y = 5 by omega), if_neg (show ¬ y < 10 by omega), s_M_many (by omega) (by omega) hmc]
      simp only [ab_ci]
      rw [b_M_of_50, zb_w (by omega) (by omega), hk]
      by_cases y8 : k < (cL (mnD S c)).length
      · rw [if_neg (by omega), if_pos (by omega), s_M_thingAt (by omega) (by omega) hmc y8 (by omega)]
        simp only [ab_ci]
        rw [b_M_of_62, Int.toNat_natCast]
      · rw [if_pos (by omega), if_neg (by omega)]
  · rw [isI_f h1, if_pos rfl, if_neg h1]
end
