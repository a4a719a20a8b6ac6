/-! calls: broken, asked, gaps -/
section
theorem zb_and1 (y : Int) : b_an y 1 = y % 2 := by
  unfold b_an
  have h0 : (BitVec.ofInt 32 1) = BitVec.ofNat 32 1 := by decide
  have h2 : (BitVec.ofInt 32 y &&& BitVec.ofNat 32 1).toNat = (y % 2).toNat := by
    rw [BitVec.toNat_and, BitVec.toNat_ofInt, BitVec.toNat_ofNat, show 1 % 2 ^ 32 = 2 ^ 1 - 1 by decide, Nat.and_two_pow_sub_one_eq_mod]
    omega
  rw [h0, BitVec.toInt_eq_toNat_of_lt (by rw [h2]; omega), h2]
  omega
theorem zb_not {m : Nat} (h : m < 2147483648) : b_xr (m : Int) (-1) = -(m : Int) - 1 := by
  unfold b_xr
  have e : BitVec.ofInt 32 (-1) = BitVec.allOnes 32 := by decide
  rw [BitVec.ofInt_natCast, e]
  have h1 : (BitVec.ofNat 32 m ^^^ BitVec.allOnes 32) = ~~~ (BitVec.ofNat 32 m) := by
    rw [BitVec.xor_allOnes]
  have h2 : (~~~ (BitVec.ofNat 32 m)).toNat = 4294967295 - m := by
    rw [BitVec.toNat_not, BitVec.toNat_ofNat, Nat.mod_eq_of_lt (by omega)]
  rw [h1, BitVec.toInt_eq_toNat_cond, h2, if_neg (by omega)]
  omega
theorem zb_nbit {m t : Nat} (h : m < 2147483648) (ht : t < 32) : b_an (b_sr (b_xr (m : Int) (-1)) (t : Int)) 1 = if m.testBit t = true then 0 else 1 := by
  rw [zb_not h, zb_and1]
  unfold b_sr
  have e : ((t : Int) % 32).toNat = t := by omega
  have hp9 : 0 < 2 ^ t := Nat.pow_pos (by omega)
  have e2 : ((2 : Int) ^ t) = ((2 ^ t : Nat) : Int) := by rw [Int.natCast_pow]; rfl
  have hq : (-(m : Int) - 1) / ((2 ^ t : Nat) : Int) = -((m / 2 ^ t : Nat) : Int) - 1 := by
    have h3 := Nat.div_add_mod m (2 ^ t)
    have h4 := Nat.mod_lt m hp9
    generalize 2 ^ t = p at *
    have h5 : (m : Int) = (p : Int) * ((m / p : Nat) : Int) + ((m % p : Nat) : Int) := by rw [← Int.natCast_mul, ← Int.natCast_add, h3]
    have := (Int.ediv_emod_unique (a := -(m : Int) - 1) (b := (p : Int)) (r := (p : Int) - 1 - ((m % p : Nat) : Int)) (q := -((m / p : Nat) : Int) - 1) (by omega)).mpr ⟨by rw [Int.mul_sub, Int.mul_neg, Int.mul_one]; omega, by omega, by omega⟩
    exact this.1
  rw [e, e2, hq, Nat.testBit_eq_decide_div_mod_eq]
  by_cases h6 : m / 2 ^ t % 2 = 1
  · rw [decide_eq_true h6, if_pos rfl]; omega
  · rw [decide_eq_false h6, if_neg (by decide)]; omega
/-- what is held by those that p names, of the first k -/
def hbU (S : St) (p : Nat → Bool) : Nat → Nat
  | 0 => 0
  | k + 1 => if p k = true then hbU S p k ||| bs (cL (mnD S k)) else hbU S p k
theorem hbU_lt {S : St} (hS : SOK S) (p : Nat → Bool) {k : Nat} (hk : k ≤ (sW S).2.1.length) : hbU S p k < 65536 := by
  induction k with
  | zero => exact (by omega : 0 < 65536)
  | succ k ih =>
    rw [hbU]
    split
    · exact Nat.or_lt_two_pow (n := 16) (ih (by omega)) (bs_31 (hS.oc (c := k) (by omega)).2.2.1)
    · exact ih (by omega)
theorem s_C_heldBy {X : Nat × (Nat → Int)} {d : Nat} {D : DD} {S : St} {x : Int} {p : Nat → Bool} (hd : 1 ≤ d) (hS : SOK S) (hC : CH D S) (hx : ∀ t : Nat, t < 6 → b_an (b_sr x (t : Int)) 1 = if p t = true then 1 else 0) : ev X d m_Company_heldBy [vR 2 0, vI x] (hp D) = some (some (vI (hbU S p (sW S).2.1.length : Int)), hp D) := by
  obtain ⟨d, rfl⟩ : ∃ e, d = e + 1 := ⟨d - 1, by omega⟩
  have h6 := hS.n6
  have key : ∀ (m k : Nat), k + m = (sW S).2.1.length → at_ X d cd_Company_heldBy 4 [vR 2 0, vI x, vI (hbU S p k : Int), vI (k : Int)] [] (hp D) = some (some (vI (hbU S p (sW S).2.1.length : Int)), hp D) := by
    intro m
    induction m with
    | zero =>
      intro k hk
      rw [b_Company_heldBy_4, hC.n, if_pos (by omega), show k = (sW S).2.1.length by omega]
    | succ m ih =>
      intro k hk
      have hlt : k < (sW S).2.1.length := by omega
      have h7 := ih (k + 1) (by omega)
      have h8 := hbU_lt hS p (k := k) (by omega)
      have h9 := bs_31 (hS.oc hlt).2.2.1
      rw [hbU] at h7
      rw [b_Company_heldBy_4, hC.n, if_neg (by omega), hx k (by omega)]
      by_cases hb : p k = true
      · rw [if_pos hb] at h7
        rw [if_pos hb, if_neg (by decide), if_pos (by omega), Int.toNat_natCast, R46_0 (by omega)]
        simp only [ab_rf]
        rw [b_Company_heldBy_27, (hC.cc hlt).2.2.2.1, zb_or (by omega) (by omega), b_Company_heldBy_32, zb_s (by omega)]
        exact h7
      · rw [if_neg hb] at h7
        rw [if_neg hb, if_pos rfl, b_Company_heldBy_32, zb_s (by omega)]
        exact h7
  rw [e_Company_heldBy, b_Company_heldBy_0]
  exact key (sW S).2.1.length 0 (by omega)
-- broken
def f_broken (S : St) (x y : Int) : Int × St := (if 0 ≤ x ∧ x < ((sW S).2.1.length : Int) then (if 0 ≤ y ∧ y < ((2 ^ (sW S).1 0 : Nat) : Int) then ((y.toNat &&& nd (bs (cL (mnD S x.toNat))) (hbU S (fun k => !(k == x.toNat)) (sW S).2.1.length) : Nat) : Int) else -3) else -2, S)
theorem C_broken {X : Nat × (Nat → Int)} {d : Nat} {D : DD} {S : St} {x y : Int} (hd : 8 ≤ d) (hS : SOK S) (hy : i32 y) (hC : CH D S) : cRes X d m_N_broken [vI x, vI y] D (f_broken S x y) := by
  obtain ⟨d, rfl⟩ : ∃ e, d = e + 1 := ⟨d - 1, by omega⟩
  have h6 := hS.n6
  have h16 : 2 ^ (sW S).1 0 ≤ 2 ^ 16 := p2le hS.L.1.1
  unfold cRes f_broken
  rw [e_N_broken, b_N_broken_0, s_C_isOne (by omega) hC.n]
  simp only [ab_ci]
  rw [b_N_broken_9]
  refine ⟨D, ?_, hC, fr.rf D⟩
  by_cases h1 : 0 ≤ x ∧ x < ((sW S).2.1.length : Int)
  · obtain ⟨c, rfl⟩ : ∃ t : Nat, x = (t : Int) := ⟨x.toNat, by omega⟩
    have hc : c < (sW S).2.1.length := by omega
    rw [isI_t h1, if_pos (by decide), if_pos h1, s_C_isSet (by omega) hS.L hC.l hy.1 hy.2]
    simp only [ab_ci]
    rw [b_N_broken_23]
    by_cases h2 : 0 ≤ y ∧ y < ((2 ^ (sW S).1 0 : Nat) : Int)
    · obtain ⟨s, rfl⟩ : ∃ t : Nat, y = (t : Int) := ⟨y.toNat, by omega⟩
      obtain ⟨d, rfl⟩ : ∃ e, d = e + 1 := ⟨d - 1, by omega⟩
      have hb := bs_31 (hS.oc hc).2.2.1
      have hp9 : 2 ^ c < 2 ^ 31 := zb_p2 (by omega)
      have hh := hbU_lt hS (fun k => !(k == c)) (Nat.le_refl (sW S).2.1.length)
      have hnd : nd (bs (cL (mnD S c))) (hbU S (fun k => !(k == c)) (sW S).2.1.length) < 2 ^ 16 := nd_lt hb
      rw [setI_t h2, if_neg (by decide), if_pos h2, e_Company_heldByHimAlone, b_Company_heldByHimAlone_0, if_pos (by omega), Int.toNat_natCast, R46_0 (by omega)]
      simp only [ab_rf]
      rw [b_Company_heldByHimAlone_6, zb_sl (by omega), s_C_heldBy (p := fun k => !(k == c)) (by omega) hS hC (fun t ht => by
        rw [zb_nbit (by omega) (by omega), Nat.testBit_two_pow]
        by_cases e : c = t
        · subst e; simp
        · have e' : ¬ t = c := fun z => e z.symm
          simp [e, e']), (hC.cc hc).2.2.2.1]
      simp only [ab_ci]
      rw [b_Company_heldByHimAlone_18, zb_nd (by omega) (by omega)]
      simp only []
      rw [b_N_broken_35, zb_an (by omega) (by omega), Int.toNat_natCast]
    · rw [setI_f h2, if_pos rfl, if_neg h2]
  · rw [isI_f h1, if_neg (by decide), if_neg h1]
theorem M_broken {X : Nat × (Nat → Int)} {d : Nat} {D : DD} {S : St} {x y : Int} (hd : 8 ≤ d) (hS : SOK S) (hM : MH D S) : mRes X d m_M_broken [vI x, vI y] D (f_broken S x y) := by
  obtain ⟨d, rfl⟩ : ∃ e, d = e + 1 := ⟨d - 1, by omega⟩
  have h6 := hS.n6
  have h16 : 2 ^ (sW S).1 0 ≤ 2 ^ 16 := p2le hS.L.1.1
  have hM := hM.th hS
  unfold mRes f_broken
  rw [e_M_broken, b_M_broken_0, s_M_isMan (by omega) hM.n h6]
  simp only [ab_ci]
  rw [b_M_broken_11]
  refine ⟨_, ?_, hM, th_mY D⟩
  by_cases h1 : 0 ≤ x ∧ x < ((sW S).2.1.length : Int)
  · obtain ⟨c, rfl⟩ : ∃ t : Nat, x = (t : Int) := ⟨x.toNat, by omega⟩
    have hc : c < (sW S).2.1.length := by omega
    rw [isI_t h1, if_pos (by decide), if_pos h1, s_M_isSet (by omega) hS.L hM.l]
    simp only [ab_ci]
    rw [b_M_broken_22]
    by_cases h2 : 0 ≤ y ∧ y < ((2 ^ (sW S).1 0 : Nat) : Int)
    · obtain ⟨s, rfl⟩ : ∃ t : Nat, y = (t : Int) := ⟨y.toNat, by omega⟩
      have ok9 : ∀ e, e < (sW S).2.1.length → okl 9 (cL (mnD S e)) := fun e he => ⟨(hS.oc he).2.1, (hS.oc he).2.2.1, Nat.le_trans (hS.oc he).2.2.2 (hS.oc he).1.2.1⟩
      rw [setI_t h2, if_pos (by decide), if_pos h2, Int.toNat_natCast, Int.toNat_natCast]
      have key : ∀ (m k : Nat), k + m = (sW S).2.1.length → at_ X d cd_M_broken 33 [vR 12 0, vI (c : Int), vI (s : Int), vI (hbU S (fun k => !(k == c)) k : Int), vI (k : Int)] [] (hp (u3 D 12 0 0 0)) = some (some (vI ((s &&& nd (bs (cL (mnD S c))) (hbU S (fun k => !(k == c)) (sW S).2.1.length) : Nat) : Int)), hp (u3 D 12 0 0 0)) := by
        intro m
        induction m with
        | zero =>
          intro k hk
          have hb := bs_31 (hS.oc hc).2.2.1
          have hh := hbU_lt hS (fun k => !(k == c)) (Nat.le_refl (sW S).2.1.length)
          have ha : bs (cL (mnD S c)) &&& s ≤ bs (cL (mnD S c)) := Nat.and_le_left
          rw [b_M_broken_33, hM.n, if_pos (by omega), s_M_bitsIn (by omega) (by omega) (hM.mc hc) (ok9 c hc), show k = (sW S).2.1.length by omega]
          simp only [ab_ci]
          rw [b_M_broken_76, zb_an (by omega) (by omega), zb_nd (by omega) (by omega)]
          congr 5
          apply Nat.eq_of_testBit_eq
          intro i
          rw [nd_bit, Nat.testBit_and, Nat.testBit_and, nd_bit]
          cases (bs (cL (mnD S c))).testBit i <;> cases s.testBit i <;> rfl
        | succ m ih =>
          intro k hk
          have hlt : k < (sW S).2.1.length := by omega
          have h7 := ih (k + 1) (by omega)
          have h8 := hbU_lt hS (fun k => !(k == c)) (k := k) (by omega)
          have h9 := bs_31 (hS.oc hlt).2.2.1
          rw [hbU] at h7
          rw [b_M_broken_33, hM.n, if_neg (by omega)]
          by_cases e : k = c
          · have e0 := zb_or (n := hbU S (fun k => !(k == c)) k) (m := 0) (by omega) (by omega)
            rw [Nat.or_zero, show ((0 : Nat) : Int) = 0 from rfl] at e0
            rw [if_neg (show ¬ (!(k == c)) = true by simp [e])] at h7
            rw [if_neg (by omega), b_M_broken_63, e0, zb_s (by omega)]
            exact h7
          · rw [if_pos (show (!(k == c)) = true by simp [e])] at h7
            rw [if_pos (by omega), s_M_bitsIn (by omega) (by omega) (hM.mc hlt) (ok9 k hlt)]
            simp only [ab_ci]
            rw [b_M_broken_63, zb_or (by omega) (by omega), zb_s (by omega)]
            exact h7
      exact key (sW S).2.1.length 0 (by omega)
    · rw [setI_f h2, if_neg (by decide), if_neg h2]
  · rw [isI_f h1, if_neg (by decide), if_neg h1]
-- gaps
theorem nd_nd (a b c : Nat) : nd (nd a b) c = nd a (b ||| c) := by
  apply Nat.eq_of_testBit_eq
  intro i
  rw [nd_bit, nd_bit, nd_bit, Nat.testBit_or]
  cases a.testBit i <;> cases b.testBit i <;> cases c.testBit i <;> rfl
def f_gaps (S : St) : Int × St := (((nd (2 ^ (sW S).1 0 - 1) (bs (sW S).2.2.flatten) : Nat) : Int), S)
def pcD (S : St) (p : Nat) : List Nat := (sW S).2.2.getD p []
theorem pcD_some {S : St} {p : Nat} (h : p < (sW S).2.2.length) : (sW S).2.2[p]? = some (pcD S p) := by
  unfold pcD
  rw [List.getD_eq_getElem?_getD, List.getElem?_eq_getElem h]
  rfl
theorem SOK.op {S : St} (hS : SOK S) {p : Nat} (h : p < (sW S).2.2.length) : 1 ≤ (pcD S p).length ∧ (pcD S p).length ≤ 8 ∧ ∀ t ∈ pcD S p, t < (sW S).1 0 := hS.1.2.2.2.2.2 _ (List.mem_of_getElem? (pcD_some h))
theorem SOK.p6 {S : St} (hS : SOK S) : (sW S).2.2.length ≤ 6 := hS.1.2.2.2.2.1
theorem CH.pl {D : DD} {S : St} (hC : CH D S) {p : Nat} (h : p < (sW S).2.2.length) : D 56 0 p = ((pcD S p).length : Int) := (hC.1.2.2.2.2 p _ (pcD_some h)).1
theorem CH.pn {D : DD} {S : St} (hC : CH D S) : D 6 0 0 = ((sW S).2.2.length : Int) := hC.1.2.2.2.1
theorem s_C_thingOf {X : Nat × (Nat → Int)} {d : Nat} {D : DD} {S : St} {p k : Nat} (hd : 1 ≤ d) (hS : SOK S) (hC : CH D S) (hp9 : p < (sW S).2.2.length) (hk : k < (pcD S p).length) : ev X d m_Pieces_thingOf [vR 6 0, vI (p : Int), vI (k : Int)] (hp D) = some (some (vI ((pcD S p).getD k 0 : Nat)), hp D) := by
  obtain ⟨d, rfl⟩ : ∃ e, d = e + 1 := ⟨d - 1, by omega⟩
  have h6 := hS.p6
  have h8 := (hS.op hp9).2.1
  rw [e_Pieces_thingOf, b_Pieces_thingOf_0, zb_w (n := (p : Int) * 8) (by omega) (by omega), zb_w (by omega) (by omega), if_pos (by omega), tn (n := 8 * p + k) (by omega), (hC.1.2.2.2.2 p _ (pcD_some hp9)).2 k hk]
theorem MH.pn {D : DD} {S : St} (hM : MH D S) : D 22 0 356 = ((sW S).2.2.length : Int) := by
  have := hM.1.2.2.2.1
  rw [Nat.zero_add] at this
  exact this
theorem MH.pl {D : DD} {S : St} (hM : MH D S) {p : Nat} (h : p < (sW S).2.2.length) : D 22 0 (357 + p) = ((pcD S p).length : Int) := by
  have := (hM.1.2.2.2.2 p _ (pcD_some h)).1
  rw [Nat.zero_add] at this
  exact this
theorem MH.pt {D : DD} {S : St} (hM : MH D S) {p k : Nat} (h : p < (sW S).2.2.length) (hk : k < (pcD S p).length) : D 22 0 (363 + 8 * p + k) = (((pcD S p).getD k 0 : Nat) : Int) := by
  have := (hM.1.2.2.2.2 p _ (pcD_some h)).2 k hk
  rw [Nat.zero_add] at this
  exact this
theorem take_fl {S : St} {p : Nat} (h : p < (sW S).2.2.length) : ((sW S).2.2.take (p + 1)).flatten = ((sW S).2.2.take p).flatten ++ pcD S p := by
  rw [List.take_add_one, pcD_some h, List.flatten_append]
  simp
theorem fl_lt {S : St} (hS : SOK S) {t : Nat} (h : t ∈ (sW S).2.2.flatten) : t < 16 := by
  obtain ⟨l, h1, h2⟩ := List.mem_flatten.mp h
  exact Nat.lt_of_lt_of_le ((hS.1.2.2.2.2.2 l h1).2.2 t h2) hS.L.1.1
theorem bs_sub {S : St} (hS : SOK S) {p k : Nat} (h : p < (sW S).2.2.length) : bs (((sW S).2.2.take p).flatten ++ (pcD S p).take k) < 65536 := by
  refine bs_31 fun t ht => fl_lt hS ?_
  rcases List.mem_append.mp ht with z | z
  · obtain ⟨l, h1, h2⟩ := List.mem_flatten.mp z
    exact List.mem_flatten.mpr ⟨l, List.mem_of_mem_take h1, h2⟩
  · exact List.mem_flatten.mpr ⟨pcD S p, List.mem_of_getElem? (pcD_some h), List.mem_of_mem_take z⟩
theorem C_gaps {X : Nat × (Nat → Int)} {d : Nat} {D : DD} {S : St} (hd : 8 ≤ d) (hS : SOK S) (hC : CH D S) : cRes X d m_N_gaps [] D (f_gaps S) := by
  obtain ⟨d, rfl⟩ : ∃ e, d = e + 1 := ⟨d - 1, by omega⟩
  have h6 := hS.p6
  have h16 : 2 ^ (sW S).1 0 ≤ 2 ^ 16 := p2le hS.L.1.1
  have hL16 := hS.L.1.1
  unfold cRes f_gaps
  rw [e_N_gaps, b_N_gaps_0, s_C_allThings (by omega) hS.L hC.l]
  simp only [ab_ci]
  rw [b_N_gaps_7]
  refine ⟨D, ?_, hC, fr.rf D⟩
  obtain ⟨d, rfl⟩ : ∃ e, d = e + 1 := ⟨d - 1, by omega⟩
  have inn : ∀ (m k p : Nat), p < (sW S).2.2.length → k + m = (pcD S p).length → at_ X d cd_Pieces_inThem 14 [vR 6 0, vI (bs (((sW S).2.2.take p).flatten ++ (pcD S p).take k) : Int), vI (p : Int), vI (k : Int)] [] (hp D) = at_ X d cd_Pieces_inThem 4 [vR 6 0, vI (bs ((sW S).2.2.take (p + 1)).flatten : Int), vI ((p + 1 : Nat) : Int), vU] [] (hp D) := by
    intro m
    induction m with
    | zero =>
      intro k p hp9 hk
      rw [b_Pieces_inThem_14, if_pos (by omega), Int.toNat_natCast, hC.pl hp9, if_pos (by omega), zb_s (by omega), take_fl hp9, List.take_of_length_le (l := pcD S p) (by omega)]
    | succ m ih =>
      intro k p hp9 hk
      have ho := hS.op hp9
      have hu : (pcD S p).getD k 0 < 16 := Nat.lt_of_lt_of_le (ho.2.2 _ (List.mem_of_getElem? (getD_some (by omega)))) hL16
      have h2 : 2 ^ (pcD S p).getD k 0 < 2 ^ 16 := zb_p2 hu
      have hb := bs_sub hS (k := k) hp9
      rw [b_Pieces_inThem_14, if_pos (by omega), Int.toNat_natCast, hC.pl hp9, if_neg (by omega), s_C_thingOf (by omega) hS hC hp9 (by omega)]
      simp only [ab_ci]
      rw [b_Pieces_inThem_32, zb_sl (by omega), zb_or (by omega) (by omega), zb_s (by omega)]
      have e : bs (((sW S).2.2.take p).flatten ++ (pcD S p).take k) ||| 2 ^ (pcD S p).getD k 0 = bs (((sW S).2.2.take p).flatten ++ (pcD S p).take (k + 1)) := by
        rw [take_getD (by omega), ← List.append_assoc, bs_app (_ ++ _), bs, bs, Nat.or_zero]
      rw [e]
      exact ih (k + 1) p hp9 (by omega)
  have out : ∀ (m p : Nat), p + m = (sW S).2.2.length → at_ X d cd_Pieces_inThem 4 [vR 6 0, vI (bs ((sW S).2.2.take p).flatten : Int), vI (p : Int), vU] [] (hp D) = some (some (vI (bs (sW S).2.2.flatten : Int)), hp D) := by
    intro m
    induction m with
    | zero =>
      intro p hp9
      rw [b_Pieces_inThem_4, hC.pn, if_pos (by omega), List.take_of_length_le (by omega)]
    | succ m ih =>
      intro p hp9
      have h7 := inn (pcD S p).length 0 p (by omega) (by omega)
      rw [show ((0 : Nat) : Int) = 0 from rfl, List.take_zero, List.append_nil] at h7
      rw [b_Pieces_inThem_4, hC.pn, if_neg (by omega), h7]
      exact ih (p + 1) (by omega)
  have hb : bs (sW S).2.2.flatten < 65536 := bs_31 fun t ht => fl_lt hS ht
  have h9 := out (sW S).2.2.length 0 (by omega)
  rw [e_Pieces_inThem, b_Pieces_inThem_0]
  rw [show bs ((sW S).2.2.take 0).flatten = 0 from rfl, show ((0 : Nat) : Int) = 0 from rfl] at h9
  rw [h9]
  simp only [ab_ci]
  rw [b_N_gaps_14, zb_nd (by omega) (by omega)]
theorem M_gaps {X : Nat × (Nat → Int)} {d : Nat} {D : DD} {S : St} (hd : 8 ≤ d) (hS : SOK S) (hM : MH D S) : mRes X d m_M_gaps [] D (f_gaps S) := by
  obtain ⟨d, rfl⟩ : ∃ e, d = e + 1 := ⟨d - 1, by omega⟩
  have h6 := hS.p6
  have h16 : 2 ^ (sW S).1 0 ≤ 2 ^ 16 := p2le hS.L.1.1
  have hp8 : 0 < 2 ^ (sW S).1 0 := Nat.pow_pos (by omega)
  have hL16 := hS.L.1.1
  have hM := hM.th hS
  unfold mRes f_gaps
  rw [e_M_gaps, b_M_gaps_0, hM.l 0 (by omega), zb_sl (by omega)]
  refine ⟨_, ?_, hM, th_mY D⟩
  generalize u3 D 12 0 0 0 = D at hM ⊢
  have hA : 2 ^ (sW S).1 0 - 1 < 65536 := by omega
  have eA : w32 (((2 ^ (sW S).1 0 : Nat) : Int) - 1) = ((2 ^ (sW S).1 0 - 1 : Nat) : Int) := by
    generalize 2 ^ (sW S).1 0 = w at h16 hp8
    rw [zb_w (by omega) (by omega)]
    omega
  rw [eA]
  generalize 2 ^ (sW S).1 0 - 1 = A at hA
  have inn : ∀ (m k p : Nat), p < (sW S).2.2.length → k + m = (pcD S p).length → at_ X d cd_M_gaps 32 [vR 12 0, vI (nd A (bs (((sW S).2.2.take p).flatten ++ (pcD S p).take k)) : Int), vI (p : Int), vI (k : Int)] [] (hp D) = at_ X d cd_M_gaps 18 [vR 12 0, vI (nd A (bs ((sW S).2.2.take (p + 1)).flatten) : Int), vI ((p + 1 : Nat) : Int), vU] [] (hp D) := by
    intro m
    induction m with
    | zero =>
      intro k p hp9 hk
      rw [b_M_gaps_32, zb_w (n := 357 + (p : Int)) (by omega) (by omega), if_pos (by omega), tn (n := 357 + p) (by omega), hM.pl hp9, if_pos (by omega), zb_s (by omega), take_fl hp9, List.take_of_length_le (l := pcD S p) (by omega)]
    | succ m ih =>
      intro k p hp9 hk
      have ho := hS.op hp9
      have hu : (pcD S p).getD k 0 < 16 := Nat.lt_of_lt_of_le (ho.2.2 _ (List.mem_of_getElem? (getD_some (by omega)))) hL16
      have h2 : 2 ^ (pcD S p).getD k 0 < 2 ^ 16 := zb_p2 hu
      have hb := bs_sub hS (k := k) hp9
      have hn : nd A (bs (((sW S).2.2.take p).flatten ++ (pcD S p).take k)) < 2 ^ 16 := nd_lt hA
      rw [b_M_gaps_32, zb_w (n := 357 + (p : Int)) (by omega) (by omega), if_pos (by omega), tn (n := 357 + p) (by omega), hM.pl hp9, if_neg (by omega), zb_w (n := 8 * (p : Int)) (by omega) (by omega), zb_w (n := 363 + 8 * (p : Int)) (by omega) (by omega), zb_w (n := 363 + 8 * (p : Int) + (k : Int)) (by omega) (by omega), if_pos (by omega), tn (n := 363 + 8 * p + k) (by omega), hM.pt hp9 (by omega), zb_sl (by omega), zb_nd (by omega) (by omega), zb_s (by omega), nd_nd]
      have e : bs (((sW S).2.2.take p).flatten ++ (pcD S p).take k) ||| 2 ^ (pcD S p).getD k 0 = bs (((sW S).2.2.take p).flatten ++ (pcD S p).take (k + 1)) := by
        rw [take_getD (by omega), ← List.append_assoc, bs_app (_ ++ _), bs, bs, Nat.or_zero]
      rw [e]
      exact ih (k + 1) p hp9 (by omega)
  have out : ∀ (m p : Nat), p + m = (sW S).2.2.length → at_ X d cd_M_gaps 18 [vR 12 0, vI (nd A (bs ((sW S).2.2.take p).flatten) : Int), vI (p : Int), vU] [] (hp D) = some (some (vI (nd A (bs (sW S).2.2.flatten) : Int)), hp D) := by
    intro m
    induction m with
    | zero =>
      intro p hp9
      rw [b_M_gaps_18, hM.pn, if_pos (by omega), List.take_of_length_le (by omega)]
    | succ m ih =>
      intro p hp9
      have h7 := inn (pcD S p).length 0 p (by omega) (by omega)
      rw [show ((0 : Nat) : Int) = 0 from rfl, List.take_zero, List.append_nil] at h7
      rw [b_M_gaps_18, hM.pn, if_neg (by omega), h7]
      exact ih (p + 1) (by omega)
  have h9 := out (sW S).2.2.length 0 (by omega)
  have e0 : nd A (bs ((sW S).2.2.take 0).flatten) = A := by
    show nd A 0 = A
    unfold nd
    rw [Nat.and_zero, Nat.xor_zero]
  rw [e0] at h9
  exact h9
end
