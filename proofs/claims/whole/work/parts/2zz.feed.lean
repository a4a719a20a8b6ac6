/-! the tape: feed -/
section
theorem zb_and255 (y : Int) : b_an y 255 = y % 256 := by
  unfold b_an
  have h : (BitVec.ofInt 32 y &&& BitVec.ofInt 32 255).toNat = (y % 4294967296).toNat % 256 := by
    rw [BitVec.toNat_and, BitVec.toNat_ofInt, show (BitVec.ofInt 32 255).toNat = 2 ^ 8 - 1 by decide, Nat.and_two_pow_sub_one_eq_mod]
    rfl
  rw [BitVec.toInt_eq_toNat_of_lt (by rw [h]; omega), h]
  omega
/-- a byte of a word -/
def byt (x : Int) (s : Nat) : Nat := (x / 2 ^ s % 256).toNat
theorem byt_lt (x : Int) (s : Nat) : byt x s < 256 := by unfold byt; omega
def b4 (x : Int) : List Nat := [byt x 24, byt x 16, byt x 8, byt x 0]
def fd (a b c d e : Int) : List Nat := b4 a ++ (b4 b ++ (b4 c ++ (b4 d ++ b4 e)))
def stT (S : St) (T : List Nat) : St := (S.1, S.2.1, S.2.2.1, T, S.2.2.2.2)
def f_feed (S : St) (a b c d e : Int) : Int × St := if (sT S).length + 20 ≤ 500 then ((((sT S).length + 20 : Nat) : Int), stT S (sT S ++ fd a b c d e)) else (-5, S)
theorem ok_feed {S : St} {a b c d e : Int} (hS : SOK S) : SOK (f_feed S a b c d e).2 := by
  unfold f_feed
  split
  · rename_i h
    obtain ⟨h1, h2, h3, ⟨h4, h5⟩, h6⟩ := hS
    refine ⟨h1, h2, h3, ⟨?_, fun x hx => ?_⟩, h6⟩
    · show (sT S ++ fd a b c d e).length ≤ 500
      rw [List.length_append]
      exact h
    · have hx : x ∈ sT S ++ fd a b c d e := hx
      rcases List.mem_append.mp hx with z | z
      · exact h5 x z
      · unfold fd b4 at z
        simp only [List.mem_append, List.mem_cons, List.not_mem_nil, or_false] at z
        rcases z with (z | z | z | z) | (z | z | z | z) | (z | z | z | z) | (z | z | z | z) | (z | z | z | z) <;> (rw [z]; exact byt_lt _ _)
  · exact hS
/-- the class's tape -/
def TP (D : DD) (T : List Nat) : Prop := D 7 0 3 = (T.length : Int) ∧ ∀ k, k < T.length → D 61 0 k = w8 (T.getD k 0 : Nat)
def pT : Nat → Nat → Nat → Prop := fun t i k => i = 0 ∧ (t = 61 ∨ (t = 7 ∧ k = 3))
theorem w8_us {x : Int} {s : Nat} (hs : s = 24 ∨ s = 16 ∨ s = 8 ∨ s = 0) : w8 (b_us x (s : Int)) = w8 (byt x s : Nat) := by
  unfold b_us byt w8 w32
  rcases hs with rfl | rfl | rfl | rfl
  · show ((x % 4294967296 / 16777216 + 2147483648) % 4294967296 - 2147483648 + 128) % 256 - 128 = (((x / 16777216 % 256).toNat : Int) + 128) % 256 - 128
    omega
  · show ((x % 4294967296 / 65536 + 2147483648) % 4294967296 - 2147483648 + 128) % 256 - 128 = (((x / 65536 % 256).toNat : Int) + 128) % 256 - 128
    omega
  · show ((x % 4294967296 / 256 + 2147483648) % 4294967296 - 2147483648 + 128) % 256 - 128 = (((x / 256 % 256).toNat : Int) + 128) % 256 - 128
    omega
  · show ((x % 4294967296 / 1 + 2147483648) % 4294967296 - 2147483648 + 128) % 256 - 128 = (((x / 1 % 256).toNat : Int) + 128) % 256 - 128
    omega
theorem getD_snoc {T : List Nat} {x k : Nat} (h : k ≤ T.length) : (T ++ [x]).getD k 0 = if k = T.length then x else T.getD k 0 := by
  rw [List.getD_eq_getElem?_getD]
  by_cases e : k = T.length
  · rw [if_pos e, List.getElem?_append_right (by omega), e, Nat.sub_self]
    rfl
  · rw [if_neg e, List.getElem?_append_left (by omega), List.getD_eq_getElem?_getD]
theorem s_C_put1 {X : Nat × (Nat → Int)} {d : Nat} {D : DD} {x : Int} {s : Nat} {T : List Nat} (hs : s = 24 ∨ s = 16 ∨ s = 8 ∨ s = 0) (hT : T.length < 500) (h : TP D T) : ∃ D', at_ X d cd_Reader_putOnTape 3 [vR 7 0, vI x, vI (s : Int)] [] (hp D) = at_ X d cd_Reader_putOnTape 3 [vR 7 0, vI x, vI ((s : Int) - 8)] [] (hp D') ∧ TP D' (T ++ [byt x s]) ∧ fr pT D D' := by
  have hb : -128 ≤ w8 (b_us x (s : Int)) ∧ w8 (b_us x (s : Int)) < 128 := by unfold w8; omega
  rw [b_Reader_putOnTape_3, if_neg (by omega), h.1, if_neg (by omega), if_pos ⟨by omega, hb⟩, b_Reader_putOnTape_42, u3_t (by omega), h.1, Int.toNat_natCast, zb_s (by omega), zb_w (by omega) (by omega)]
  refine ⟨_, rfl, ⟨?_, fun k hk => ?_⟩, ((fr.rf D).u ⟨rfl, Or.inl rfl⟩).u ⟨rfl, Or.inr ⟨rfl, rfl⟩⟩⟩
  · rw [u3_eq, List.length_append]
    rfl
  · rw [List.length_append] at hk
    have hk : k < T.length + 1 := hk
    rw [u3_t (by omega), u3_a, getD_snoc (by omega)]
    by_cases e : k = T.length
    · rw [if_pos ⟨rfl, rfl, e⟩, if_pos e, w8_us hs]
    · rw [if_neg (fun z => e z.2.2), if_neg e]
      exact h.2 k (by omega)
theorem s_C_tape {X : Nat × (Nat → Int)} {d : Nat} {D : DD} {x : Int} {T : List Nat} (hd : 1 ≤ d) (hT : T.length + 4 ≤ 500) (h : TP D T) : ∃ D', ev X d m_Reader_putOnTape [vR 7 0, vI x] (hp D) = some (none, hp D') ∧ TP D' (T ++ b4 x) ∧ fr pT D D' := by
  obtain ⟨d, rfl⟩ : ∃ e, d = e + 1 := ⟨d - 1, by omega⟩
  rw [e_Reader_putOnTape, b_Reader_putOnTape_0]
  obtain ⟨D1, a1, a2, a3⟩ := s_C_put1 (X := X) (d := d) (D := D) (x := x) (s := 24) (T := T) (by omega) (by omega) h
  obtain ⟨D2, b1, b2, b3⟩ := s_C_put1 (X := X) (d := d) (D := D1) (x := x) (s := 16) (T := T ++ [byt x 24]) (by omega) (by simp; omega) a2
  obtain ⟨D3, c1, c2, c3⟩ := s_C_put1 (X := X) (d := d) (D := D2) (x := x) (s := 8) (T := T ++ [byt x 24] ++ [byt x 16]) (by omega) (by simp; omega) b2
  obtain ⟨D4, d1, d2, d3⟩ := s_C_put1 (X := X) (d := d) (D := D3) (x := x) (s := 0) (T := T ++ [byt x 24] ++ [byt x 16] ++ [byt x 8]) (by omega) (by simp; omega) c2
  have a1 : at_ X d cd_Reader_putOnTape 3 [vR 7 0, vI x, vI 24] [] (hp D) = at_ X d cd_Reader_putOnTape 3 [vR 7 0, vI x, vI 16] [] (hp D1) := a1
  have b1 : at_ X d cd_Reader_putOnTape 3 [vR 7 0, vI x, vI 16] [] (hp D1) = at_ X d cd_Reader_putOnTape 3 [vR 7 0, vI x, vI 8] [] (hp D2) := b1
  have c1 : at_ X d cd_Reader_putOnTape 3 [vR 7 0, vI x, vI 8] [] (hp D2) = at_ X d cd_Reader_putOnTape 3 [vR 7 0, vI x, vI 0] [] (hp D3) := c1
  have d1 : at_ X d cd_Reader_putOnTape 3 [vR 7 0, vI x, vI 0] [] (hp D3) = at_ X d cd_Reader_putOnTape 3 [vR 7 0, vI x, vI (-8)] [] (hp D4) := d1
  refine ⟨D4, ?_, ?_, ((a3.tr b3).tr c3).tr d3⟩
  · rw [a1, b1, c1, d1, b_Reader_putOnTape_3, if_pos (by omega)]
  · have : T ++ b4 x = T ++ [byt x 24] ++ [byt x 16] ++ [byt x 8] ++ [byt x 0] := by
      unfold b4
      simp only [List.append_assoc, List.cons_append, List.nil_append]
    rw [this]
    exact d2
theorem b4_len (x : Int) : (b4 x).length = 4 := rfl
theorem C_feed {X : Nat × (Nat → Int)} {d : Nat} {D : DD} {S : St} {a b c e f : Int} (hd : 8 ≤ d) (hS : SOK S) (hC : CH D S) : cRes X d m_N_feed [vI a, vI b, vI c, vI e, vI f] D (f_feed S a b c e f) := by
  obtain ⟨d, rfl⟩ : ∃ e, d = e + 1 := ⟨d - 1, by omega⟩
  have h5 := hS.2.2.2.1.1
  obtain ⟨q1, q2, q3, q4⟩ := hC.2.2.2
  unfold cRes f_feed
  rw [e_N_feed, b_N_feed_0, q3, zb_w (by omega) (by omega)]
  by_cases h : (sT S).length + 20 ≤ 500
  · obtain ⟨D1, g1, g2, g3⟩ := s_C_tape (X := X) (d := d) (D := D) (x := a) (T := sT S) (by omega) (by omega) ⟨q3, q4⟩
    obtain ⟨D2, h1, h2, h3⟩ := s_C_tape (X := X) (d := d) (D := D1) (x := b) (by omega) (by rw [List.length_append, b4_len]; omega) g2
    obtain ⟨D3, i1, i2, i3⟩ := s_C_tape (X := X) (d := d) (D := D2) (x := c) (by omega) (by rw [List.length_append, List.length_append, b4_len, b4_len]; omega) h2
    obtain ⟨D4, j1, j2, j3⟩ := s_C_tape (X := X) (d := d) (D := D3) (x := e) (by omega) (by rw [List.length_append, List.length_append, List.length_append, b4_len, b4_len, b4_len]; omega) i2
    obtain ⟨D5, k1, k2, k3⟩ := s_C_tape (X := X) (d := d) (D := D4) (x := f) (by omega) (by rw [List.length_append, List.length_append, List.length_append, List.length_append, b4_len, b4_len, b4_len, b4_len]; omega) j2
    rw [if_pos (by omega), if_pos h, g1]
    simp only [ab_cv]
    rw [b_N_feed_27, h1]
    simp only [ab_cv]
    rw [b_N_feed_35, i1]
    simp only [ab_cv]
    rw [b_N_feed_43, j1]
    simp only [ab_cv]
    rw [b_N_feed_52, k1]
    simp only [ab_cv]
    have hT : sT S ++ fd a b c e f = sT S ++ b4 a ++ b4 b ++ b4 c ++ b4 e ++ b4 f := by
      unfold fd
      simp only [List.append_assoc]
    rw [← hT] at k2
    have hf := (((g3.tr h3).tr i3).tr j3).tr k3
    have hlen : (sT S ++ fd a b c e f).length = (sT S).length + 20 := by rw [List.length_append]; rfl
    rw [b_N_feed_61, k2.1, hlen]
    have hn : ∀ t i k, ¬ pT t i k → D5 t i k = D t i k := hf
    obtain ⟨r1, r2, r3, r4⟩ := hC
    refine ⟨D5, rfl, ⟨r1.on hS.1 ?_ ?_ ?_ ?_ ?_, fun i hi => (r2 i hi).on hi (hS.2.1 i hi) fun t j k _ _ n7 _ _ n61 _ _ _ _ => hn t j k (by unfold pT; omega), fun r hr => (r3 r hr).on fun t k ht => hn t r k (by unfold pT; omega), ?_⟩, hf.mo fun t i k z => by unfold pT at z; unfold cY; omega⟩
    · exact fun t k ht => hn t _ k (by unfold pT; omega)
    · exact hn 2 0 1 (by unfold pT; omega)
    · exact fun t j k ht h1 h2 => hn t j k (by unfold pT; omega)
    · exact hn 6 0 0 (by unfold pT; omega)
    · exact fun t k ht => hn t _ k (by unfold pT; omega)
    · exact ⟨(hn 7 0 1 (by unfold pT; omega)).trans q1, (hn 7 0 2 (by unfold pT; omega)).trans q2, k2.1, k2.2⟩
  · rw [if_neg (by omega), if_neg h]
    exact ⟨D, rfl, hC, fr.rf D⟩
theorem fd_get {a b c d e : Int} {k : Nat} (hk : k < 20) : (fd a b c d e).getD k 0 = byt (if k < 4 then a else if k < 8 then b else if k < 12 then c else if k < 16 then d else e) (24 - 8 * (k % 4)) := by
  have : k = 0 ∨ k = 1 ∨ k = 2 ∨ k = 3 ∨ k = 4 ∨ k = 5 ∨ k = 6 ∨ k = 7 ∨ k = 8 ∨ k = 9 ∨ k = 10 ∨ k = 11 ∨ k = 12 ∨ k = 13 ∨ k = 14 ∨ k = 15 ∨ k = 16 ∨ k = 17 ∨ k = 18 ∨ k = 19 := by omega
  rcases this with rfl | rfl | rfl | rfl | rfl | rfl | rfl | rfl | rfl | rfl | rfl | rfl | rfl | rfl | rfl | rfl | rfl | rfl | rfl | rfl <;> rfl
theorem an_byt {x : Int} {k : Nat} : b_an (b_sr x (w32 (24 - w32 (8 * w32 (Int.tmod (k : Int) 4))))) 255 = (byt x (24 - 8 * (k % 4)) : Nat) := by
  have e : Int.tmod (k : Int) 4 = ((k % 4 : Nat) : Int) := rfl
  rw [e, zb_w (n := ((k % 4 : Nat) : Int)) (by omega) (by omega), zb_w (n := 8 * ((k % 4 : Nat) : Int)) (by omega) (by omega), zb_w (by omega) (by omega), zb_and255]
  have e2 : (24 : Int) - 8 * ((k % 4 : Nat) : Int) = ((24 - 8 * (k % 4) : Nat) : Int) := by omega
  have e3 : (((24 - 8 * (k % 4) : Nat) : Int) % 32).toNat = 24 - 8 * (k % 4) := by omega
  unfold b_sr byt
  rw [e2, e3]
  omega
def TQ (D : DD) (T : List Nat) : Prop := D 12 0 5 = (T.length : Int) ∧ ∀ k, k < T.length → D 24 0 k = ((T.getD k 0 : Nat) : Int)
def qT : Nat → Nat → Nat → Prop := fun t i k => i = 0 ∧ (t = 24 ∨ (t = 12 ∧ k = 5))
theorem M_feed {X : Nat × (Nat → Int)} {d : Nat} {D : DD} {S : St} {a b c e f : Int} (hd : 8 ≤ d) (hS : SOK S) (hM : MH D S) : mRes X d m_M_feed [vI a, vI b, vI c, vI e, vI f] D (f_feed S a b c e f) := by
  obtain ⟨d, rfl⟩ : ∃ e, d = e + 1 := ⟨d - 1, by omega⟩
  have h5 := hS.2.2.2.1.1
  have hM := hM.th hS
  have hT := th_mY D
  unfold mRes f_feed
  rw [e_M_feed, b_M_feed_0]
  generalize u3 D 12 0 0 0 = D0 at hM hT ⊢
  obtain ⟨q1, q2, q3, q4⟩ := hM.2.2.2
  rw [q3, zb_w (by omega) (by omega)]
  by_cases h : (sT S).length + 20 ≤ 500
  · rw [if_pos (by omega), if_pos h]
    have key : ∀ (m k : Nat) (D1 : DD) (T : List Nat) (v7 : ab_V), k + m = 20 → T.length = (sT S).length + k → TQ D1 T → fr qT D0 D1 → ∃ D', at_ X d cd_M_feed 24 [vR 12 0, vI a, vI b, vI c, vI e, vI f, vI (k : Int), v7] [] (hp D1) = some (some (vI (((sT S).length + 20 : Nat) : Int)), hp D') ∧ TQ D' (T ++ (fd a b c e f).drop k) ∧ fr qT D0 D' := by
      intro m
      induction m with
      | zero =>
        intro k D1 T v7 hk hl ht hf
        have e20 : k = 20 := by omega
        subst e20
        rw [b_M_feed_24, if_pos (by omega), ht.1, hl]
        refine ⟨D1, rfl, ?_, hf⟩
        rw [show (fd a b c e f).drop 20 = [] from rfl, List.append_nil]
        exact ht
      | succ m ih =>
        intro k D1 T v7 hk hl ht hf
        have hx : (fd a b c e f).drop k = (fd a b c e f).getD k 0 :: (fd a b c e f).drop (k + 1) := drop_gN (show k < 20 by omega)
        rw [hx, fd_get (by omega)]
        have go : ∀ x : Int, ∃ D', at_ X d cd_M_feed 77 [vR 12 0, vI a, vI b, vI c, vI e, vI f, vI (k : Int), vU] [vI x] (hp D1) = some (some (vI (((sT S).length + 20 : Nat) : Int)), hp D') ∧ TQ D' (T ++ byt x (24 - 8 * (k % 4)) :: (fd a b c e f).drop (k + 1)) ∧ fr qT D0 D' := by
          intro x
          rw [b_M_feed_77, ht.1, if_pos (by omega), an_byt, u3_t (by omega), ht.1, Int.toNat_natCast, zb_s (by omega), b_M_feed_115, zb_s (by omega)]
          obtain ⟨D', g1, g2, g3⟩ := ih (k + 1) (u3 (u3 D1 24 0 T.length (byt x (24 - 8 * (k % 4)) : Nat)) 12 0 5 ((T.length + 1 : Nat) : Int)) (T ++ [byt x (24 - 8 * (k % 4))]) (vI x) (by omega) (by rw [List.length_append, hl]; rfl) ⟨by rw [u3_eq, List.length_append]; rfl, fun j hj => by
            rw [List.length_append] at hj
            have hj : j < T.length + 1 := hj
            rw [u3_t (by omega), u3_a, getD_snoc (by omega)]
            by_cases w : j = T.length
            · rw [if_pos ⟨rfl, rfl, w⟩, if_pos w]
            · rw [if_neg (fun z => w z.2.2), if_neg w]
              exact ht.2 j (by omega)⟩ ((hf.u ⟨rfl, Or.inl rfl⟩).u ⟨rfl, Or.inr ⟨rfl, rfl⟩⟩)
          rw [List.append_assoc] at g2
          exact ⟨D', g1, g2, g3⟩
        rw [b_M_feed_24, if_neg (by omega)]
        by_cases k4 : k < 4
        · rw [if_neg (by omega), if_pos k4]; exact go a
        · rw [if_pos (by omega), if_neg k4]
          by_cases k8 : k < 8
          · rw [if_neg (by omega), if_pos k8]; exact go b
          · rw [if_pos (by omega), if_neg k8]
            by_cases k12 : k < 12
            · rw [if_neg (by omega), if_pos k12]; exact go c
            · rw [if_pos (by omega), if_neg k12]
              by_cases k16 : k < 16
              · rw [if_neg (by omega), if_pos k16]; exact go e
              · rw [if_pos (by omega), if_neg k16]; exact go f
    obtain ⟨D', g1, g2, g3⟩ := key 20 0 D0 (sT S) vU (by omega) (by omega) ⟨q3, q4⟩ (fr.rf D0)
    rw [List.drop_zero] at g2
    have hn : ∀ t i k, ¬ qT t i k → D' t i k = D0 t i k := g3
    obtain ⟨r1, r2, r3, r4⟩ := hM
    refine ⟨D', g1, ⟨r1.on hS.1 (fun k _ _ _ => hn 22 0 k (by unfold qT; omega)), fun i hi => (r2 i hi).on (hS.2.1 i hi) (hn _ _ _ (by unfold qT; omega)) (fun k k1 k2 => hn _ _ _ (by unfold qT; omega)), fun r hr => (r3 r hr).on fun t k ht => hn _ _ _ (by unfold qT; omega), ⟨(hn 12 0 13 (by unfold qT; omega)).trans q1, (hn 12 0 14 (by unfold qT; omega)).trans q2, g2.1, g2.2⟩⟩, hT.tr (g3.mo fun t i k z => by unfold qT at z; unfold mY; omega)⟩
  · rw [if_neg (by omega), if_neg h]
    exact ⟨D0, rfl, hM, hT⟩
end
