/-! the heap: reads behind writes, frames; the JDK's own three methods -/
section
abbrev DD : Type := Nat → Nat → Nat → Int
theorem u3_eq (D : DD) (t i k : Nat) (v : Int) : u3 D t i k v t i k = v := by unfold u3; rw [if_pos ⟨rfl, rfl, rfl⟩]
theorem u3_t {D : DD} {t i k t' i' k' : Nat} {v : Int} (h : t' ≠ t) : u3 D t i k v t' i' k' = D t' i' k' := by unfold u3; rw [if_neg (fun e => h e.1)]
theorem u3_i {D : DD} {t i k t' i' k' : Nat} {v : Int} (h : i' ≠ i) : u3 D t i k v t' i' k' = D t' i' k' := by unfold u3; rw [if_neg (fun e => h e.2.1)]
theorem u3_k {D : DD} {t i k t' i' k' : Nat} {v : Int} (h : k' ≠ k) : u3 D t i k v t' i' k' = D t' i' k' := by unfold u3; rw [if_neg (fun e => h e.2.2)]
/-- nothing is changed but what P names -/
def fr (P : Nat → Nat → Nat → Prop) (D D' : DD) : Prop := ∀ t i k, ¬ P t i k → D' t i k = D t i k
theorem fr.rf {P : Nat → Nat → Nat → Prop} (D : DD) : fr P D D := fun _ _ _ _ => rfl
theorem fr.tr {P : Nat → Nat → Nat → Prop} {D D' D'' : DD} (h : fr P D D') (g : fr P D' D'') : fr P D D'' := fun t i k n => (g t i k n).trans (h t i k n)
theorem fr.mo {P Q : Nat → Nat → Nat → Prop} {D D' : DD} (h : fr P D D') (g : ∀ t i k, P t i k → Q t i k) : fr Q D D' := fun t i k n => h t i k (fun p => n (g t i k p))
theorem fr.u {P : Nat → Nat → Nat → Prop} {D D' : DD} (h : fr P D D') {t i k : Nat} {v : Int} (p : P t i k) : fr P D (u3 D' t i k v) := by
  intro t' i' k' n
  unfold u3
  rw [if_neg]
  · exact h t' i' k' n
  · rintro ⟨rfl, rfl, rfl⟩
    exact n p
theorem zt_sub {a b : Int} (hb : 0 ≤ b) : (a - b).toNat = a.toNat - b.toNat := by omega
theorem tn {x : Int} {n : Nat} (h : x = (n : Int)) : x.toNat = n := by omega
theorem cmp_lt {x y : Int} : d_cmp x y < 0 ↔ x < y := by unfold d_cmp; split <;> (try split) <;> omega
theorem cmp_ge {x y : Int} : 0 ≤ d_cmp x y ↔ y ≤ x := by unfold d_cmp; split <;> (try split) <;> omega
theorem cmp_gt {x y : Int} : 0 < d_cmp x y ↔ y < x := by unfold d_cmp; split <;> (try split) <;> omega
theorem cmp_le {x y : Int} : d_cmp x y ≤ 0 ↔ x ≤ y := by unfold d_cmp; split <;> (try split) <;> omega
theorem cmp_ne {x y : Int} : d_cmp x y ≠ 0 ↔ x ≠ y := by unfold d_cmp; split <;> (try split) <;> omega
theorem cmp_eq {x y : Int} : d_cmp x y = 0 ↔ x = y := by unfold d_cmp; split <;> (try split) <;> omega
/-- a row filled with one number -/
def fil (D : DD) (T q n : Nat) (x : Int) : DD := fun t i k => if t = T ∧ i = q ∧ k < n then x else D t i k
theorem fill_gen {T q len : Nat} {x : Int} (F : Int → DD → Option ab_R) (hl : len < 2147483647) (hF : ∀ k D, F k D = if (len : Int) ≤ k then some (none, hp D) else if (0 : Int) ≤ k ∧ k < (len : Int) then F (w32 (k + 1)) (u3 D T q k.toNat x) else none) (D : DD) : F 0 D = some (none, hp (fil D T q len x)) := by
  have key : ∀ (m k : Nat) (D : DD), k + m = len → F (k : Int) D = some (none, hp (fun t i j => if t = T ∧ i = q ∧ k ≤ j ∧ j < len then x else D t i j)) := by
    intro m
    induction m with
    | zero =>
      intro k D h
      rw [hF, if_pos (by omega)]
      congr 3
      funext t i j
      rw [if_neg (by omega)]
    | succ m ih =>
      intro k D h
      rw [hF, if_neg (by omega), if_pos (by omega), zb_s (by omega), ih (k + 1) _ (by omega), Int.toNat_natCast]
      congr 3
      funext t i j
      unfold u3
      by_cases h1 : t = T ∧ i = q ∧ j = k
      · obtain ⟨rfl, rfl, rfl⟩ := h1
        rw [if_neg (by omega), if_pos ⟨rfl, rfl, rfl⟩, if_pos ⟨rfl, rfl, by omega, by omega⟩]
      · rw [if_neg h1]
        by_cases h2 : t = T ∧ i = q ∧ k + 1 ≤ j ∧ j < len
        · rw [if_pos h2, if_pos ⟨h2.1, h2.2.1, by omega, by omega⟩]
        · rw [if_neg h2, if_neg (fun e => h2 ⟨e.1, e.2.1, by
            have : j ≠ k := fun z => h1 ⟨e.1, e.2.1, z⟩
            omega, e.2.2.2⟩)]
  have := key len 0 D (by omega)
  rw [show ((0 : Nat) : Int) = 0 from rfl] at this
  rw [this]
  congr 3
  funext t i j
  unfold fil
  simp only [Nat.zero_le, true_and]

set_option maxRecDepth 100000 in
theorem s_fill_47 {X : Nat × (Nat → Int)} {d : Nat} {D : DD} {q : Nat} {x : Int} (hd : 1 ≤ d) : ev X d m_Arrays_fill_I [vR 47 q, vI x] (hp D) = some (none, hp (fil D 47 q 16 x)) := by
  obtain ⟨d, rfl⟩ : ∃ e, d = e + 1 := ⟨d - 1, by omega⟩
  have h0 : ev X (d + 1) m_Arrays_fill_I [vR 47 q, vI x] (hp D) = at_ X d cd_Arrays_fill_I 0 [vR 47 q, vI x, vU, vU] [] (hp D) := ev_at X d _ _ _ rfl rfl rfl
  have h1 : at_ X d cd_Arrays_fill_I 0 [vR 47 q, vI x, vU, vU] [] (hp D) = at_ X d cd_Arrays_fill_I 5 [vR 47 q, vI x, vI 0, vI 16] [] (hp D) := (at_rn X d _ [5] 90 0 _ _ _ rfl).trans rfl
  rw [h0, h1]
  exact fill_gen (T := 47) (q := q) (len := 16) (x := x) (fun k D => at_ X d cd_Arrays_fill_I 5 [vR 47 q, vI x, vI k, vI 16] [] (hp D)) (by omega) (fun k D => (at_rn X d _ [5] 90 5 _ _ _ rfl).trans rfl) D
set_option maxRecDepth 100000 in
theorem s_fill_51 {X : Nat × (Nat → Int)} {d : Nat} {D : DD} {q : Nat} {x : Int} (hd : 1 ≤ d) : ev X d m_Arrays_fill_I [vR 51 q, vI x] (hp D) = some (none, hp (fil D 51 q 16 x)) := by
  obtain ⟨d, rfl⟩ : ∃ e, d = e + 1 := ⟨d - 1, by omega⟩
  have h0 : ev X (d + 1) m_Arrays_fill_I [vR 51 q, vI x] (hp D) = at_ X d cd_Arrays_fill_I 0 [vR 51 q, vI x, vU, vU] [] (hp D) := ev_at X d _ _ _ rfl rfl rfl
  have h1 : at_ X d cd_Arrays_fill_I 0 [vR 51 q, vI x, vU, vU] [] (hp D) = at_ X d cd_Arrays_fill_I 5 [vR 51 q, vI x, vI 0, vI 16] [] (hp D) := (at_rn X d _ [5] 90 0 _ _ _ rfl).trans rfl
  rw [h0, h1]
  exact fill_gen (T := 51) (q := q) (len := 16) (x := x) (fun k D => at_ X d cd_Arrays_fill_I 5 [vR 51 q, vI x, vI k, vI 16] [] (hp D)) (by omega) (fun k D => (at_rn X d _ [5] 90 5 _ _ _ rfl).trans rfl) D
set_option maxRecDepth 100000 in
theorem s_fill_52 {X : Nat × (Nat → Int)} {d : Nat} {D : DD} {q : Nat} {x : Int} (hd : 1 ≤ d) : ev X d m_Arrays_fill_I [vR 52 q, vI x] (hp D) = some (none, hp (fil D 52 q 16 x)) := by
  obtain ⟨d, rfl⟩ : ∃ e, d = e + 1 := ⟨d - 1, by omega⟩
  have h0 : ev X (d + 1) m_Arrays_fill_I [vR 52 q, vI x] (hp D) = at_ X d cd_Arrays_fill_I 0 [vR 52 q, vI x, vU, vU] [] (hp D) := ev_at X d _ _ _ rfl rfl rfl
  have h1 : at_ X d cd_Arrays_fill_I 0 [vR 52 q, vI x, vU, vU] [] (hp D) = at_ X d cd_Arrays_fill_I 5 [vR 52 q, vI x, vI 0, vI 16] [] (hp D) := (at_rn X d _ [5] 90 0 _ _ _ rfl).trans rfl
  rw [h0, h1]
  exact fill_gen (T := 52) (q := q) (len := 16) (x := x) (fun k D => at_ X d cd_Arrays_fill_I 5 [vR 52 q, vI x, vI k, vI 16] [] (hp D)) (by omega) (fun k D => (at_rn X d _ [5] 90 5 _ _ _ rfl).trans rfl) D
set_option maxRecDepth 100000 in
theorem s_fill_53 {X : Nat × (Nat → Int)} {d : Nat} {D : DD} {q : Nat} {x : Int} (hd : 1 ≤ d) : ev X d m_Arrays_fill_I [vR 53 q, vI x] (hp D) = some (none, hp (fil D 53 q 16 x)) := by
  obtain ⟨d, rfl⟩ : ∃ e, d = e + 1 := ⟨d - 1, by omega⟩
  have h0 : ev X (d + 1) m_Arrays_fill_I [vR 53 q, vI x] (hp D) = at_ X d cd_Arrays_fill_I 0 [vR 53 q, vI x, vU, vU] [] (hp D) := ev_at X d _ _ _ rfl rfl rfl
  have h1 : at_ X d cd_Arrays_fill_I 0 [vR 53 q, vI x, vU, vU] [] (hp D) = at_ X d cd_Arrays_fill_I 5 [vR 53 q, vI x, vI 0, vI 16] [] (hp D) := (at_rn X d _ [5] 90 0 _ _ _ rfl).trans rfl
  rw [h0, h1]
  exact fill_gen (T := 53) (q := q) (len := 16) (x := x) (fun k D => at_ X d cd_Arrays_fill_I 5 [vR 53 q, vI x, vI k, vI 16] [] (hp D)) (by omega) (fun k D => (at_rn X d _ [5] 90 5 _ _ _ rfl).trans rfl) D
set_option maxRecDepth 100000 in
theorem s_fill_54 {X : Nat × (Nat → Int)} {d : Nat} {D : DD} {q : Nat} {x : Int} (hd : 1 ≤ d) : ev X d m_Arrays_fill_I [vR 54 q, vI x] (hp D) = some (none, hp (fil D 54 q 10 x)) := by
  obtain ⟨d, rfl⟩ : ∃ e, d = e + 1 := ⟨d - 1, by omega⟩
  have h0 : ev X (d + 1) m_Arrays_fill_I [vR 54 q, vI x] (hp D) = at_ X d cd_Arrays_fill_I 0 [vR 54 q, vI x, vU, vU] [] (hp D) := ev_at X d _ _ _ rfl rfl rfl
  have h1 : at_ X d cd_Arrays_fill_I 0 [vR 54 q, vI x, vU, vU] [] (hp D) = at_ X d cd_Arrays_fill_I 5 [vR 54 q, vI x, vI 0, vI 10] [] (hp D) := (at_rn X d _ [5] 90 0 _ _ _ rfl).trans rfl
  rw [h0, h1]
  exact fill_gen (T := 54) (q := q) (len := 10) (x := x) (fun k D => at_ X d cd_Arrays_fill_I 5 [vR 54 q, vI x, vI k, vI 10] [] (hp D)) (by omega) (fun k D => (at_rn X d _ [5] 90 5 _ _ _ rfl).trans rfl) D
set_option maxRecDepth 100000 in
theorem s_fill_62 {X : Nat × (Nat → Int)} {d : Nat} {D : DD} {q : Nat} {x : Int} (hd : 1 ≤ d) : ev X d m_Arrays_fill_J [vR 62 q, vL x] (hp D) = some (none, hp (fil D 62 q 40 x)) := by
  obtain ⟨d, rfl⟩ : ∃ e, d = e + 1 := ⟨d - 1, by omega⟩
  have h0 : ev X (d + 1) m_Arrays_fill_J [vR 62 q, vL x] (hp D) = at_ X d cd_Arrays_fill_J 0 [vR 62 q, vL x, vU, vU, vU] [] (hp D) := ev_at X d _ _ _ rfl rfl rfl
  have h1 : at_ X d cd_Arrays_fill_J 0 [vR 62 q, vL x, vU, vU, vU] [] (hp D) = at_ X d cd_Arrays_fill_J 6 [vR 62 q, vL x, vU, vI 0, vI 40] [] (hp D) := (at_rn X d _ [6] 90 0 _ _ _ rfl).trans rfl
  rw [h0, h1]
  exact fill_gen (T := 62) (q := q) (len := 40) (x := x) (fun k D => at_ X d cd_Arrays_fill_J 6 [vR 62 q, vL x, vU, vI k, vI 40] [] (hp D)) (by omega) (fun k D => (at_rn X d _ [6] 90 6 _ _ _ rfl).trans rfl) D
theorem bc_us {m k : Nat} (a : m < 2147483648) (b : k < 32) {y : Int} (hy : y = (k : Int)) : b_us (m : Int) y = ((m >>> k : Nat) : Int) := by subst hy; exact zb_us a b
theorem bc_an {m k : Nat} (a : m < 2147483648) (b : k < 2147483648) {y : Int} (hy : y = (k : Int)) : b_an (m : Int) y = ((m &&& k : Nat) : Int) := by subst hy; exact zb_an a b
theorem bc_sl (m k : Nat) : m >>> k ≤ m := by rw [Nat.shiftRight_eq_div_pow]; exact Nat.div_le_self _ _
theorem bcI1 {n : Nat} (h : n < 65536) : ∃ a : Nat, a < 65536 ∧ bc1 n = a ∧ w32 ((n : Int) - b_an (b_us n 1) 1431655765) = (a : Int) := by
  have w' := bc_sl n 1
  have w : (n >>> 1) &&& 1431655765 ≤ n >>> 1 := Nat.and_le_left
  rw [bc_us (k := 1) (by omega) (by omega) (by rfl), bc_an (k := 1431655765) (by omega) (by omega) (by rfl)]
  refine ⟨bc1 n, ?_, rfl, ?_⟩
  · unfold bc1; omega
  · unfold bc1
    generalize (n >>> 1 &&& 1431655765) = z at *
    rw [zb_w (by omega) (by omega)]
    omega
theorem bcI2 {n : Nat} (h : n < 65536) : ∃ a : Nat, a < 262144 ∧ bc2 n = a ∧ w32 (b_an (n : Int) 858993459 + b_an (b_us (n : Int) 2) 858993459) = (a : Int) := by
  have w' := bc_sl n 2
  have w : (n >>> 2) &&& 858993459 ≤ n >>> 2 := Nat.and_le_left
  have w2 : n &&& 858993459 ≤ n := Nat.and_le_left
  rw [bc_us (k := 2) (by omega) (by omega) (by rfl), bc_an (k := 858993459) (by omega) (by omega) (by rfl), bc_an (k := 858993459) (by omega) (by omega) (by rfl)]
  refine ⟨bc2 n, ?_, rfl, ?_⟩
  · unfold bc2; omega
  · unfold bc2
    generalize (n >>> 2 &&& 858993459) = z at *
    generalize (n &&& 858993459) = y at *
    rw [zb_w (by omega) (by omega)]
    omega
theorem bcI3 {n : Nat} (h : n < 262144) : ∃ a : Nat, a < 1048576 ∧ bc3 n = a ∧ b_an (w32 ((n : Int) + b_us (n : Int) 4)) 252645135 = (a : Int) := by
  have w' := bc_sl n 4
  rw [bc_us (k := 4) (by omega) (by omega) (by rfl)]
  have e : w32 ((n : Int) + ((n >>> 4 : Nat) : Int)) = ((n + n >>> 4 : Nat) : Int) := by
    generalize n >>> 4 = z at *
    rw [zb_w (by omega) (by omega)]
    omega
  have w : (n + n >>> 4) &&& 252645135 ≤ n + n >>> 4 := Nat.and_le_left
  rw [e, bc_an (k := 252645135) (by omega) (by omega) (by rfl)]
  refine ⟨bc3 n, ?_, rfl, rfl⟩
  unfold bc3; omega
theorem bcI4 {n : Nat} (h : n < 1048576) : ∃ a : Nat, a < 4194304 ∧ bc4 n = a ∧ w32 ((n : Int) + b_us (n : Int) 8) = (a : Int) := by
  have w' := bc_sl n 8
  rw [bc_us (k := 8) (by omega) (by omega) (by rfl)]
  refine ⟨bc4 n, ?_, rfl, ?_⟩
  · unfold bc4; omega
  · unfold bc4
    generalize n >>> 8 = z at *
    rw [zb_w (by omega) (by omega)]
    omega
theorem bcI5 {n : Nat} (h : n < 4194304) : ∃ a : Nat, a < 16777216 ∧ bc5 n = a ∧ w32 ((n : Int) + b_us (n : Int) 16) = (a : Int) := by
  have w' := bc_sl n 16
  rw [bc_us (k := 16) (by omega) (by omega) (by rfl)]
  refine ⟨bc5 n, ?_, rfl, ?_⟩
  · unfold bc5; omega
  · unfold bc5
    generalize n >>> 16 = z at *
    rw [zb_w (by omega) (by omega)]
    omega
theorem bcI {n : Nat} (hn : n < 65536) : ∃ x1 x2 x3 x4 x5 : Int, w32 ((n : Int) - b_an (b_us n 1) 1431655765) = x1 ∧ w32 (b_an x1 858993459 + b_an (b_us x1 2) 858993459) = x2 ∧ b_an (w32 (x2 + b_us x2 4)) 252645135 = x3 ∧ w32 (x3 + b_us x3 8) = x4 ∧ w32 (x4 + b_us x4 16) = x5 ∧ b_an x5 63 = (pc n : Int) := by
  obtain ⟨a, a1, a2, a3⟩ := bcI1 hn
  obtain ⟨b, b1, b2, b3⟩ := bcI2 a1
  obtain ⟨c, c1, c2, c3⟩ := bcI3 b1
  obtain ⟨e, e1, e2, e3⟩ := bcI4 c1
  obtain ⟨f, f1, f2, f3⟩ := bcI5 e1
  refine ⟨a, b, c, e, f, a3, b3, c3, e3, f3, ?_⟩
  have h := bcN_pc hn
  unfold bcN at h
  rw [a2, b2, c2, e2, f2] at h
  rw [bc_an (k := 63) (Nat.lt_trans f1 (by decide)) (by decide) (by rfl), h]
set_option maxRecDepth 100000 in
theorem s_bitCount {X : Nat × (Nat → Int)} {d : Nat} {D : DD} {n : Nat} (hd : 1 ≤ d) (hn : n < 65536) : ev X d m_Integer_bitCount [vI (n : Int)] (hp D) = some (some (vI (pc n : Int)), hp D) := by
  obtain ⟨d, rfl⟩ : ∃ e, d = e + 1 := ⟨d - 1, by omega⟩
  have h0 : ∀ x : Int, ev X (d + 1) m_Integer_bitCount [vI x] (hp D) = at_ X d cd_Integer_bitCount 0 [vI x] [] (hp D) := fun x => ev_at X d _ _ _ rfl rfl rfl
  have h1 : ∀ x : Int, at_ X d cd_Integer_bitCount 0 [vI x] [] (hp D) = at_ X d cd_Integer_bitCount 10 [vI (w32 (x - b_an (b_us x 1) 1431655765))] [] (hp D) := fun x => (at_rn X d _ [10, 24, 34, 41, 48] 90 0 _ _ _ rfl).trans rfl
  have h2 : ∀ x : Int, at_ X d cd_Integer_bitCount 10 [vI x] [] (hp D) = at_ X d cd_Integer_bitCount 24 [vI (w32 (b_an x 858993459 + b_an (b_us x 2) 858993459))] [] (hp D) := fun x => (at_rn X d _ [10, 24, 34, 41, 48] 90 10 _ _ _ rfl).trans rfl
  have h3 : ∀ x : Int, at_ X d cd_Integer_bitCount 24 [vI x] [] (hp D) = at_ X d cd_Integer_bitCount 34 [vI (b_an (w32 (x + b_us x 4)) 252645135)] [] (hp D) := fun x => (at_rn X d _ [10, 24, 34, 41, 48] 90 24 _ _ _ rfl).trans rfl
  have h4 : ∀ x : Int, at_ X d cd_Integer_bitCount 34 [vI x] [] (hp D) = at_ X d cd_Integer_bitCount 41 [vI (w32 (x + b_us x 8))] [] (hp D) := fun x => (at_rn X d _ [10, 24, 34, 41, 48] 90 34 _ _ _ rfl).trans rfl
  have h5 : ∀ x : Int, at_ X d cd_Integer_bitCount 41 [vI x] [] (hp D) = at_ X d cd_Integer_bitCount 48 [vI (w32 (x + b_us x 16))] [] (hp D) := fun x => (at_rn X d _ [10, 24, 34, 41, 48] 90 41 _ _ _ rfl).trans rfl
  have h6 : ∀ x : Int, at_ X d cd_Integer_bitCount 48 [vI x] [] (hp D) = some (some (vI (b_an x 63)), hp D) := fun x => (at_rn X d _ [10, 24, 34, 41, 48] 90 48 _ _ _ rfl).trans rfl
  obtain ⟨x1, x2, x3, x4, x5, g1, g2, g3, g4, g5, g6⟩ := bcI hn
  rw [h0, h1, g1, h2, g2, h3, g3, h4, g4, h5, g5, h6, g6]
end
