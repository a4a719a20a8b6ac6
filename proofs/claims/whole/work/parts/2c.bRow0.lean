section
set_option maxRecDepth 100000 in
theorem b_Row_begin_0 (X : Nat × (Nat → Int)) (d : Nat) (D : Nat → Nat → Nat → Int) (q0 : Nat) (p1 : Int) (p2 : Int) : at_ X d cd_Row_begin 0 [vR 8 q0, vI p1, vI p2] [] (hp D) = ab_cv (ev X d m_Arrays_fill_J [vR 62 q0, vL 0] (hp (u3 (u3 (u3 D 8 q0 3 p1) 8 q0 1 p2) 8 q0 2 1))) fun h9 => at_ X d cd_Row_begin 23 [vR 8 q0, vI p1, vI p2] [] h9 := (at_rn X d _ [23] 90 0 _ _ _ rfl).trans rfl
set_option maxRecDepth 100000 in
theorem b_Row_begin_23 (X : Nat × (Nat → Int)) (d : Nat) (D : Nat → Nat → Nat → Int) (q0 : Nat) (l1 : Int) (l2 : Int) : at_ X d cd_Row_begin 23 [vR 8 q0, vI l1, vI l2] [] (hp D) = some (none, hp D) := (at_rn X d _ [23] 90 23 _ _ _ rfl).trans rfl
set_option maxRecDepth 100000 in
theorem e_Row_begin (X : Nat × (Nat → Int)) (d : Nat) (D : Nat → Nat → Nat → Int) (q0 : Nat) (p1 : Int) (p2 : Int) : ev X (d + 1) m_Row_begin [vR 8 q0, vI p1, vI p2] (hp D) = at_ X d cd_Row_begin 0 [vR 8 q0, vI p1, vI p2] [] (hp D) := ev_at X d _ _ _ rfl rfl rfl
set_option maxRecDepth 100000 in
theorem b_Row_put_0 (X : Nat × (Nat → Int)) (d : Nat) (D : Nat → Nat → Nat → Int) (q0 : Nat) (p1 : Int) (p2 : Int) : at_ X d cd_Row_put 0 [vR 8 q0, vI p1, vL p2, vU] [] (hp D) = ab_cl (ev X d m_Row_cut [vR 8 q0, vL p2] (hp D)) fun y9 h9 => at_ X d cd_Row_put 10 [vR 8 q0, vI p1, vL p2, vU] [vL y9, vI p1, vR 62 q0] h9 := (at_rn X d _ [10] 90 0 _ _ _ rfl).trans rfl
set_option maxRecDepth 100000 in
theorem b_Row_put_10 (X : Nat × (Nat → Int)) (d : Nat) (D : Nat → Nat → Nat → Int) (q0 : Nat) (l1 : Int) (l2 : Int) (s1 : Int) (s2 : Int) : at_ X d cd_Row_put 10 [vR 8 q0, vI l1, vL l2, vU] [vL s2, vI s1, vR 62 q0] (hp D) = if (0 : Int) ≤ s1 ∧ s1 < 40 then if (0 : Int) ≤ l1 ∧ l1 < 40 then some (some (vL ((u3 D 62 q0 (s1).toNat s2) 62 q0 (l1).toNat)), hp (u3 D 62 q0 (s1).toNat s2)) else none else none := (at_rn X d _ [10] 90 10 _ _ _ rfl).trans rfl
set_option maxRecDepth 100000 in
theorem e_Row_put (X : Nat × (Nat → Int)) (d : Nat) (D : Nat → Nat → Nat → Int) (q0 : Nat) (p1 : Int) (p2 : Int) : ev X (d + 1) m_Row_put [vR 8 q0, vI p1, vL p2] (hp D) = at_ X d cd_Row_put 0 [vR 8 q0, vI p1, vL p2, vU] [] (hp D) := ev_at X d _ _ _ rfl rfl rfl
set_option maxRecDepth 100000 in
theorem b_Row_cut_0 (X : Nat × (Nat → Int)) (d : Nat) (D : Nat → Nat → Nat → Int) (q0 : Nat) (p1 : Int) : at_ X d cd_Row_cut 0 [vR 8 q0, vL p1, vU] [] (hp D) = if (D 8 q0 3) = 0 then some (some (vL (w8 (w32 p1))), hp D) else if (D 8 q0 3) = 1 then some (some (vL (w16 (w32 p1))), hp D) else if (D 8 q0 3) = 2 then some (some (vL (w32 p1)), hp D) else some (some (vL p1), hp D) := (at_rn X d _ [] 90 0 _ _ _ rfl).trans rfl
set_option maxRecDepth 100000 in
theorem e_Row_cut (X : Nat × (Nat → Int)) (d : Nat) (D : Nat → Nat → Nat → Int) (q0 : Nat) (p1 : Int) : ev X (d + 1) m_Row_cut [vR 8 q0, vL p1] (hp D) = at_ X d cd_Row_cut 0 [vR 8 q0, vL p1, vU] [] (hp D) := ev_at X d _ _ _ rfl rfl rfl
end
