section
set_option maxRecDepth 100000 in
theorem b_Lore_clear_0 (X : Nat × (Nat → Int)) (d : Nat) (D : Nat → Nat → Nat → Int) (q0 : Nat) : at_ X d cd_Lore_clear 0 [vR 5 q0] [] (hp D) = ab_cv (ev X d m_Arrays_fill_I [vR 51 q0, vI 0] (hp (u3 (u3 (u3 (u3 D 5 q0 0 0) 5 q0 1 9) 5 q0 2 0) 5 q0 3 0))) fun h9 => at_ X d cd_Lore_clear 29 [vR 5 q0] [] h9 := (at_rn X d _ [29, 37, 45, 53] 90 0 _ _ _ rfl).trans rfl
set_option maxRecDepth 100000 in
theorem b_Lore_clear_29 (X : Nat × (Nat → Int)) (d : Nat) (D : Nat → Nat → Nat → Int) (q0 : Nat) : at_ X d cd_Lore_clear 29 [vR 5 q0] [] (hp D) = ab_cv (ev X d m_Arrays_fill_I [vR 52 q0, vI 0] (hp D)) fun h9 => at_ X d cd_Lore_clear 37 [vR 5 q0] [] h9 := (at_rn X d _ [29, 37, 45, 53] 90 29 _ _ _ rfl).trans rfl
set_option maxRecDepth 100000 in
theorem b_Lore_clear_37 (X : Nat × (Nat → Int)) (d : Nat) (D : Nat → Nat → Nat → Int) (q0 : Nat) : at_ X d cd_Lore_clear 37 [vR 5 q0] [] (hp D) = ab_cv (ev X d m_Arrays_fill_I [vR 53 q0, vI 1] (hp D)) fun h9 => at_ X d cd_Lore_clear 45 [vR 5 q0] [] h9 := (at_rn X d _ [29, 37, 45, 53] 90 37 _ _ _ rfl).trans rfl
set_option maxRecDepth 100000 in
theorem b_Lore_clear_45 (X : Nat × (Nat → Int)) (d : Nat) (D : Nat → Nat → Nat → Int) (q0 : Nat) : at_ X d cd_Lore_clear 45 [vR 5 q0] [] (hp D) = ab_cv (ev X d m_Arrays_fill_I [vR 54 q0, vI 0] (hp D)) fun h9 => at_ X d cd_Lore_clear 53 [vR 5 q0] [] h9 := (at_rn X d _ [29, 37, 45, 53] 90 45 _ _ _ rfl).trans rfl
set_option maxRecDepth 100000 in
theorem b_Lore_clear_53 (X : Nat × (Nat → Int)) (d : Nat) (D : Nat → Nat → Nat → Int) (q0 : Nat) : at_ X d cd_Lore_clear 53 [vR 5 q0] [] (hp D) = some (none, hp D) := (at_rn X d _ [29, 37, 45, 53] 90 53 _ _ _ rfl).trans rfl
set_option maxRecDepth 100000 in
theorem e_Lore_clear (X : Nat × (Nat → Int)) (d : Nat) (D : Nat → Nat → Nat → Int) (q0 : Nat) : ev X (d + 1) m_Lore_clear [vR 5 q0] (hp D) = at_ X d cd_Lore_clear 0 [vR 5 q0] [] (hp D) := ev_at X d _ _ _ rfl rfl rfl
set_option maxRecDepth 100000 in
theorem b_Lore_likeOf_0 (X : Nat × (Nat → Int)) (d : Nat) (D : Nat → Nat → Nat → Int) (q0 : Nat) (q1 : Nat) : at_ X d cd_Lore_likeOf 0 [vR 5 q0, vR 5 q1] [] (hp D) = at_ X d cd_Lore_likeOf 32 [vR 5 q0, vR 5 q1] [] (hp (u3 (u3 (u3 (u3 D 5 q0 0 (D 5 q1 0)) 5 q0 1 ((u3 D 5 q0 0 (D 5 q1 0)) 5 q1 1)) 5 q0 2 ((u3 (u3 D 5 q0 0 (D 5 q1 0)) 5 q0 1 ((u3 D 5 q0 0 (D 5 q1 0)) 5 q1 1)) 5 q1 2)) 5 q0 3 ((u3 (u3 (u3 D 5 q0 0 (D 5 q1 0)) 5 q0 1 ((u3 D 5 q0 0 (D 5 q1 0)) 5 q1 1)) 5 q0 2 ((u3 (u3 D 5 q0 0 (D 5 q1 0)) 5 q0 1 ((u3 D 5 q0 0 (D 5 q1 0)) 5 q1 1)) 5 q1 2)) 5 q1 3))) := (at_rn X d _ [32, 122] 90 0 _ _ _ rfl).trans rfl
set_option maxRecDepth 100000 in
theorem b_Lore_likeOf_32 (X : Nat × (Nat → Int)) (d : Nat) (D : Nat → Nat → Nat → Int) (q0 : Nat) (q1 : Nat) : at_ X d cd_Lore_likeOf 32 [vR 5 q0, vR 5 q1] [] (hp D) = at_ X d cd_Lore_likeOf 122 [vR 5 q0, vR 5 q1] [] (hp ((ab_cpy (hp ((ab_cpy (hp ((ab_cpy (hp ((ab_cpy (hp ((ab_cpy (hp D) 51 q1 0 51 q0 0 16).2.2)) 52 q1 0 52 q0 0 16).2.2)) 53 q1 0 53 q0 0 16).2.2)) 54 q1 0 54 q0 0 10).2.2)) 55 q1 0 55 q0 0 90).2.2)) := (at_rn X d _ [32, 122] 90 32 _ _ _ rfl).trans rfl
set_option maxRecDepth 100000 in
theorem b_Lore_likeOf_122 (X : Nat × (Nat → Int)) (d : Nat) (D : Nat → Nat → Nat → Int) (q0 : Nat) (q1 : Nat) : at_ X d cd_Lore_likeOf 122 [vR 5 q0, vR 5 q1] [] (hp D) = some (none, hp D) := (at_rn X d _ [32, 122] 90 122 _ _ _ rfl).trans rfl
set_option maxRecDepth 100000 in
theorem e_Lore_likeOf (X : Nat × (Nat → Int)) (d : Nat) (D : Nat → Nat → Nat → Int) (q0 : Nat) (q1 : Nat) : ev X (d + 1) m_Lore_likeOf [vR 5 q0, vR 5 q1] (hp D) = at_ X d cd_Lore_likeOf 0 [vR 5 q0, vR 5 q1] [] (hp D) := ev_at X d _ _ _ rfl rfl rfl
set_option maxRecDepth 100000 in
theorem b_Lore_isThing_0 (X : Nat × (Nat → Int)) (d : Nat) (D : Nat → Nat → Nat → Int) (q0 : Nat) (p1 : Int) : at_ X d cd_Lore_isThing 0 [vR 5 q0, vL p1, vU] [] (hp D) = if (d_cmp p1 0) < 0 then some (some (vI 0), hp D) else if 0 ≤ (d_cmp p1 (D 5 q0 0)) then some (some (vI 0), hp D) else some (some (vI 1), hp D) := (at_rn X d _ [] 90 0 _ _ _ rfl).trans rfl
set_option maxRecDepth 100000 in
theorem e_Lore_isThing (X : Nat × (Nat → Int)) (d : Nat) (D : Nat → Nat → Nat → Int) (q0 : Nat) (p1 : Int) : ev X (d + 1) m_Lore_isThing [vR 5 q0, vL p1] (hp D) = at_ X d cd_Lore_isThing 0 [vR 5 q0, vL p1, vU] [] (hp D) := ev_at X d _ _ _ rfl rfl rfl
set_option maxRecDepth 100000 in
theorem b_Lore_isInn_0 (X : Nat × (Nat → Int)) (d : Nat) (D : Nat → Nat → Nat → Int) (q0 : Nat) (p1 : Int) : at_ X d cd_Lore_isInn 0 [vR 5 q0, vL p1, vU] [] (hp D) = if (d_cmp p1 0) < 0 then some (some (vI 0), hp D) else if 0 ≤ (d_cmp p1 (D 5 q0 3)) then some (some (vI 0), hp D) else some (some (vI 1), hp D) := (at_rn X d _ [] 90 0 _ _ _ rfl).trans rfl
set_option maxRecDepth 100000 in
theorem e_Lore_isInn (X : Nat × (Nat → Int)) (d : Nat) (D : Nat → Nat → Nat → Int) (q0 : Nat) (p1 : Int) : ev X (d + 1) m_Lore_isInn [vR 5 q0, vL p1] (hp D) = at_ X d cd_Lore_isInn 0 [vR 5 q0, vL p1, vU] [] (hp D) := ev_at X d _ _ _ rfl rfl rfl
set_option maxRecDepth 100000 in
theorem b_Lore_isSet_0 (X : Nat × (Nat → Int)) (d : Nat) (D : Nat → Nat → Nat → Int) (q0 : Nat) (p1 : Int) : at_ X d cd_Lore_isSet 0 [vR 5 q0, vI p1] [] (hp D) = if (b_us p1 (D 5 q0 0)) ≠ 0 then some (some (vI 0), hp D) else some (some (vI 1), hp D) := (at_rn X d _ [] 90 0 _ _ _ rfl).trans rfl
set_option maxRecDepth 100000 in
theorem e_Lore_isSet (X : Nat × (Nat → Int)) (d : Nat) (D : Nat → Nat → Nat → Int) (q0 : Nat) (p1 : Int) : ev X (d + 1) m_Lore_isSet [vR 5 q0, vI p1] (hp D) = at_ X d cd_Lore_isSet 0 [vR 5 q0, vI p1] [] (hp D) := ev_at X d _ _ _ rfl rfl rfl
set_option maxRecDepth 100000 in
theorem b_Lore_allThings_0 (X : Nat × (Nat → Int)) (d : Nat) (D : Nat → Nat → Nat → Int) (q0 : Nat) : at_ X d cd_Lore_allThings 0 [vR 5 q0] [] (hp D) = some (some (vI (w32 ((b_sl 1 (D 5 q0 0)) - 1))), hp D) := (at_rn X d _ [] 90 0 _ _ _ rfl).trans rfl
set_option maxRecDepth 100000 in
theorem e_Lore_allThings (X : Nat × (Nat → Int)) (d : Nat) (D : Nat → Nat → Nat → Int) (q0 : Nat) : ev X (d + 1) m_Lore_allThings [vR 5 q0] (hp D) = at_ X d cd_Lore_allThings 0 [vR 5 q0] [] (hp D) := ev_at X d _ _ _ rfl rfl rfl
set_option maxRecDepth 100000 in
theorem b_Lore_newsAt_0 (X : Nat × (Nat → Int)) (d : Nat) (D : Nat → Nat → Nat → Int) (q0 : Nat) (p1 : Int) (p2 : Int) : at_ X d cd_Lore_newsAt 0 [vR 5 q0, vI p1, vI p2] [] (hp D) = if (0 : Int) ≤ (w32 ((w32 (p1 * 9)) + p2)) ∧ (w32 ((w32 (p1 * 9)) + p2)) < 90 then some (some (vI (D 55 q0 (w32 ((w32 (p1 * 9)) + p2)).toNat)), hp D) else none := (at_rn X d _ [] 90 0 _ _ _ rfl).trans rfl
set_option maxRecDepth 100000 in
theorem e_Lore_newsAt (X : Nat × (Nat → Int)) (d : Nat) (D : Nat → Nat → Nat → Int) (q0 : Nat) (p1 : Int) (p2 : Int) : ev X (d + 1) m_Lore_newsAt [vR 5 q0, vI p1, vI p2] (hp D) = at_ X d cd_Lore_newsAt 0 [vR 5 q0, vI p1, vI p2] [] (hp D) := ev_at X d _ _ _ rfl rfl rfl
set_option maxRecDepth 100000 in
theorem b_Lore_addNews_0 (X : Nat × (Nat → Int)) (d : Nat) (D : Nat → Nat → Nat → Int) (q0 : Nat) (p1 : Int) (p2 : Int) : at_ X d cd_Lore_addNews 0 [vR 5 q0, vI p1, vI p2] [] (hp D) = if (0 : Int) ≤ p1 ∧ p1 < 10 then if (D 54 q0 (p1).toNat) < 9 then if (0 : Int) ≤ p1 ∧ p1 < 10 then if (0 : Int) ≤ (w32 ((w32 (p1 * 9)) + (D 54 q0 (p1).toNat))) ∧ (w32 ((w32 (p1 * 9)) + (D 54 q0 (p1).toNat))) < 90 then if (0 : Int) ≤ p1 ∧ p1 < 10 then if (0 : Int) ≤ p1 ∧ p1 < 10 then at_ X d cd_Lore_addNews 40 [vR 5 q0, vI p1, vI p2] [] (hp (u3 (u3 D 55 q0 (w32 ((w32 (p1 * 9)) + (D 54 q0 (p1).toNat))).toNat p2) 54 q0 (p1).toNat (w32 (((u3 D 55 q0 (w32 ((w32 (p1 * 9)) + (D 54 q0 (p1).toNat))).toNat p2) 54 q0 (p1).toNat) + 1)))) else none else none else none else none else some (some (vI 0), hp D) else none := (at_rn X d _ [40] 90 0 _ _ _ rfl).trans rfl
set_option maxRecDepth 100000 in
theorem b_Lore_addNews_40 (X : Nat × (Nat → Int)) (d : Nat) (D : Nat → Nat → Nat → Int) (q0 : Nat) (l1 : Int) (l2 : Int) : at_ X d cd_Lore_addNews 40 [vR 5 q0, vI l1, vI l2] [] (hp D) = some (some (vI 1), hp D) := (at_rn X d _ [40] 90 40 _ _ _ rfl).trans rfl
set_option maxRecDepth 100000 in
theorem e_Lore_addNews (X : Nat × (Nat → Int)) (d : Nat) (D : Nat → Nat → Nat → Int) (q0 : Nat) (p1 : Int) (p2 : Int) : ev X (d + 1) m_Lore_addNews [vR 5 q0, vI p1, vI p2] (hp D) = at_ X d cd_Lore_addNews 0 [vR 5 q0, vI p1, vI p2] [] (hp D) := ev_at X d _ _ _ rfl rfl rfl
set_option maxRecDepth 100000 in
theorem b_Lore_newsOnWay_0 (X : Nat × (Nat → Int)) (d : Nat) (D : Nat → Nat → Nat → Int) (q0 : Nat) (p1 : Int) (p2 : Int) : at_ X d cd_Lore_newsOnWay 0 [vR 5 q0, vI p1, vI p2, vU, vU, vU, vU, vU] [] (hp D) = if p2 ≤ p1 then at_ X d cd_Lore_newsOnWay 10 [vR 5 q0, vI p1, vI p2, vU, vU, vU, vU, vU] [vI (-1)] (hp D) else at_ X d cd_Lore_newsOnWay 10 [vR 5 q0, vI p1, vI p2, vU, vU, vU, vU, vU] [vI 1] (hp D) := (at_rn X d _ [10, 25, 39, 62] 90 0 _ _ _ rfl).trans rfl
set_option maxRecDepth 100000 in
theorem b_Lore_newsOnWay_10 (X : Nat × (Nat → Int)) (d : Nat) (D : Nat → Nat → Nat → Int) (q0 : Nat) (l1 : Int) (l2 : Int) (s0 : Int) : at_ X d cd_Lore_newsOnWay 10 [vR 5 q0, vI l1, vI l2, vU, vU, vU, vU, vU] [vI s0] (hp D) = at_ X d cd_Lore_newsOnWay 25 [vR 5 q0, vI l1, vI l2, vI s0, vI 0, vI l1, vI (if 0 ≤ (w32 (l2 - l1)) then w32 (l2 - l1) else w32 (0 - (w32 (l2 - l1)))), vU] [] (hp D) := (at_rn X d _ [10, 25, 39, 62] 90 10 _ _ _ rfl).trans rfl
set_option maxRecDepth 100000 in
theorem b_Lore_newsOnWay_25 (X : Nat × (Nat → Int)) (d : Nat) (D : Nat → Nat → Nat → Int) (q0 : Nat) (v1 : ab_V) (v2 : ab_V) (l3 : Int) (l4 : Int) (l5 : Int) (l6 : Int) : at_ X d cd_Lore_newsOnWay 25 [vR 5 q0, v1, v2, vI l3, vI l4, vI l5, vI l6, vU] [] (hp D) = if l6 ≤ 0 then some (some (vI l4), hp D) else at_ X d cd_Lore_newsOnWay 39 [vR 5 q0, vU, vU, vI l3, vI l4, vI (w32 (l5 + l3)), vI l6, vI 0] [] (hp D) := (at_rn X d _ [10, 25, 39, 62] 90 25 _ _ _ rfl).trans rfl
set_option maxRecDepth 100000 in
theorem b_Lore_newsOnWay_39 (X : Nat × (Nat → Int)) (d : Nat) (D : Nat → Nat → Nat → Int) (q0 : Nat) (l3 : Int) (l4 : Int) (l5 : Int) (l6 : Int) (l7 : Int) : at_ X d cd_Lore_newsOnWay 39 [vR 5 q0, vU, vU, vI l3, vI l4, vI l5, vI l6, vI l7] [] (hp D) = if (0 : Int) ≤ l5 ∧ l5 < 10 then if (D 54 q0 (l5).toNat) ≤ l7 then at_ X d cd_Lore_newsOnWay 25 [vR 5 q0, vU, vU, vI l3, vI l4, vI l5, vI (w32 (l6 + (-1))), vU] [] (hp D) else ab_ci (ev X d m_Lore_newsAt [vR 5 q0, vI l5, vI l7] (hp D)) fun y9 h9 => at_ X d cd_Lore_newsOnWay 62 [vR 5 q0, vU, vU, vI l3, vI l4, vI l5, vI l6, vI l7] [vI y9, vI 1, vI l4] h9 else none := (at_rn X d _ [10, 25, 39, 62] 90 39 _ _ _ rfl).trans rfl
set_option maxRecDepth 100000 in
theorem b_Lore_newsOnWay_62 (X : Nat × (Nat → Int)) (d : Nat) (D : Nat → Nat → Nat → Int) (q0 : Nat) (l3 : Int) (l4 : Int) (l5 : Int) (l6 : Int) (l7 : Int) (s0 : Int) (s1 : Int) (s2 : Int) : at_ X d cd_Lore_newsOnWay 62 [vR 5 q0, vU, vU, vI l3, vI l4, vI l5, vI l6, vI l7] [vI s2, vI s1, vI s0] (hp D) = at_ X d cd_Lore_newsOnWay 39 [vR 5 q0, vU, vU, vI l3, vI (b_orr s0 (b_sl s1 s2)), vI l5, vI l6, vI (w32 (l7 + 1))] [] (hp D) := (at_rn X d _ [10, 25, 39, 62] 90 62 _ _ _ rfl).trans rfl
set_option maxRecDepth 100000 in
theorem e_Lore_newsOnWay (X : Nat × (Nat → Int)) (d : Nat) (D : Nat → Nat → Nat → Int) (q0 : Nat) (p1 : Int) (p2 : Int) : ev X (d + 1) m_Lore_newsOnWay [vR 5 q0, vI p1, vI p2] (hp D) = at_ X d cd_Lore_newsOnWay 0 [vR 5 q0, vI p1, vI p2, vU, vU, vU, vU, vU] [] (hp D) := ev_at X d _ _ _ rfl rfl rfl
set_option maxRecDepth 100000 in
theorem b_Lore_worthOf_0 (X : Nat × (Nat → Int)) (d : Nat) (D : Nat → Nat → Nat → Int) (q0 : Nat) (p1 : Int) : at_ X d cd_Lore_worthOf 0 [vR 5 q0, vI p1, vU, vU] [] (hp D) = at_ X d cd_Lore_worthOf 4 [vR 5 q0, vI p1, vI 0, vI 0] [] (hp D) := (at_rn X d _ [4, 29] 90 0 _ _ _ rfl).trans rfl
set_option maxRecDepth 100000 in
theorem b_Lore_worthOf_4 (X : Nat × (Nat → Int)) (d : Nat) (D : Nat → Nat → Nat → Int) (q0 : Nat) (l1 : Int) (l2 : Int) (l3 : Int) : at_ X d cd_Lore_worthOf 4 [vR 5 q0, vI l1, vI l2, vI l3] [] (hp D) = if (D 5 q0 0) ≤ l3 then some (some (vI l2), hp D) else if (b_an (b_sr l1 l3) 1) = 0 then at_ X d cd_Lore_worthOf 29 [vR 5 q0, vI l1, vI l2, vI l3] [] (hp D) else if (0 : Int) ≤ l3 ∧ l3 < 16 then at_ X d cd_Lore_worthOf 29 [vR 5 q0, vI l1, vI (w32 (l2 + (D 53 q0 (l3).toNat))), vI l3] [] (hp D) else none := (at_rn X d _ [4, 29] 90 4 _ _ _ rfl).trans rfl
set_option maxRecDepth 100000 in
theorem b_Lore_worthOf_29 (X : Nat × (Nat → Int)) (d : Nat) (D : Nat → Nat → Nat → Int) (q0 : Nat) (l1 : Int) (l2 : Int) (l3 : Int) : at_ X d cd_Lore_worthOf 29 [vR 5 q0, vI l1, vI l2, vI l3] [] (hp D) = at_ X d cd_Lore_worthOf 4 [vR 5 q0, vI l1, vI l2, vI (w32 (l3 + 1))] [] (hp D) := (at_rn X d _ [4, 29] 90 29 _ _ _ rfl).trans rfl
set_option maxRecDepth 100000 in
theorem e_Lore_worthOf (X : Nat × (Nat → Int)) (d : Nat) (D : Nat → Nat → Nat → Int) (q0 : Nat) (p1 : Int) : ev X (d + 1) m_Lore_worthOf [vR 5 q0, vI p1] (hp D) = at_ X d cd_Lore_worthOf 0 [vR 5 q0, vI p1, vU, vU] [] (hp D) := ev_at X d _ _ _ rfl rfl rfl
set_option maxRecDepth 100000 in
theorem b_Lore_secretPair_0 (X : Nat × (Nat → Int)) (d : Nat) (D : Nat → Nat → Nat → Int) (q0 : Nat) (p1 : Int) : at_ X d cd_Lore_secretPair 0 [vR 5 q0, vI p1, vU, vU, vU] [] (hp D) = at_ X d cd_Lore_secretPair 2 [vR 5 q0, vI p1, vI 0, vU, vU] [] (hp D) := (at_rn X d _ [2, 30, 36] 90 0 _ _ _ rfl).trans rfl
set_option maxRecDepth 100000 in
theorem b_Lore_secretPair_2 (X : Nat × (Nat → Int)) (d : Nat) (D : Nat → Nat → Nat → Int) (q0 : Nat) (l1 : Int) (l2 : Int) : at_ X d cd_Lore_secretPair 2 [vR 5 q0, vI l1, vI l2, vU, vU] [] (hp D) = if (D 5 q0 0) ≤ l2 then some (some (vI (-1)), hp D) else if (b_an (b_sr l1 l2) 1) ≠ 0 then if (0 : Int) ≤ l2 ∧ l2 < 16 then at_ X d cd_Lore_secretPair 30 [vR 5 q0, vI l1, vI l2, vU, vU] [vI (b_an (D 52 q0 (l2).toNat) l1)] (hp D) else none else at_ X d cd_Lore_secretPair 30 [vR 5 q0, vI l1, vI l2, vU, vU] [vI 0] (hp D) := (at_rn X d _ [2, 30, 36] 90 2 _ _ _ rfl).trans rfl
set_option maxRecDepth 100000 in
theorem b_Lore_secretPair_30 (X : Nat × (Nat → Int)) (d : Nat) (D : Nat → Nat → Nat → Int) (q0 : Nat) (l1 : Int) (l2 : Int) (s0 : Int) : at_ X d cd_Lore_secretPair 30 [vR 5 q0, vI l1, vI l2, vU, vU] [vI s0] (hp D) = at_ X d cd_Lore_secretPair 36 [vR 5 q0, vI l1, vI l2, vI s0, vI (w32 (l2 + 1))] [] (hp D) := (at_rn X d _ [2, 30, 36] 90 30 _ _ _ rfl).trans rfl
set_option maxRecDepth 100000 in
theorem b_Lore_secretPair_36 (X : Nat × (Nat → Int)) (d : Nat) (D : Nat → Nat → Nat → Int) (q0 : Nat) (l1 : Int) (l2 : Int) (l3 : Int) (l4 : Int) : at_ X d cd_Lore_secretPair 36 [vR 5 q0, vI l1, vI l2, vI l3, vI l4] [] (hp D) = if (D 5 q0 0) ≤ l4 then at_ X d cd_Lore_secretPair 2 [vR 5 q0, vI l1, vI (w32 (l2 + 1)), vU, vU] [] (hp D) else if (b_an (b_sr l3 l4) 1) = 0 then at_ X d cd_Lore_secretPair 36 [vR 5 q0, vI l1, vI l2, vI l3, vI (w32 (l4 + 1))] [] (hp D) else some (some (vI (w32 ((w32 (20 * l2)) + l4))), hp D) := (at_rn X d _ [2, 30, 36] 90 36 _ _ _ rfl).trans rfl
set_option maxRecDepth 100000 in
theorem e_Lore_secretPair (X : Nat × (Nat → Int)) (d : Nat) (D : Nat → Nat → Nat → Int) (q0 : Nat) (p1 : Int) : ev X (d + 1) m_Lore_secretPair [vR 5 q0, vI p1] (hp D) = at_ X d cd_Lore_secretPair 0 [vR 5 q0, vI p1, vU, vU, vU] [] (hp D) := ev_at X d _ _ _ rfl rfl rfl
set_option maxRecDepth 100000 in
theorem b_Lore_comeBack_0 (X : Nat × (Nat → Int)) (d : Nat) (D : Nat → Nat → Nat → Int) (q0 : Nat) (p1 : Int) : at_ X d cd_Lore_comeBack 0 [vR 5 q0, vI p1, vU, vU, vU, vU] [] (hp D) = at_ X d cd_Lore_comeBack 4 [vR 5 q0, vI p1, vI p1, vI 0, vU, vU] [] (hp D) := (at_rn X d _ [4, 18, 48] 90 0 _ _ _ rfl).trans rfl
set_option maxRecDepth 100000 in
theorem b_Lore_comeBack_4 (X : Nat × (Nat → Int)) (d : Nat) (D : Nat → Nat → Nat → Int) (q0 : Nat) (v1 : ab_V) (l2 : Int) (l3 : Int) (v4 : ab_V) : at_ X d cd_Lore_comeBack 4 [vR 5 q0, v1, vI l2, vI l3, v4, vU] [] (hp D) = if (D 5 q0 0) ≤ l3 then some (some (vI l2), hp D) else at_ X d cd_Lore_comeBack 18 [vR 5 q0, vU, vI l2, vI l3, vI l2, vI 0] [] (hp D) := (at_rn X d _ [4, 18, 48] 90 4 _ _ _ rfl).trans rfl
set_option maxRecDepth 100000 in
theorem b_Lore_comeBack_18 (X : Nat × (Nat → Int)) (d : Nat) (D : Nat → Nat → Nat → Int) (q0 : Nat) (l2 : Int) (l3 : Int) (l4 : Int) (l5 : Int) : at_ X d cd_Lore_comeBack 18 [vR 5 q0, vU, vI l2, vI l3, vI l4, vI l5] [] (hp D) = if (D 5 q0 0) ≤ l5 then if l4 ≠ l2 then at_ X d cd_Lore_comeBack 4 [vR 5 q0, vU, vI l4, vI (w32 (l3 + 1)), vI l4, vU] [] (hp D) else some (some (vI l2), hp D) else if (b_an (b_sr l2 l5) 1) = 0 then at_ X d cd_Lore_comeBack 48 [vR 5 q0, vU, vI l2, vI l3, vI l4, vI l5] [] (hp D) else if (0 : Int) ≤ l5 ∧ l5 < 16 then at_ X d cd_Lore_comeBack 48 [vR 5 q0, vU, vI l2, vI l3, vI (b_orr l4 (D 51 q0 (l5).toNat)), vI l5] [] (hp D) else none := (at_rn X d _ [4, 18, 48] 90 18 _ _ _ rfl).trans rfl
set_option maxRecDepth 100000 in
theorem b_Lore_comeBack_48 (X : Nat × (Nat → Int)) (d : Nat) (D : Nat → Nat → Nat → Int) (q0 : Nat) (l2 : Int) (l3 : Int) (l4 : Int) (l5 : Int) : at_ X d cd_Lore_comeBack 48 [vR 5 q0, vU, vI l2, vI l3, vI l4, vI l5] [] (hp D) = at_ X d cd_Lore_comeBack 18 [vR 5 q0, vU, vI l2, vI l3, vI l4, vI (w32 (l5 + 1))] [] (hp D) := (at_rn X d _ [4, 18, 48] 90 48 _ _ _ rfl).trans rfl
set_option maxRecDepth 100000 in
theorem e_Lore_comeBack (X : Nat × (Nat → Int)) (d : Nat) (D : Nat → Nat → Nat → Int) (q0 : Nat) (p1 : Int) : ev X (d + 1) m_Lore_comeBack [vR 5 q0, vI p1] (hp D) = at_ X d cd_Lore_comeBack 0 [vR 5 q0, vI p1, vU, vU, vU, vU] [] (hp D) := ev_at X d _ _ _ rfl rfl rfl
end
