section
set_option maxRecDepth 100000 in
theorem b_World_beginWith_0 (X : Nat × (Nat → Int)) (d : Nat) (D : Nat → Nat → Nat → Int) (q0 : Nat) (q1 : Nat) : at_ X d cd_World_beginWith 0 [vR 10 q0, vR 5 q1] [] (hp D) = ab_rf (R0 10 q0 0) fun t9 i9 => at_ X d cd_World_beginWith 4 [vR 10 q0, vR 5 q1] (vR t9 i9 :: []) (hp D) := (at_rn X d _ [4, 8, 12] 90 0 _ _ _ rfl).trans rfl
set_option maxRecDepth 100000 in
theorem b_World_beginWith_4 (X : Nat × (Nat → Int)) (d : Nat) (D : Nat → Nat → Nat → Int) (q0 : Nat) (q1 : Nat) (t0 : Nat) : at_ X d cd_World_beginWith 4 [vR 10 q0, vR 5 q1] [vR 5 t0] (hp D) = ab_cv (ev X d m_Lore_likeOf [vR 5 t0, vR 5 q1] (hp D)) fun h9 => at_ X d cd_World_beginWith 8 [vR 10 q0, vR 5 q1] [] h9 := (at_rn X d _ [4, 8, 12] 90 4 _ _ _ rfl).trans rfl
set_option maxRecDepth 100000 in
theorem b_World_beginWith_8 (X : Nat × (Nat → Int)) (d : Nat) (D : Nat → Nat → Nat → Int) (q0 : Nat) (q1 : Nat) : at_ X d cd_World_beginWith 8 [vR 10 q0, vR 5 q1] [] (hp D) = ab_rf (R0 10 q0 1) fun t9 i9 => at_ X d cd_World_beginWith 12 [vR 10 q0, vR 5 q1] (vR t9 i9 :: []) (hp D) := (at_rn X d _ [4, 8, 12] 90 8 _ _ _ rfl).trans rfl
set_option maxRecDepth 100000 in
theorem b_World_beginWith_12 (X : Nat × (Nat → Int)) (d : Nat) (D : Nat → Nat → Nat → Int) (q0 : Nat) (q1 : Nat) (t0 : Nat) : at_ X d cd_World_beginWith 12 [vR 10 q0, vR 5 q1] [vR 2 t0] (hp D) = some (none, hp (u3 (u3 D 2 t0 1 0) 6 q0 0 0)) := (at_rn X d _ [4, 8, 12] 90 12 _ _ _ rfl).trans rfl
set_option maxRecDepth 100000 in
theorem e_World_beginWith (X : Nat × (Nat → Int)) (d : Nat) (D : Nat → Nat → Nat → Int) (q0 : Nat) (q1 : Nat) : ev X (d + 1) m_World_beginWith [vR 10 q0, vR 5 q1] (hp D) = at_ X d cd_World_beginWith 0 [vR 10 q0, vR 5 q1] [] (hp D) := ev_at X d _ _ _ rfl rfl rfl
set_option maxRecDepth 100000 in
theorem b_World_likeOf_0 (X : Nat × (Nat → Int)) (d : Nat) (D : Nat → Nat → Nat → Int) (q0 : Nat) (q1 : Nat) : at_ X d cd_World_likeOf 0 [vR 10 q0, vR 10 q1] [] (hp D) = ab_rf (R0 10 q0 0) fun t9 i9 => at_ X d cd_World_likeOf 4 [vR 10 q0, vR 10 q1] (vR t9 i9 :: []) (hp D) := (at_rn X d _ [4, 8, 11, 15, 19, 22, 33] 90 0 _ _ _ rfl).trans rfl
set_option maxRecDepth 100000 in
theorem b_World_likeOf_4 (X : Nat × (Nat → Int)) (d : Nat) (D : Nat → Nat → Nat → Int) (q0 : Nat) (q1 : Nat) (t0 : Nat) : at_ X d cd_World_likeOf 4 [vR 10 q0, vR 10 q1] [vR 5 t0] (hp D) = ab_rf (R0 10 q1 0) fun t9 i9 => at_ X d cd_World_likeOf 8 [vR 10 q0, vR 10 q1] (vR t9 i9 :: [vR 5 t0]) (hp D) := (at_rn X d _ [4, 8, 11, 15, 19, 22, 33] 90 4 _ _ _ rfl).trans rfl
set_option maxRecDepth 100000 in
theorem b_World_likeOf_8 (X : Nat × (Nat → Int)) (d : Nat) (D : Nat → Nat → Nat → Int) (q0 : Nat) (q1 : Nat) (t0 : Nat) (t1 : Nat) : at_ X d cd_World_likeOf 8 [vR 10 q0, vR 10 q1] [vR 5 t1, vR 5 t0] (hp D) = ab_cv (ev X d m_Lore_likeOf [vR 5 t0, vR 5 t1] (hp D)) fun h9 => at_ X d cd_World_likeOf 11 [vR 10 q0, vR 10 q1] [] h9 := (at_rn X d _ [4, 8, 11, 15, 19, 22, 33] 90 8 _ _ _ rfl).trans rfl
set_option maxRecDepth 100000 in
theorem b_World_likeOf_11 (X : Nat × (Nat → Int)) (d : Nat) (D : Nat → Nat → Nat → Int) (q0 : Nat) (q1 : Nat) : at_ X d cd_World_likeOf 11 [vR 10 q0, vR 10 q1] [] (hp D) = ab_rf (R0 10 q0 1) fun t9 i9 => at_ X d cd_World_likeOf 15 [vR 10 q0, vR 10 q1] (vR t9 i9 :: []) (hp D) := (at_rn X d _ [4, 8, 11, 15, 19, 22, 33] 90 11 _ _ _ rfl).trans rfl
set_option maxRecDepth 100000 in
theorem b_World_likeOf_15 (X : Nat × (Nat → Int)) (d : Nat) (D : Nat → Nat → Nat → Int) (q0 : Nat) (q1 : Nat) (t0 : Nat) : at_ X d cd_World_likeOf 15 [vR 10 q0, vR 10 q1] [vR 2 t0] (hp D) = ab_rf (R0 10 q1 1) fun t9 i9 => at_ X d cd_World_likeOf 19 [vR 10 q0, vR 10 q1] (vR t9 i9 :: [vR 2 t0]) (hp D) := (at_rn X d _ [4, 8, 11, 15, 19, 22, 33] 90 15 _ _ _ rfl).trans rfl
set_option maxRecDepth 100000 in
theorem b_World_likeOf_19 (X : Nat × (Nat → Int)) (d : Nat) (D : Nat → Nat → Nat → Int) (q0 : Nat) (q1 : Nat) (t0 : Nat) (t1 : Nat) : at_ X d cd_World_likeOf 19 [vR 10 q0, vR 10 q1] [vR 2 t1, vR 2 t0] (hp D) = ab_cv (ev X d m_Company_likeOf [vR 2 t0, vR 2 t1] (hp D)) fun h9 => at_ X d cd_World_likeOf 22 [vR 10 q0, vR 10 q1] [] h9 := (at_rn X d _ [4, 8, 11, 15, 19, 22, 33] 90 19 _ _ _ rfl).trans rfl
set_option maxRecDepth 100000 in
theorem b_World_likeOf_22 (X : Nat × (Nat → Int)) (d : Nat) (D : Nat → Nat → Nat → Int) (q0 : Nat) (q1 : Nat) : at_ X d cd_World_likeOf 22 [vR 10 q0, vR 10 q1] [] (hp D) = ab_cv (ev X d m_Pieces_likeOf [vR 6 q0, vR 6 q1] (hp D)) fun h9 => at_ X d cd_World_likeOf 33 [vR 10 q0, vR 10 q1] [] h9 := (at_rn X d _ [4, 8, 11, 15, 19, 22, 33] 90 22 _ _ _ rfl).trans rfl
set_option maxRecDepth 100000 in
theorem b_World_likeOf_33 (X : Nat × (Nat → Int)) (d : Nat) (D : Nat → Nat → Nat → Int) (q0 : Nat) (q1 : Nat) : at_ X d cd_World_likeOf 33 [vR 10 q0, vR 10 q1] [] (hp D) = some (none, hp D) := (at_rn X d _ [4, 8, 11, 15, 19, 22, 33] 90 33 _ _ _ rfl).trans rfl
set_option maxRecDepth 100000 in
theorem e_World_likeOf (X : Nat × (Nat → Int)) (d : Nat) (D : Nat → Nat → Nat → Int) (q0 : Nat) (q1 : Nat) : ev X (d + 1) m_World_likeOf [vR 10 q0, vR 10 q1] (hp D) = at_ X d cd_World_likeOf 0 [vR 10 q0, vR 10 q1] [] (hp D) := ev_at X d _ _ _ rfl rfl rfl
end
