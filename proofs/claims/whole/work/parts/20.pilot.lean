section
theorem e_has (X : Nat × (Nat → Int)) (d : Nat) (c : Nat) (t : Int) (h : ab_H) : ev X (d + 1) m_Courier_has [vR 3 c, vI t] h = at_ X d cd_Courier_has 0 [vR 3 c, vI t] [] h := ev_at X d _ _ h rfl rfl rfl
theorem b_has (X : Nat × (Nat → Int)) (d : Nat) (c : Nat) (t : Int) (h : ab_H) : at_ X d cd_Courier_has 0 [vR 3 c, vI t] [] h = if b_an (b_sr (h.2.2 3 c 3) t) 1 = 0 then some (some (vI 0), h) else some (some (vI 1), h) := (at_rn X d _ [] 20 0 _ _ _ rfl).trans rfl
theorem b_hear (X : Nat × (Nat → Int)) (d : Nat) (c : Nat) (t : Int) (h : ab_H) : at_ X d cd_Courier_hear 0 [vR 3 c, vI t] [] h = ab_ci (ev X d m_Courier_has [vR 3 c, vI t] h) fun y h => if y = 0 then at_ X d cd_Courier_hear 15 [vR 3 c, vI t] [] h else ab_cv (ev X d m_Courier_bringForward [vR 3 c, vI t] h) fun h => some (some (vI (-1)), h) := (at_rn X d _ [15] 20 0 _ _ _ rfl).trans rfl
end
