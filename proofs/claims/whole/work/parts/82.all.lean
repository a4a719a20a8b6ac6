section
/-- EVERY METHOD, AT EVERY DEPTH, IS MET (the texts' own methods taken as STR) -/
theorem met_all {l : Launch} {X : Nat × (Nat → Int)} (hstr : STR l X) : ∀ (d m9 : Nat), m9 < 292 → CM l X (d + 8) m9 (ev X d)
  | 0, m9, hm => fun as h r h9 => by cases h9
  | d + 1, m9, hm => met_up hstr mok_all cok_all d (fun m hm => met_all hstr d m hm) m9 hm
end
