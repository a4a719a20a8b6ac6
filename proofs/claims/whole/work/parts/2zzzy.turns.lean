/-! the law's loop, all turns -/
section
theorem law_loop {X : Nat × (Nat → Int)} {d : Nat} (hd : 80 ≤ d) (hX : X.1 ≤ 3072) (hx : ∀ k, i32 (X.2 k)) : ∀ (n i : Nat) (D : DD) (S : St), X.1 ≤ i + n → i ≤ 3072 → SOK S → CH D S → MH D S → ∃ D', at_ X d cd_law_law 18 [vS 1000, vR 11 0, vR 12 0, vI (i : Int)] [] (hp D) = some (some (vI 1), hp D') := by
  intro n
  induction n using Nat.strongRecOn with
  | ind n ih =>
    intro i D S hn hi9 hS hC hM
    rw [b_law_18, zb_w (by omega) (by omega)]
    by_cases c : (X.1 : Int) - 6 < (i : Int)
    · rw [if_pos c]
      exact ⟨D, rfl⟩
    have hi : i + 6 ≤ X.1 := by omega
    have fin : ∀ pc, nxL X d pc i D → ∃ D', at_ X d cd_law_law pc [vS 1000, vR 11 0, vR 12 0, vI (i : Int)] [] (hp D) = some (some (vI 1), hp D') := by
      rintro pc ⟨D1, S1, e, h1, h2, h3⟩
      rw [e]
      exact ih (n - 6) (by omega) (i + 6) D1 S1 (by omega) (by omega) h1 h2 h3
    rw [if_neg c, if_pos (by omega), Int.toNat_natCast]
    generalize b_an (X.2 i) 63 = v
    by_cases h0 : v = 0
    · rw [if_pos h0]; exact fin 236 (L_feed hd hi hX hx hS hC hM)
    rw [if_neg h0]
    by_cases h1 : v = 1
    · rw [if_pos h1]; exact fin 299 (L_lore hd hi hX hx hS hC hM)
    rw [if_neg h1]
    by_cases h2 : v = 2
    · rw [if_pos h2]; exact fin 322 (L_fault hd hi hX hx hS hC hM)
    rw [if_neg h2]
    by_cases h3 : v = 3
    · rw [if_pos h3]; exact fin 345 (L_thing hd hi hX hx hS hC hM)
    rw [if_neg h3]
    by_cases h4 : v = 4
    · rw [if_pos h4]; exact fin 378 (L_news hd hi hX hx hS hC hM)
    rw [if_neg h4]
    by_cases h5 : v = 5
    · rw [if_pos h5]; exact fin 411 (L_comes hd hi hX hx hS hC hM)
    rw [if_neg h5]
    by_cases h6 : v = 6
    · rw [if_pos h6]; exact fin 434 (L_of hd hi hX hx hS hC hM)
    rw [if_neg h6]
    by_cases h7 : v = 7
    · rw [if_pos h7]; exact fin 467 (L_lost hd hi hX hx hS hC hM)
    rw [if_neg h7]
    by_cases h8 : v = 8
    · rw [if_pos h8]; exact fin 500 (L_hears hd hi hX hx hS hC hM)
    rw [if_neg h8]
    by_cases h9 : v = 9
    · rw [if_pos h9]; exact fin 533 (L_says hd hi hX hx hS hC hM)
    rw [if_neg h9]
    by_cases h10 : v = 10
    · rw [if_pos h10]; exact fin 566 (L_tells hd hi hX hx hS hC hM)
    rw [if_neg h10]
    by_cases h11 : v = 11
    · rw [if_pos h11]; exact fin 609 (L_walks hd hi hX hx hS hC hM)
    rw [if_neg h11]
    by_cases h12 : v = 12
    · rw [if_pos h12]; exact fin 642 (L_recites hd hi hX hx hS hC hM)
    rw [if_neg h12]
    by_cases h13 : v = 13
    · rw [if_pos h13]; exact fin 675 (L_delivers hd hi hX hx hS hC hM)
    rw [if_neg h13]
    by_cases h14 : v = 14
    · rw [if_pos h14]; exact fin 698 (L_breach hd hi hX hx hS hC hM)
    rw [if_neg h14]
    by_cases h15 : v = 15
    · rw [if_pos h15]; exact fin 711 (L_risk hd hi hX hx hS hC hM)
    rw [if_neg h15]
    by_cases h16 : v = 16
    · rw [if_pos h16]; exact fin 744 (L_loud hd hi hX hx hS hC hM)
    rw [if_neg h16]
    by_cases h17 : v = 17
    · rw [if_pos h17]; exact fin 777 (L_turned hd hi hX hx hS hC hM)
    rw [if_neg h17]
    by_cases h18 : v = 18
    · rw [if_pos h18]; exact fin 810 (L_judge hd hi hX hx hS hC hM)
    rw [if_neg h18]
    by_cases h19 : v = 19
    · rw [if_pos h19]; exact fin 853 (L_perform hd hi hX hx hS hC hM)
    rw [if_neg h19]
    by_cases h20 : v = 20
    · rw [if_pos h20]; exact fin 886 (L_day hd hi hX hx hS hC hM)
    rw [if_neg h20]
    by_cases h21 : v = 21
    · rw [if_pos h21]; exact fin 919 (L_fresh hd hi hX hx hS hC hM)
    rw [if_neg h21]
    by_cases h22 : v = 22
    · rw [if_pos h22]; exact fin 962 (L_kept hd hi hX hx hS hC hM)
    rw [if_neg h22]
    by_cases h23 : v = 23
    · rw [if_pos h23]; exact fin 1005 (L_less hd hi hX hx hS hC hM)
    rw [if_neg h23]
    by_cases h24 : v = 24
    · rw [if_pos h24]; exact fin 1028 (L_enough hd hi hX hx hS hC hM)
    rw [if_neg h24]
    by_cases h25 : v = 25
    · rw [if_pos h25]; exact fin 1071 (L_farBack hd hi hX hx hS hC hM)
    rw [if_neg h25]
    by_cases h26 : v = 26
    · rw [if_pos h26]; exact fin 1104 (L_through hd hi hX hx hS hC hM)
    rw [if_neg h26]
    by_cases h27 : v = 27
    · rw [if_pos h27]; exact fin 1147 (L_sizeFor hd hi hX hx hS hC hM)
    rw [if_neg h27]
    by_cases h28 : v = 28
    · rw [if_pos h28]; exact fin 1180 (L_told hd hi hX hx hS hC hM)
    rw [if_neg h28]
    by_cases h29 : v = 29
    · rw [if_pos h29]; exact fin 1233 (L_back hd hi hX hx hS hC hM)
    rw [if_neg h29]
    by_cases h30 : v = 30
    · rw [if_pos h30]; exact fin 1256 (L_seeds hd hi hX hx hS hC hM)
    rw [if_neg h30]
    by_cases h31 : v = 31
    · rw [if_pos h31]; exact fin 1279 (L_men hd hi hX hx hS hC hM)
    rw [if_neg h31]
    by_cases h32 : v = 32
    · rw [if_pos h32]; exact fin 1338 (L_load hd hi hX hx hS hC hM)
    rw [if_neg h32]
    by_cases h33 : v = 33
    · rw [if_pos h33]; exact fin 1407 (L_road hd hi hX hx hS hC hM)
    rw [if_neg h33]
    by_cases h34 : v = 34
    · rw [if_pos h34]; exact fin 1450 (L_questions hd hi hX hx hS hC hM)
    rw [if_neg h34]
    by_cases h35 : v = 35
    · rw [if_pos h35]; exact fin 1503 (L_asked hd hi hX hx hS hC hM)
    rw [if_neg h35]
    by_cases h36 : v = 36
    · rw [if_pos h36]; exact fin 1526 (L_broken hd hi hX hx hS hC hM)
    rw [if_neg h36]
    by_cases h37 : v = 37
    · rw [if_pos h37]; exact fin 1559 (L_piece hd hi hX hx hS hC hM)
    rw [if_neg h37]
    by_cases h38 : v = 38
    · rw [if_pos h38]; exact fin 1582 (L_joined hd hi hX hx hS hC hM)
    rw [if_neg h38]
    by_cases h39 : v = 39
    · rw [if_pos h39]; exact fin 1605 (L_unfit hd hi hX hx hS hC hM)
    rw [if_neg h39]
    by_cases h40 : v = 40
    · rw [if_pos h40]; exact fin 1618 (L_gaps hd hi hX hx hS hC hM)
    rw [if_neg h40]
    by_cases h41 : v = 41
    · rw [if_pos h41]; exact fin 1631 (L_numbers hd hi hX hx hS hC hM)
    rw [if_neg h41]
    by_cases h42 : v = 42
    · rw [if_pos h42]; exact fin 1674 (L_write hd hi hX hS hC hM)
    rw [if_neg h42]
    by_cases h43 : v = 43
    · rw [if_pos h43]; exact fin 1748 (L_copy hd hi hX hx hS hC hM)
    rw [if_neg h43]
    by_cases h44 : v = 44
    · rw [if_pos h44]; exact fin 1781 (L_image hd hi hX hx hS hC hM)
    rw [if_neg h44]
    by_cases h45 : v = 45
    · rw [if_pos h45]; exact fin 1804 (L_restore hd hi hX hx hS hC hM)
    rw [if_neg h45]
    by_cases h46 : v = 46
    · rw [if_pos h46]; exact fin 1827 (L_count hd hi hX hx hS hC hM)
    rw [if_neg h46]
    obtain ⟨w1, w2, w3, w4, w5, w6⟩ := wix (i := i) (by omega)
    exact fin 1850 ⟨D, S, by rw [b_law_1850, w6], hS, hC, hM⟩
end
