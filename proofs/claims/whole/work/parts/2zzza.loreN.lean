/-! lore: the class's call -/
section
def stL (S : St) (W : Wd) (a : Nat) (e : Int) : St := (W, sI S, sR S, [], a, e)
def f_lore (S : St) (x : Int) : Int × St := if 0 ≤ x ∧ x ≤ ((sT S).length : Int) then (match prsP (sT S) x.toNat x.toNat L00 0 with
  | .inl e => (-30 - (e.1 : Int), stL S (sW S) e.1 (e.2 : Int))
  | .inr L => ((L 151 : Int), stL S (L, [], []) 0 (-1))) else (-3, S)
def erP (n : Nat) (e : Er) : Prop := e.1 ≠ 0 ∧ e.1 ≤ 4 ∧ e.2 ≤ n
theorem erP_m {T : List Nat} {n q c : Nat} (h : q ≤ n) (h0 : c ≠ 0) (h4 : c ≤ 4) : erP n (c, tS T n q) := ⟨h0, h4, (tS_b (T := T) h).2⟩
theorem numP_e {T : List Nat} {n lo hi q : Nat} {un : Int} {e : Er} (hq : q ≤ n) (h : numP T n lo hi un q = .inl e) : erP n e := by
  obtain ⟨h1, h2, h3⟩ := numP_l h
  exact ⟨h1, h2, by rw [h3]; exact (tS_b (T := T) hq).2⟩
theorem sgnP_e {T : List Nat} {n q : Nat} {e : Er} (hq : q ≤ n) (h : sgnP T n q = .inl e) : erP n e := by
  unfold sgnP at h
  split at h
  · cases h; exact erP_m hq (by omega) (by omega)
  · split at h
    · cases h; exact erP_m hq (by omega) (by omega)
    · cases h
theorem innB_e {T : List Nat} {n i : Nat} : ∀ (f k : Nat) (L : Nat → Nat) (q : Nat) (e : Er), q ≤ n → innB T n i f k L q = .inl e → erP n e := by
  intro f
  induction f with
  | zero => intro k L q e hq h; rw [innB] at h; cases h; exact erP_m hq (by omega) (by omega)
  | succ f ih =>
    intro k L q e hq h
    rw [innB] at h
    split at h
    · cases h
    · rcases bnE_l h with h | ⟨x, _, h⟩
      · exact numP_e hq h
      · split at h
        · cases h; exact erP_m hq (by omega) (by omega)
        · exact ih _ _ _ _ (tE_le (T := T) hq).2 h
theorem bdP_e {T : List Nat} {n : Nat} {L : Nat → Nat} {q : Nat} {e : Er} (hq : q ≤ n) (h : bdP T n L q = .inl e) : erP n e := by
  have e1 := tE_le (T := T) hq
  have e2 := tE_le (T := T) e1.2
  have pair : ∀ sec, bPair T n L sec q = .inl e → erP n e := by
    intro sec h
    unfold bPair at h
    rcases bnE_l h with h | ⟨x, _, h⟩
    · exact numP_e e1.2 h
    · rcases bnE_l h with h | ⟨y, _, h⟩
      · exact numP_e e2.2 h
      · cases h
  unfold bdP at h
  split at h
  · cases h; exact erP_m hq (by omega) (by omega)
  split at h
  · cases h; exact erP_m hq (by omega) (by omega)
  split at h
  · unfold bThings at h
    split at h
    · cases h; exact erP_m hq (by omega) (by omega)
    · rcases bnE_l h with h | ⟨x, _, h⟩
      · exact numP_e e1.2 h
      · cases h
  split at h
  · unfold bMind at h
    rcases bnE_l h with h | ⟨x, _, h⟩
    · exact numP_e e1.2 h
    · cases h
  split at h
  · exact pair _ h
  split at h
  · exact pair _ h
  split at h
  · unfold bWorth at h
    rcases bnE_l h with h | ⟨x, _, h⟩
    · exact numP_e e1.2 h
    · rcases bnE_l h with h | ⟨y, _, h⟩
      · exact numP_e e2.2 h
      · cases h
  · unfold bInn at h
    split at h
    · cases h; exact erP_m hq (by omega) (by omega)
    · exact innB_e _ _ _ _ _ e1.2 h
theorem lnP_e {T : List Nat} {n : Nat} {L : Nat → Nat} {q : Nat} {e : Er} (hL : okP L) (hq : q ≤ n) (h : lnP T n L q = .inl e) : erP n e := by
  rcases bnE_l h with h | ⟨⟨L1, q1⟩, h1, h⟩
  · exact bdP_e hq h
  · obtain ⟨_, _, g3, _⟩ := bdP_ok hL hq h1
    rcases bnE_l h with h | ⟨y, _, h⟩
    · exact sgnP_e g3 h
    · cases h
theorem prsP_ok {T : List Nat} {n : Nat} (h5 : n ≤ 500) : ∀ (f : Nat) (L : Nat → Nat) (q : Nat), okP L → L 151 ≤ q → q ≤ n → (∀ e, prsP T n f L q = .inl e → erP n e) ∧ ∀ L', prsP T n f L q = .inr L' → okP L' := by
  intro f
  induction f with
  | zero =>
    intro L q hL _ _
    rw [prsP]
    exact ⟨(fun e h => by cases h), fun L' h => by cases h; exact hL⟩
  | succ f ih =>
    intro L q hL h1 h2
    rw [prsP]
    by_cases c : tK T n q = 9
    · rw [if_pos c]
      exact ⟨(fun e h => by cases h), fun L' h => by cases h; exact hL⟩
    rw [if_neg c]
    cases hn : lnP T n L q with
    | inl e => exact ⟨(fun e' h => by cases h; exact lnP_e hL h2 hn), fun L' h => by cases h⟩
    | inr z =>
      obtain ⟨L', q'⟩ := z
      obtain ⟨o1, o2, o3, o4⟩ := lnP_ok hL h2 hn
      exact ih (upL L' 151 (L 151 + 1)) q' (okP_li o1 (by omega)) (by rw [upL_e]; omega) o3
theorem okT_S {S : St} (hS : SOK S) {n : Nat} (h : n ≤ (sT S).length) : okT (sT S) n := by
  have h1 := hS.2.2.2.1
  refine ⟨by omega, fun k => ?_⟩
  by_cases c : k < (sT S).length
  · exact h1.2 _ (say_mem c)
  · rw [List.getD_eq_getElem?_getD, List.getElem?_eq_none (by omega)]
    exact (by omega : (0 : Nat) < 256)
theorem ok_lore {S : St} {x : Int} (hS : SOK S) : SOK (f_lore S x).2 := by
  unfold f_lore
  by_cases c : 0 ≤ x ∧ x ≤ ((sT S).length : Int)
  · rw [if_pos c]
    have h5 := (okT_S hS (n := x.toNat) (by omega)).1
    obtain ⟨g1, g2⟩ := prsP_ok (T := sT S) (n := x.toNat) h5 x.toNat L00 0 okP_00 (by decide) (by omega)
    cases hn : prsP (sT S) x.toNat x.toNat L00 0 with
    | inl e =>
      obtain ⟨e1, e2, e3⟩ := g1 e hn
      exact ⟨hS.1, hS.2.1, hS.2.2.1, ⟨Nat.zero_le _, fun x hx => by cases hx⟩, e2, by show (-1 : Int) ≤ (e.2 : Int); omega, by show (e.2 : Int) ≤ 500; omega⟩
    | inr L =>
      have o := g2 L hn
      exact ⟨⟨o.1, Nat.zero_le _, (fun v hv => by cases hv), (fun z => absurd rfl z), Nat.zero_le _, (fun p hp9 => by cases hp9)⟩, hS.2.1, hS.2.2.1, ⟨Nat.zero_le _, fun x hx => by cases hx⟩, Nat.zero_le _, by show (-1 : Int) ≤ -1; omega, by show (-1 : Int) ≤ 500; omega⟩
  · rw [if_neg c]
    exact hS
theorem CH.tp {D D' : DD} {S : St} {a : Nat} {e : Int} (hS : SOK S) (h : CH D S) (f : fr (fun t i k => cX t i k ∨ t = 7) D D') (h1 : D' 7 0 1 = (a : Int)) (h2 : D' 7 0 2 = e) (h3 : D' 7 0 3 = 0) : CH D' (stL S (sW S) a e) := by
  obtain ⟨g1, g2, g3, g4⟩ := h
  refine ⟨g1.on hS.1 ?_ ?_ ?_ ?_ ?_, fun i hi => (g2 i hi).on hi (hS.2.1 i hi) fun t j k n _ n7 _ _ _ _ _ _ _ => f t j k (fun z => z.elim n n7), fun r hr => (g3 r hr).on fun t k ht => f t r k (by unfold cX; omega), h1, h2, h3, fun k hk => by cases hk⟩
  · exact fun t k ht => f t _ k (by unfold cX; omega)
  · exact f 2 0 1 (by unfold cX; omega)
  · exact fun t j k ht h1 h2 => f t j k (by unfold cX; omega)
  · exact f 6 0 0 (by unfold cX; omega)
  · exact fun t k ht => f t _ k (by unfold cX; omega)
theorem C_lore {X : Nat × (Nat → Int)} {d : Nat} {D : DD} {S : St} {x : Int} (hd : 16 ≤ d) (hS : SOK S) (hC : CH D S) : cRes X d m_N_lore [vI x] D (f_lore S x) := by
  obtain ⟨d, rfl⟩ : ∃ e, d = e + 1 := ⟨d - 1, by omega⟩
  obtain ⟨q1, q2, q3, q4⟩ := hC.2.2.2
  unfold cRes f_lore
  rw [e_N_lore, b_N_lore_0, q3]
  by_cases c : 0 ≤ x ∧ x ≤ ((sT S).length : Int)
  · obtain ⟨n, rfl⟩ : ∃ t : Nat, x = (t : Int) := ⟨x.toNat, by omega⟩
    have hT := okT_S hS (n := n) (by omega)
    have h5 := hT.1
    rw [if_neg (by omega), if_pos c.2, if_pos c, Int.toNat_natCast]
    have txt : cG (ev X d m_Reader_readText [vR 7 0, vI (n : Int)] (hp D)) (u3 (u3 D 7 0 5 (n : Int)) 7 0 3 0) (prsP (sT S) n n L00 0) PT := by
      obtain ⟨d, rfl⟩ : ∃ e, d = e + 1 := ⟨d - 1, by omega⟩
      obtain ⟨D1, a1, a2, a3⟩ := s_C_clear (X := X) (d := d) (D := u3 (u3 (u3 (u3 (u3 D 7 0 5 (n : Int)) 7 0 3 0) 7 0 6 0) 7 0 1 0) 7 0 2 (-1)) (by omega)
      have k7 : ∀ k, D1 7 0 k = u3 (u3 (u3 (u3 (u3 D 7 0 5 (n : Int)) 7 0 3 0) 7 0 6 0) 7 0 1 0) 7 0 2 (-1) 7 0 k := fun k => a3 7 0 k (by unfold lP; omega)
      have hC1 : CT D1 (sT S) n := ⟨by rw [k7, u3_k (by omega), u3_k (by omega), u3_k (by omega), u3_k (by omega), u3_eq], fun k hk => by rw [a3 61 0 k (by unfold lP; omega), u3_t (by omega), u3_t (by omega), u3_t (by omega), u3_t (by omega), u3_t (by omega)]; exact q4 k (by omega)⟩
      obtain ⟨D2, b1, b2, b3⟩ := s_C_nextToken (X := X) (d := d) (D := D1) (p := 0) (by omega) hT (by omega) hC1 (by rw [k7, u3_k (by omega), u3_k (by omega), u3_eq]; rfl)
      have hr : RKq D2 (sT S) n 0 := ⟨b2, by rw [b3 7 0 1 (by unfold nF; omega), k7, u3_k (by omega), u3_eq], by rw [b3 7 0 2 (by unfold nF; omega), k7, u3_eq]⟩
      have g := s_C_text (X := X) (d := d) (by omega) hT n 0 L00 0 D2 (vI (n : Int)) (by omega) (by decide) (by omega) (by omega) okP_00 (a2.fr b3) hr
      have f2 : fr rF (u3 (u3 D 7 0 5 (n : Int)) 7 0 3 0) D2 := (((((fr.rf _).u (Or.inl ⟨rfl, rfl, by omega⟩)).u (Or.inl ⟨rfl, rfl, by omega⟩)).u (Or.inl ⟨rfl, rfl, by omega⟩)).tr (a3.mo fun t i k z => Or.inr z)).tr (b3.mo fun _ _ _ z => nF_rF z)
      refine g.tr f2 fun b D' _ z => ?_
      rw [e_Reader_readText, b_Reader_readText_0, if_neg (by omega), a1]
      simp only [ab_cv]
      rw [b_Reader_readText_40, b1]
      simp only [ab_cv]
      rw [b_Reader_readText_44]
      exact z
    have f0 : fr (fun t i k => cX t i k ∨ t = 7) D (u3 (u3 D 7 0 5 (n : Int)) 7 0 3 0) := ((fr.rf D).u (Or.inr rfl)).u (Or.inr rfl)
    have rx : ∀ t i k, rF t i k → cX t i k ∨ t = 7 := fun t i k z => by unfold rF at z; unfold cX; omega
    have e3 : u3 (u3 D 7 0 5 (n : Int)) 7 0 3 0 7 0 3 = 0 := by rw [u3_eq]
    unfold cG at txt
    cases hn : prsP (sT S) n n L00 0 with
    | inl e =>
      rw [hn] at txt
      obtain ⟨D1, a1, a2, a3⟩ := txt
      have f1 := f0.tr (a3.mo rx)
      obtain ⟨g1, g2⟩ := prsP_ok (T := sT S) (n := n) h5 n L00 0 okP_00 (by decide) (by omega)
      obtain ⟨e1, e2, e4⟩ := g1 e hn
      rw [a1]
      simp only [ab_ci]
      rw [b_N_lore_26, if_neg (by decide), a2.1, zb_w (by omega) (by omega)]
      exact ⟨D1, rfl, hC.tp hS f1 a2.1 a2.2 ((a3 7 0 3 (by unfold rF; omega)).trans e3), f1.mo fun t i k z => by unfold cX at z; unfold cY; omega⟩
    | inr L =>
      rw [hn] at txt
      obtain ⟨D1, a1, ⟨t1, t2, t3, t4⟩, a3⟩ := txt
      have f1 := f0.tr (a3.mo rx)
      have hCn := hC.tp (a := 0) hS f1 t1 t2 ((a3 7 0 3 (by unfold rF; omega)).trans e3)
      obtain ⟨d, rfl⟩ : ∃ e, d = e + 1 := ⟨d - 1, by omega⟩
      obtain ⟨D2, b1, b2, b3⟩ := s_C_loreLike (X := X) (d := d) (D := D1) (a := 1) (b := 0) (by omega) (by omega) t4.1 t3.1
      rw [a1]
      simp only [ab_ci]
      rw [b_N_lore_26, if_pos (by decide), e_World_beginWith, b_World_beginWith_0, R10_0 (by omega)]
      simp only [ab_rf]
      rw [b_World_beginWith_4, b1]
      simp only [ab_cv]
      rw [b_World_beginWith_8, R10_1 (by omega)]
      simp only [ab_rf]
      rw [b_World_beginWith_12]
      simp only [ab_cv]
      rw [b_N_lore_54, show cQ 0 = 0 from rfl, u3_t (by omega), u3_t (by omega), b2.1.2.2.1]
      have f3 : ∀ t i k, ¬ ((t = 5 ∨ (51 ≤ t ∧ t ≤ 55)) ∧ i = 1) → ¬ (t = 2 ∧ i = 0) → ¬ (t = 6 ∧ i = 0) → u3 (u3 D2 2 0 1 0) 6 0 0 0 t i k = D1 t i k := fun t i k n1 n2 n3 => by
        rw [u3_a, if_neg (by omega), u3_a, if_neg (by omega)]
        exact b3 t i k n1
      obtain ⟨c1, c2, c3, c4⟩ := hCn
      refine ⟨_, rfl, ⟨⟨?_, ?_, (fun c v hv => by cases hv), ?_, (fun p l hp9 => by cases hp9)⟩, fun i hi => ?_, fun r hr => ?_, ?_⟩, ?_⟩
      · exact b2.on fun t k ht => by rw [u3_t (by omega), u3_t (by omega)]
      · rw [u3_t (by omega), u3_eq]; rfl
      · rw [u3_eq]; rfl
      · exact (c2 i hi).on hi (hS.2.1 i hi) fun t j k n1 n2 n3 n4 n5 n6 n7 n8 n9 n10 => f3 t j k (fun z => n7 z) (fun z => n8 z) (fun z => n9 ⟨Or.inl z.1, z.2⟩)
      · exact (c3 r hr).on fun t k ht => f3 t r k (by omega) (by omega) (by omega)
      · exact TC.on (S := stL S (L, [], []) 0 (-1)) (D := D1) c4 (fun k hk => f3 7 0 k (by omega) (by omega) (by omega)) (fun k => f3 61 0 k (by omega) (by omega) (by omega))
      · refine (f1.mo fun t i k z => by unfold cX at z; unfold cY; omega).tr (fun t i k n => f3 t i k ?_ ?_ ?_) <;> (unfold cY at n; omega)
  · rw [if_neg c]
    by_cases c1 : x < 0
    · rw [if_pos c1]
      exact ⟨D, rfl, hC, fr.rf D⟩
    · rw [if_neg c1, if_neg (by omega)]
      exact ⟨D, rfl, hC, fr.rf D⟩
end
