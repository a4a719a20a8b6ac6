/-! the beginning: what both sides hold behind their constructors -/
section
def D00 : DD := fun t i k => if t = 3 ∧ k = 0 ∧ i < 30 then 1 else if t = 5 ∧ k = 1 ∧ i < 4 then 9 else if t = 7 ∧ i = 0 ∧ k = 2 then -1 else if t = 12 ∧ i = 0 ∧ k = 14 then -1 else if t = 22 ∧ i = 0 ∧ k = 1 then 9 else if t = 40 ∧ i = 0 ∧ k < 4 then -1 else 0
def S00 : St := ((L00, [], []), fun _ => none, fun _ => none, [], 0, -1)
theorem D00_0 {t i k : Nat} (h1 : t ≠ 3) (h2 : t ≠ 5) (h3 : t ≠ 7) (h4 : t ≠ 12) (h5 : t ≠ 22) (h6 : t ≠ 40) : D00 t i k = 0 := by
  unfold D00
  rw [if_neg (by omega), if_neg (by omega), if_neg (by omega), if_neg (by omega), if_neg (by omega), if_neg (by omega)]
theorem SOK_00 : SOK S00 := ⟨⟨okP_00.1, Nat.zero_le _, (fun v hv => by cases hv), (fun z => absurd rfl z), Nat.zero_le _, (fun p h => by cases h)⟩, fun _ _ => trivial, fun _ _ => trivial, ⟨Nat.zero_le _, fun x hx => by cases hx⟩, Nat.zero_le _, by show (-1 : Int) ≤ -1; omega, by show (-1 : Int) ≤ 500; omega⟩
theorem L00_0 {k : Nat} (h : k ≠ 1) : L00 k = 0 := by unfold L00; rw [if_neg h]
theorem CH_00 : CH D00 S00 := by
  refine ⟨⟨⟨⟨rfl, rfl, rfl, rfl⟩, fun t _ => ?_, fun t _ => ?_, fun t ht => ?_, fun t _ => ?_, fun i k hi hk => ?_⟩, rfl, (fun c v hv => by cases hv), rfl, (fun p l h => by cases h)⟩, fun i _ => ?_, fun r _ => ?_, rfl, rfl, rfl, fun k hk => by cases hk⟩
  · rw [D00_0 (by omega) (by omega) (by omega) (by omega) (by omega) (by omega)]
    show (0 : Int) = (L00 (2 + t) : Int)
    rw [L00_0 (by omega)]; rfl
  · rw [D00_0 (by omega) (by omega) (by omega) (by omega) (by omega) (by omega)]
    show (0 : Int) = (L00 (18 + t) : Int)
    rw [L00_0 (by omega)]; rfl
  · have ht : t < 0 := ht
    omega
  · rw [D00_0 (by omega) (by omega) (by omega) (by omega) (by omega) (by omega)]
    show (0 : Int) = (L00 (51 + t) : Int)
    rw [L00_0 (by omega)]; rfl
  · have hk : k < L00 (51 + i) := hk
    rw [L00_0 (by omega)] at hk
    omega
  · show D00 10 (i + 1) 3 = 0
    exact D00_0 (by omega) (by omega) (by omega) (by omega) (by omega) (by omega)
  · show D00 8 r 2 = 0
    exact D00_0 (by omega) (by omega) (by omega) (by omega) (by omega) (by omega)
theorem MH_00 : MH D00 S00 := by
  have h22 : ∀ k, k ≠ 1 → D00 22 0 k = 0 := fun k hk => by
    unfold D00
    rw [if_neg (by omega), if_neg (by omega), if_neg (by omega), if_neg (by omega), if_neg (by omega), if_neg (by omega)]
  refine ⟨⟨fun k hk => ?_, ?_, (fun c v hv => by cases hv), ?_, (fun p l h => by cases h)⟩, fun i _ => ?_, fun r hr => ?_, rfl, rfl, rfl, fun k hk => by cases hk⟩
  · rw [Nat.zero_add]
    show D00 22 0 k = (L00 k : Int)
    by_cases e : k = 1
    · subst e; rfl
    · rw [h22 k e, L00_0 e]; rfl
  · rw [h22 _ (by omega)]; rfl
  · rw [h22 _ (by omega)]; rfl
  · show D00 23 0 i = 0
    exact D00_0 (by omega) (by omega) (by omega) (by omega) (by omega) (by omega)
  · show D00 40 0 r = -1
    unfold D00
    rw [if_neg (by omega), if_neg (by omega), if_neg (by omega), if_neg (by omega), if_neg (by omega), if_pos ⟨rfl, rfl, hr⟩]
/-- the law from the loop's head on -/
theorem law_18 {X : Nat × (Nat → Int)} {d : Nat} (hd : 80 ≤ d) (hX : X.1 ≤ 3072) (hx : ∀ k, i32 (X.2 k)) : ∃ D', at_ X d cd_law_law 18 [vS 1000, vR 11 0, vR 12 0, vI 0] [] (hp D00) = some (some (vI 1), hp D') := law_loop hd hX hx X.1 0 D00 S00 (by omega) (by omega) SOK_00 CH_00 MH_00
end
