/-! told: pure, the reference -/
section
abbrev TBt : Type := Int × Nat × List Nat
def wgh (L : Nat → Nat) (n inn : Nat) (ts : List Nat) (b : TBt) : TBt := if b.1 < (wrS L (thV L n ts inn) : Int) then ((wrS L (thV L n ts inn) : Int), thV L n ts inn, ts) else b
def tlV (L : Nat → Nat) (n inn : Nat) : Nat → Nat → List Nat → TBt → TBt
  | 0, _, ts, b => wgh L n inn ts b
  | f + 1, left, ts, b => if left = 0 then wgh L n inn ts b else (List.range' 0 (L 0)).foldl (fun b t => if left.testBit t = true then tlV L n inn f (nd left (2 ^ t)) (ts ++ [t]) b else b) b
def okB (N : Nat) (b : TBt) : Prop := b.1 = -1 ∨ (0 ≤ b.1 ∧ b.2.2.length = N)
theorem wgh_ok {L : Nat → Nat} {n inn N : Nat} {ts : List Nat} {b : TBt} (h : ts.length = N) (hb : okB N b) : okB N (wgh L n inn ts b) ∧ 0 ≤ (wgh L n inn ts b).1 := by
  unfold wgh
  split
  · refine ⟨Or.inr ⟨?_, h⟩, ?_⟩
    · show (0 : Int) ≤ (wrS L _ : Int); omega
    · show (0 : Int) ≤ (wrS L _ : Int); omega
  · rename_i h1
    refine ⟨hb, ?_⟩
    omega
theorem pc_nd_eq {s w : Nat} (hs : s < 65536) (hw : s.testBit w = true) (h16 : w < 16) : pc (nd s (2 ^ w)) + 1 = pc s := by
  have h1 := pc_nd hs hw
  have h2 := pc_or (s := nd s (2 ^ w)) (t := w) (nd_lt (k := 16) hs) h16
  have e : nd s (2 ^ w) ||| 2 ^ w = s := by
    apply Nat.eq_of_testBit_eq
    intro i
    rw [Nat.testBit_or, nd_bit, Nat.testBit_two_pow]
    by_cases e : w = i
    · subst e; rw [decide_eq_true rfl, hw]; rfl
    · rw [decide_eq_false e, Bool.not_false, Bool.and_true, Bool.or_false]
  rw [e] at h2
  omega
theorem has_bit {s n : Nat} (hs : s < 2 ^ n) (h0 : s ≠ 0) : ∃ q, q < n ∧ s.testBit q = true := by
  apply Classical.byContradiction
  intro hno
  apply h0
  apply Nat.eq_of_testBit_eq
  intro i
  rw [Nat.zero_testBit]
  cases q : s.testBit i with
  | false => rfl
  | true => exact absurd ⟨i, bit_lt hs q, q⟩ hno
theorem tl_ok {L : Nat → Nat} {n inn N : Nat} (h16 : L 0 ≤ 16) : ∀ (f left : Nat) (ts : List Nat) (b : TBt), left < 2 ^ L 0 → pc left ≤ f → ts.length + pc left = N → okB N b → okB N (tlV L n inn f left ts b) ∧ 0 ≤ (tlV L n inn f left ts b).1 := by
  have hp9 : 2 ^ L 0 ≤ 2 ^ 16 := p2le h16
  intro f
  induction f with
  | zero => exact fun left ts b h1 h2 h3 h4 => wgh_ok (by omega) h4
  | succ f ih =>
    intro left ts b h1 h2 h3 h4
    rw [tlV]
    by_cases e : left = 0
    · subst e
      rw [if_pos rfl]
      have : pc 0 = 0 := by decide
      exact wgh_ok (by omega) h4
    rw [if_neg e]
    have keep : ∀ (m p : Nat) (b : TBt), p + m ≤ L 0 → okB N b → (0 ≤ b.1 ∨ ∃ q, p ≤ q ∧ q < p + m ∧ left.testBit q = true) → okB N ((List.range' p m).foldl (fun b t => if left.testBit t = true then tlV L n inn f (nd left (2 ^ t)) (ts ++ [t]) b else b) b) ∧ 0 ≤ ((List.range' p m).foldl (fun b t => if left.testBit t = true then tlV L n inn f (nd left (2 ^ t)) (ts ++ [t]) b else b) b).1 := by
      intro m
      induction m with
      | zero =>
        intro p b _ hb h
        rcases h with h | ⟨q, q1, q2, _⟩
        · exact ⟨hb, h⟩
        · omega
      | succ m ihm =>
        intro p b hp8 hb h
        rw [List.range'_succ, List.foldl_cons]
        by_cases hbit : left.testBit p = true
        · rw [if_pos hbit]
          have hpn := pc_nd_eq (s := left) (w := p) (by omega) hbit (by omega)
          obtain ⟨e1, e2⟩ := ih (nd left (2 ^ p)) (ts ++ [p]) b (nd_lt h1) (by omega) (by rw [List.length_append, List.length_singleton]; omega) hb
          exact ihm (p + 1) _ (by omega) e1 (Or.inl e2)
        · rw [if_neg hbit]
          refine ihm (p + 1) b (by omega) hb ?_
          rcases h with h | ⟨q, q1, q2, q3⟩
          · exact Or.inl h
          · have : q ≠ p := fun z => hbit (z ▸ q3)
            exact Or.inr ⟨q, by omega, by omega, q3⟩
    obtain ⟨q, q1, q2⟩ := has_bit h1 e
    exact keep (L 0) 0 b (by omega) h4 (Or.inr ⟨q, by omega, by omega, q2⟩)
-- the reference
def TBm (D : DD) (b : TBt) : Prop := D 12 0 24 = b.1 ∧ (0 ≤ b.1 → D 12 0 25 = (b.2.1 : Int) ∧ ∀ j, j < b.2.2.length → D 31 0 j = (b.2.2.getD j 0 : Nat))
def uQ : Nat → Nat → Nat → Prop := fun t i k => tQ t i k ∨ (i = 0 ∧ ((t = 12 ∧ (k = 24 ∨ k = 25)) ∨ t = 30 ∨ t = 31))
theorem uQ_mX {t i k : Nat} (h : uQ t i k) : mX t i k := by
  rcases h with h | h
  · exact tQ_mX h
  · unfold mX; omega
theorem s_M_weigh {X : Nat × (Nat → Int)} {d : Nat} {D : DD} {S : St} {n inn : Nat} {ts : List Nat} {b : TBt} {l1 : Int} (hd : 8 ≤ d) (hS : SOK S) (hM : MH D S) (h1 : 1 ≤ n) (h9 : n ≤ 9) (h6 : ts.length ≤ 6) (hts : ∀ t ∈ ts, t < 16) (hi : inn < 10) (h : TL D ts) (hb : TBm D b) (hl : l1 = 0) : ∃ D', at_ X d cd_M_tellsAll 0 [vR 12 0, vI l1, vI (ts.length : Int), vI (n : Int), vI (inn : Int), vU, vU] [] (hp D) = some (none, hp D') ∧ TL D' ts ∧ TBm D' (wgh (sW S).1 n inn ts b) ∧ fr uQ D D' := by
  obtain ⟨D1, a1, a2⟩ := s_M_throughOf (X := X) (d := d) (D := D) (n := n) (inn := inn) (ts := ts) (by omega) hS.L hM.l h1 h9 (by omega) hts hi h
  have hM1 : MH D1 S := hM.scr hS (a2.mo fun _ _ _ z => tQ_mX z)
  have hth := thV_lt hS.L (n := n) h1 h9 hts hi
  have hnt : ∀ t k, t = 12 ∨ t = 30 ∨ t = 31 → D1 t 0 k = D t 0 k := fun t k ht => a2 t 0 k (by unfold tQ mP; omega)
  have f1 : fr uQ D D1 := a2.mo fun _ _ _ z => Or.inl z
  have h1' : TL D1 ts := fun j hj => (hnt 30 j (by omega)).trans (h j hj)
  have e24 : D1 12 0 24 = b.1 := (hnt 12 24 (by omega)).trans hb.1
  rw [b_M_tellsAll_0, if_neg (by omega), a1]
  simp only [ab_ci]
  rw [b_M_tellsAll_12, s_M_worthOf (by omega) hS.L hM1.l hth]
  simp only [ab_ci]
  rw [b_M_tellsAll_20, e24]
  unfold wgh
  by_cases c : b.1 < (wrS (sW S).1 (thV (sW S).1 n ts inn) : Int)
  · rw [if_pos c, if_pos c, s_M_worthOf (by omega) hS.L hM1.l hth]
    simp only [ab_ci]
    rw [b_M_tellsAll_35]
    have cp : ∀ (m k : Nat) (v5 : ab_V) (D2 : DD), k + m = ts.length → TL D2 ts → D2 12 0 24 = (wrS (sW S).1 (thV (sW S).1 n ts inn) : Int) → D2 12 0 25 = (thV (sW S).1 n ts inn : Int) → (∀ j, j < k → D2 31 0 j = (ts.getD j 0 : Nat)) → fr uQ D D2 → ∃ D', at_ X d cd_M_tellsAll 47 [vR 12 0, vU, vI (ts.length : Int), vU, vU, v5, vI (k : Int)] [] (hp D2) = some (none, hp D') ∧ TL D' ts ∧ TBm D' ((wrS (sW S).1 (thV (sW S).1 n ts inn) : Int), thV (sW S).1 n ts inn, ts) ∧ fr uQ D D' := by
      intro m
      induction m with
      | zero =>
        intro k v5 D2 hk c1 c2 c3 c4 cf
        rw [b_M_tellsAll_47, if_pos (by omega)]
        exact ⟨D2, rfl, c1, ⟨c2, fun _ => ⟨c3, fun j hj => c4 j (by have hj : j < ts.length := hj; omega)⟩⟩, cf⟩
      | succ m ih =>
        intro k v5 D2 hk c1 c2 c3 c4 cf
        rw [b_M_tellsAll_47, if_neg (by omega), if_pos (by omega), if_pos (by omega), Int.toNat_natCast, c1 k (by omega), zb_s (by omega)]
        refine ih (k + 1) vU _ (by omega) (fun j hj => by rw [u3_t (by omega)]; exact c1 j hj) (by rw [u3_t (by omega), c2]) (by rw [u3_t (by omega), c3]) (fun j hj => ?_) (cf.u (Or.inr ⟨rfl, Or.inr (Or.inr rfl)⟩))
        rw [u3_a]
        by_cases e : j = k
        · rw [if_pos ⟨rfl, rfl, e⟩, e]
        · rw [if_neg (fun z => e z.2.2)]
          exact c4 j (by omega)
    exact cp ts.length 0 _ _ (by omega) (fun j hj => by rw [u3_t (by omega), u3_t (by omega)]; exact h1' j hj) (by rw [u3_k (by omega), u3_eq]) (by rw [u3_eq]) (fun j hj => by omega) ((f1.u (Or.inr ⟨rfl, Or.inl ⟨rfl, Or.inl rfl⟩⟩)).u (Or.inr ⟨rfl, Or.inl ⟨rfl, Or.inr rfl⟩⟩))
  · rw [if_neg c, if_neg c]
    exact ⟨D1, rfl, h1', ⟨e24, fun z => ⟨(hnt 12 25 (by omega)).trans (hb.2 z).1, fun j hj => (hnt 31 j (by omega)).trans ((hb.2 z).2 j hj)⟩⟩, f1⟩
theorem TL.pre {D : DD} {row r : List Nat} (h : TL D (row ++ r)) : TL D row := fun j hj => by
  have := h j (by rw [List.length_append]; omega)
  rw [getD_app, if_pos hj] at this
  exact this
theorem s_M_tellsAll {X : Nat × (Nat → Int)} {S : St} {n inn : Nat} (hS : SOK S) (h1 : 1 ≤ n) (h9 : n ≤ 9) (hi : inn < 10) : ∀ (f left d : Nat) (ts : List Nat) (b : TBt) (D : DD), f + 10 ≤ d → MH D S → left < 2 ^ (sW S).1 0 → pc left ≤ f → ts.length + pc left ≤ 6 → (∀ t ∈ ts, t < 16) → TL D ts → TBm D b → ∃ D', ev X d m_M_tellsAll [vR 12 0, vI (left : Int), vI (ts.length : Int), vI (n : Int), vI (inn : Int)] (hp D) = some (none, hp D') ∧ TL D' ts ∧ TBm D' (tlV (sW S).1 n inn f left ts b) ∧ fr uQ D D' := by
  have h16 := hS.L.1.1
  have hp9 : 2 ^ (sW S).1 0 ≤ 2 ^ 16 := p2le h16
  intro f
  induction f with
  | zero =>
    intro left d ts b D hd hM hl hpc hlen hts ht hb
    obtain ⟨d, rfl⟩ : ∃ e, d = e + 1 := ⟨d - 1, by omega⟩
    have e := pc_z (by omega) (Nat.le_zero.mp hpc)
    subst e
    rw [e_M_tellsAll, tlV]
    exact s_M_weigh (by omega) hS hM h1 h9 (by omega) hts hi ht hb rfl
  | succ f ih =>
    intro left d ts b D hd hM hl hpc hlen hts ht hb
    obtain ⟨d, rfl⟩ : ∃ e, d = e + 1 := ⟨d - 1, by omega⟩
    rw [e_M_tellsAll, tlV]
    by_cases e : left = 0
    · subst e
      rw [if_pos rfl]
      exact s_M_weigh (by omega) hS hM h1 h9 (by omega) hts hi ht hb rfl
    rw [if_neg e, b_M_tellsAll_0, if_pos (by omega)]
    have key : ∀ (m p : Nat) (b : TBt) (D1 : DD), p + m = (sW S).1 0 → TL D1 ts → TBm D1 b → fr uQ D D1 → ∃ D', at_ X d cd_M_tellsAll 77 [vR 12 0, vI (left : Int), vI (ts.length : Int), vI (n : Int), vI (inn : Int), vI (p : Int), vU] [] (hp D1) = some (none, hp D') ∧ TL D' ts ∧ TBm D' ((List.range' p m).foldl (fun b t => if left.testBit t = true then tlV (sW S).1 n inn f (nd left (2 ^ t)) (ts ++ [t]) b else b) b) ∧ fr uQ D D' := by
      intro m
      induction m with
      | zero =>
        intro p b D1 hp8 ht hb hf
        have hM1 : MH D1 S := hM.scr hS (hf.mo fun _ _ _ z => uQ_mX z)
        have e0 : D1 22 0 0 = ((sW S).1 0 : Int) := hM1.l 0 (by omega)
        rw [b_M_tellsAll_77, e0, if_pos (by omega)]
        exact ⟨D1, rfl, ht, hb, hf⟩
      | succ m ihm =>
        intro p b D1 hp8 ht hb hf
        have hM1 : MH D1 S := hM.scr hS (hf.mo fun _ _ _ z => uQ_mX z)
        have e0 : D1 22 0 0 = ((sW S).1 0 : Int) := hM1.l 0 (by omega)
        rw [List.range'_succ, List.foldl_cons, b_M_tellsAll_77, e0, if_neg (by omega), zb_bit (by omega) (by omega)]
        by_cases hbit : left.testBit p = true
        · have hpn := pc_nd_eq (s := left) (w := p) (by omega) hbit (by omega)
          have h2 : 2 ^ p < 2 ^ 16 := zb_p2 (by omega)
          have f2 : fr uQ D1 (u3 D1 30 0 ts.length (p : Int)) := (fr.rf D1).u (Or.inr ⟨rfl, Or.inr (Or.inl rfl)⟩)
          have t2 : TL (u3 D1 30 0 ts.length (p : Int)) (ts ++ [p]) := by
            intro j hj
            rw [List.length_append, List.length_singleton] at hj
            rw [u3_a, getD_snoc (by omega)]
            by_cases e : j = ts.length
            · rw [if_pos ⟨rfl, rfl, e⟩, if_pos e]
            · rw [if_neg (fun z => e z.2.2), if_neg e]
              exact ht j (by omega)
          have b2 : TBm (u3 D1 30 0 ts.length (p : Int)) b := ⟨by rw [u3_t (by omega)]; exact hb.1, fun z => ⟨by rw [u3_t (by omega)]; exact (hb.2 z).1, fun j hj => by rw [u3_t (by omega)]; exact (hb.2 z).2 j hj⟩⟩
          obtain ⟨D3, c1, c2, c3, c4⟩ := ih (nd left (2 ^ p)) d (ts ++ [p]) b _ (by omega) (hM1.scr hS (f2.mo fun _ _ _ z => uQ_mX z)) (nd_lt hl) (by omega) (by rw [List.length_append, List.length_singleton]; omega) (fun t h => by
            rcases List.mem_append.mp h with z | z
            · exact hts t z
            · rw [List.mem_singleton.mp z]; omega) t2 b2
          rw [List.length_append, List.length_singleton] at c1
          rw [if_pos hbit, if_pos (by decide), if_pos hbit, if_pos (by omega), Int.toNat_natCast, zb_sl (by omega), zb_nd (by omega) (by omega), zb_s (by omega), c1]
          simp only [ab_cv]
          rw [b_M_tellsAll_126, zb_s (by omega)]
          exact ihm (p + 1) _ D3 (by omega) (TL.pre c2) c3 ((hf.tr f2).tr c4)
        · rw [if_neg hbit, if_neg (by decide), if_neg hbit, b_M_tellsAll_126, zb_s (by omega)]
          exact ihm (p + 1) b D1 (by omega) ht hb hf
    exact key ((sW S).1 0) 0 b D (by omega) ht hb (fr.rf D)
end
