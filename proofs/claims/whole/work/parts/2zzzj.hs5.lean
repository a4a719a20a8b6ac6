/-! colourings as even as can be: the theorem -/
section
theorem near {adj : Nat → Nat → Bool} (sym : ∀ u v, adj u v = adj v u) {V : List Nat} {k s : Nat} (hV : V.Nodup) (hd : ∀ v ∈ V, V.countP (adj v) < k) (hks : V.length ≤ k * s) (IH : ∀ (V' : List Nat) (k' : Nat), V'.length < V.length → V'.Nodup → (∀ v ∈ V', V'.countP (adj v) < k') → V'.length ≤ k' * s → ∃ c, prC V' adj k' c ∧ ∀ i, i < k' → szC V' c i ≤ s) : ∀ (q : Nat) (c : Nat → Nat) (p : Nat), p < k → prC V adj k c → (∀ i, i < k → i ≠ p → szC V c i ≤ s) → szC V c p ≤ s + 1 → (kL k).countP (fun i => !dcP (AcX V adj k s c k i)) ≤ q → ∃ c', prC V adj k c' ∧ ∀ i, i < k → szC V c' i ≤ s := by
  intro q
  induction q with
  | zero =>
    intro c p hp9 hc h1 h2 hq
    have hacc : AcX V adj k s c k p := by
      apply Classical.byContradiction
      intro hno
      have := cn_pos (l := kL k) (P := fun i => !dcP (AcX V adj k s c k i)) (kL_mem.mpr hp9) (by rw [dcP_f.mpr hno]; rfl)
      omega
    obtain ⟨c', g1, g2, g3, g4⟩ := sh_acc hV sym hc hacc
    refine ⟨c', g1, fun i hi => ?_⟩
    by_cases e : i = p
    · rw [e]; rcases g2 with g | g <;> omega
    · have := h1 i hi e
      rcases g3 i e with g | g <;> omega
  | succ q ihq =>
    intro c p hp9 hc h1 h2 hq
    by_cases hbig : szC V c p ≤ s
    · exact ⟨c, hc, fun i hi => by
        by_cases e : i = p
        · rw [e]; exact hbig
        · exact h1 i hi e⟩
    have hps : szC V c p = s + 1 := by omega
    -- the case that the large class reaches a small one
    by_cases hacc : AcX V adj k s c k p
    · obtain ⟨c', g1, g2, g3, g4⟩ := sh_acc hV sym hc hacc
      refine ⟨c', g1, fun i hi => ?_⟩
      by_cases e : i = p
      · rw [e]; rcases g2 with g | g <;> omega
      · have := h1 i hi e
        rcases g3 i e with g | g <;> omega
    generalize ha : (fun i => dcP (AcX V adj k s c k i)) = a
    have hA : ∀ i, a i = true ↔ AcX V adj k s c k i := fun i => by rw [← ha]; exact dcP_iff
    have hAf : ∀ i, a i = false ↔ ¬ AcX V adj k s c k i := fun i => by rw [← ha]; exact dcP_f
    have hq' : (kL k).countP (fun i => !a i) ≤ q + 1 := by rw [← ha]; exact hq
    generalize hqB : (kL k).countP (fun i => !a i) = Q at hq'
    have hpa : a p = false := (hAf p).mpr hacc
    -- a small class
    have h0 : ∃ i, AcX V adj k s c k i := by
      apply Classical.byContradiction
      intro hno
      have hall : ∀ i, i < k → s ≤ szC V c i := fun i hi => by
        apply Classical.byContradiction
        intro hz
        exact hno ⟨i, 0, hi, Nat.ne_of_lt hi, by omega⟩
      have e1 := szV hc.1 (fun _ => true)
      have e2 : V.countP (fun _ => true) = V.length := List.countP_eq_length.mpr (fun _ _ => rfl)
      have e3 : sN (kL k) (fun i => s + b1 (decide (p = i))) ≤ sN (kL k) (fun i => if true = true then szC V c i else 0) := sN_le fun i hi => by
        rw [if_pos rfl]
        by_cases e : p = i
        · rw [b1_t e, ← e, hps]; omega
        · rw [b1_f e]; exact hall i (kL_mem.mp hi)
      rw [sN_add, sN_const, kL_len, ← cn_sN, cn_eq1 (kL_nd k) (kL_mem.mpr hp9)] at e3
      have e1 : V.countP (fun _ => true) = sN (kL k) (fun i => if true = true then szC V c i else 0) := e1
      omega
    -- B is large
    have hBge : Q * s + 1 ≤ V.countP (fun v => !a (c v)) := by
      have e1 := szV hc.1 (fun i => !a i)
      have e3 : sN (kL k) (fun i => (if (!a i) = true then s else 0) + b1 (decide (p = i))) ≤ sN (kL k) (fun i => if (!a i) = true then szC V c i else 0) := sN_le fun i hi => by
        by_cases e : p = i
        · rw [b1_t e, ← e, hpa, hps]
          rw [if_pos (by rfl), if_pos (by rfl)]
          omega
        · rw [b1_f e]
          cases hx : a i with
          | true => rw [if_neg (by decide), if_neg (by decide)]; omega
          | false =>
            rw [if_pos (by rfl), if_pos (by rfl)]
            apply Classical.byContradiction
            intro hz
            exact (hAf i).mp hx ⟨0, kL_mem.mp hi, Nat.ne_of_lt (kL_mem.mp hi), by omega⟩
      rw [sN_add, ← cn_sN, cn_eq1 (kL_nd k) (kL_mem.mpr hp9)] at e3
      have e4 : Q * s ≤ sN (kL k) (fun i => if (!a i) = true then s else 0) := by
        rw [← hqB]
        exact sN_if fun i _ _ => Nat.le_refl _
      have e1 : V.countP (fun v => !a (c v)) = sN (kL k) (fun i => if (!a i) = true then szC V c i else 0) := e1
      omega
    have hBle : V.countP (fun v => !a (c v)) ≤ Q * s + 1 := by
      have e1 : V.countP (fun v => !a (c v)) = sN (kL k) (fun i => if (!a i) = true then szC V c i else 0) := szV hc.1 (fun i => !a i)
      have e3 : sN (kL k) (fun i => if (!a i) = true then szC V c i else 0) ≤ sN (kL k) (fun i => (if (!a i) = true then s else 0) + b1 (decide (p = i))) := sN_le fun i hi => by
        cases hx : a i with
        | true => rw [if_neg (by decide), if_neg (by decide)]; omega
        | false =>
          rw [if_pos (by rfl), if_pos (by rfl)]
          by_cases e : p = i
          · rw [b1_t e, ← e, hps]; omega
          · have := h1 i (kL_mem.mp hi) (fun z => e z.symm)
            omega
      rw [sN_add, ← cn_sN, cn_eq1 (kL_nd k) (kL_mem.mpr hp9)] at e3
      have e4 : sN (kL k) (fun i => if (!a i) = true then s else 0) ≤ Q * s := by
        rw [← hqB]
        exact sN_ifle fun i _ _ => Nat.le_refl _
      omega
    -- neighbours in A
    have hnb : ∀ w ∈ V, ∀ i, ¬ (∀ u ∈ V, c u = i → adj w u = false) → 1 ≤ nbC V adj c w i := by
      intro w hw i hno
      apply Classical.byContradiction
      intro hz
      apply hno
      intro u hu e
      cases hx : adj w u with
      | false => rfl
      | true => exact absurd (cn_pos hu (by rw [hx, decide_eq_true e]; rfl)) hz
    have hyA : ∀ y ∈ V, a (c y) = false → ∀ i, a i = true → 1 ≤ nbC V adj c y i := by
      intro y hy hb i hi
      apply hnb y hy
      intro hno
      exact (hAf _).mp hb (AcX.st (hc.1 y hy) (Nat.ne_of_lt (hc.1 y hy)) ⟨y, hy, rfl, hno⟩ ((hA i).mp hi))
    have hdB : ∀ y ∈ V, a (c y) = false → dBC V adj c a y + 1 ≤ Q := by
      intro y hy hb
      have := dB_y (a := a) (e := fun _ => true) hc (hd y hy) (fun i _ h _ => hyA y hy hb i h)
      have e0 : (kL k).countP (fun i => a i && !true) = 0 := cn_0 fun i _ => by cases a i <;> rfl
      omega
    -- one colour less for B without one vertex
    have hrest : ∀ y ∈ V, a (c y) = false → ∃ g, prC (V.filter (fun v => !(a (c v) || decide (v = y)))) adj Q g ∧ ∀ i, i < Q → szC (V.filter (fun v => !(a (c v) || decide (v = y)))) g i ≤ s := by
      intro y hy hb
      have hlen : (V.filter (fun v => !(a (c v) || decide (v = y)))).length + 1 = V.countP (fun v => !a (c v)) := by
        rw [← List.countP_eq_length_filter, cn_split V (fun v => !a (c v)) (fun v => decide (y = v))]
        have e1 : V.countP (fun x => !a (c x) && decide (y = x)) = V.countP (fun x => decide (y = x)) := cn_eq fun x _ => by
          by_cases e : y = x
          · rw [← e, hb, decide_eq_true rfl]; rfl
          · rw [decide_eq_false e, Bool.and_false]
        have e2 : V.countP (fun v => !(a (c v) || decide (v = y))) = V.countP (fun x => !a (c x) && !decide (y = x)) := cn_eq fun x _ => by
          by_cases e : y = x
          · rw [decide_eq_true e, decide_eq_true e.symm]; cases a (c x) <;> rfl
          · rw [decide_eq_false e, decide_eq_false (fun z => e z.symm)]; cases a (c x) <;> rfl
        rw [e1, e2, cn_eq1 hV hy]
        omega
      have hBV : V.countP (fun v => !a (c v)) ≤ V.length := cn_len
      refine IH _ Q (by omega) (List.Pairwise.filter _ hV) (fun v hv => ?_) (by omega)
      have hv' := List.mem_filter.mp hv
      have hvb : a (c v) = false := by
        have h9 := hv'.2
        cases hx : a (c v) with
        | false => rfl
        | true => rw [hx] at h9; cases h9
      have := hdB v hv'.1 hvb
      rw [List.countP_filter]
      have : V.countP (fun u => adj v u && !(a (c u) || decide (u = y))) ≤ dBC V adj c a v := cn_le fun u _ z => by
        rw [Bool.and_eq_true] at z ⊢
        refine ⟨z.1, ?_⟩
        have h9 := z.2
        cases hx : a (c u) with
        | false => rfl
        | true => rw [hx] at h9; cases h9
      omega
    obtain ⟨a', U, t1, t2, t3, t4⟩ := termi h0
    have ha' : ∀ i, a' i = true → a i = true := fun i h => (hA i).mpr (t2 i h).1
    have hsA : ∀ i, a i = true → szC V c i ≤ s := fun i h => h1 i ((hA i).mp h).lt.1 (fun e => by rw [e, hpa] at h; cases h)
    by_cases case1 : ∃ z ∈ V, a' (c z) = true ∧ (∃ y ∈ V, a (c y) = false ∧ nbC V adj c y (c z) = 1 ∧ adj y z = true) ∧ ∃ X, a X = true ∧ X ≠ c z ∧ ∀ u ∈ V, c u = X → adj z u = false
    · obtain ⟨z, hz, hza, ⟨y, hy, yb, y1, y2⟩, X, x1, x2, x3⟩ := case1
      obtain ⟨c1, g1, g2, g3, g4⟩ := sh_acc hV sym hc (t3 (c z) hza X ((hA X).mp x1) x2)
      obtain ⟨g, r1, r2⟩ := hrest y hy yb
      have hyz : y ≠ z := fun e => by rw [e, ha' _ hza] at yb; cases yb
      have up : ∀ l, AcX V adj k s c (c z) l → a l = true := fun l ⟨n, h⟩ => (hA l).mpr ⟨n, AcX_k n l h⟩
      have c1z : c1 z = c z := by
        apply Classical.byContradiction
        intro h
        exact (g4 z hz h).1.lt.2 rfl
      have c1y : c1 y = c y := by
        apply Classical.byContradiction
        intro h
        have := up _ (g4 y hy h).1
        rw [yb] at this
        cases this
      have c1W : ∀ v ∈ V, c1 v = c z → c v = c z := fun v hv e => by
        apply Classical.byContradiction
        intro h
        exact (g4 v hv (fun w => h (w ▸ e))).2.1.lt.2 e
      have c1X : ∀ v ∈ V, c1 v = X → c v = X := fun v hv e => by
        apply Classical.byContradiction
        intro h
        exact (g4 v hv (fun w => h (w ▸ e))).2.2 e
      have c1a : ∀ v ∈ V, a (c v) = true → a (c1 v) = true := fun v hv h => by
        by_cases e : c1 v = c v
        · rw [e]; exact h
        · exact up _ (g4 v hv e).2.1
      have cAy : upC (upC c1 z X) y (c z) y = c z := upC_e
      have cAz : upC (upC c1 z X) y (c z) z = X := by rw [upC_n (fun e => hyz e.symm), upC_e]
      have cAn : ∀ v, v ≠ y → v ≠ z → upC (upC c1 z X) y (c z) v = c1 v := fun v v1 v2 => by rw [upC_n v1, upC_n v2]
      have pAe : ∀ v, (a (c v) || decide (v = y)) = true → v ≠ y → a (c v) = true := fun v h n => by
        rw [decide_eq_false n, Bool.or_false] at h; exact h
      have yW : ∀ v ∈ V, c v = c z → v ≠ z → adj y v = false := fun v hv e n => by
        cases hx : adj y v with
        | false => rfl
        | true => exact absurd (cn_one hV (P := fun u => adj y u && decide (c u = c z)) (Nat.le_of_eq y1) hv (by rw [hx, decide_eq_true e]; rfl) hz (by rw [y2, decide_eq_true rfl]; rfl)) n
      have key : ∀ u ∈ V, ∀ v ∈ V, u ≠ v → (u = y ∨ (u = z ∧ v ≠ y)) → (a (c v) || decide (v = y)) = true → adj u v = true → upC (upC c1 z X) y (c z) u ≠ upC (upC c1 z X) y (c z) v := by
        intro u hu v hv huv hcase hpv hadj e
        rcases hcase with e1 | ⟨e1, n1⟩
        · subst e1
          rw [cAy] at e
          by_cases vz : v = z
          · rw [vz, cAz] at e; exact x2 e.symm
          · rw [cAn v (fun w => huv w.symm) vz] at e
            rw [yW v hv (c1W v hv e.symm) vz] at hadj
            cases hadj
        · subst e1
          rw [cAz, cAn v n1 (fun w => huv w.symm)] at e
          rw [x3 v hv (c1X v hv e.symm)] at hadj
          cases hadj
      obtain ⟨cs, f, s1, s2, s3, s4, s5, s6, s7⟩ := rebld (V := V) (adj := adj) (k := k) (q := Q) (a := a) (pA := fun v => a (c v) || decide (v = y)) (cA := upC (upC c1 z X) y (c z)) (g := g) hqB (fun v hv h => by
          by_cases e1 : v = y
          · rw [e1, cAy]; exact ⟨hc.1 z hz, ha' _ hza⟩
          · by_cases e2 : v = z
            · rw [e2, cAz]; exact ⟨((hA X).mp x1).lt.1, x1⟩
            · rw [cAn v e1 e2]; exact ⟨g1.1 v hv, c1a v hv (pAe v h e1)⟩) (fun u hu v hv pu pv hadj => by
          by_cases huv : u = v
          · rw [huv] at hadj; exact absurd rfl (hc.2 v hv v hv hadj)
          by_cases e1 : u = y
          · exact key u hu v hv huv (Or.inl e1) pv hadj
          by_cases e2 : v = y
          · exact fun w => key v hv u hu (fun w => huv w.symm) (Or.inl e2) pu (by rw [sym]; exact hadj) w.symm
          by_cases e3 : u = z
          · exact key u hu v hv huv (Or.inr ⟨e3, e2⟩) pv hadj
          by_cases e4 : v = z
          · exact fun w => key v hv u hu (fun w => huv w.symm) (Or.inr ⟨e4, e1⟩) pu (by rw [sym]; exact hadj) w.symm
          rw [cAn u e1 e3, cAn v e2 e4]
          exact g1.2 u hu v hv hadj) r1
      refine ⟨cs, s1, fun i hi => ?_⟩
      cases hai : a i with
      | false =>
        obtain ⟨j, j1, j2, j3⟩ := s6 i hi hai
        rw [j3]; exact r2 j j1
      | true =>
        rw [s4 i hai]
        have q0 : V.countP (fun v => (a (c v) || decide (v = y)) && decide (upC (upC c1 z X) y (c z) v = i)) ≤ szC V (upC (upC c1 z X) y (c z)) i := cn_le fun v _ h => (Bool.and_eq_true_iff.mp h).2
        have q1 := sz_up (c := upC c1 z X) (j := c z) hV hy i
        have q2 := sz_up (c := c1) (j := X) hV hz i
        rw [upC_n hyz, c1y, b1_f (fun e => by rw [e, hai] at yb; cases yb)] at q1
        rw [c1z] at q2
        have hb := hsA i hai
        by_cases eX : X = i
        · rw [b1_t eX] at q2
          subst eX
          rcases g2 with g9 | g9 <;> omega
        · rw [b1_f eX] at q2
          rcases g3 i (fun e => eX e.symm) with g9 | g9 <;> omega
    -- no lone neighbour in A' can move
    have hstay : ∀ z ∈ V, a' (c z) = true → (∃ y ∈ V, a (c y) = false ∧ nbC V adj c y (c z) = 1 ∧ adj y z = true) → ∀ X, a X = true → X ≠ c z → 1 ≤ nbC V adj c z X := by
      intro z hz hza hy X x1 x2
      apply hnb z hz
      intro hno
      exact case1 ⟨z, hz, hza, hy, X, x1, x2, hno⟩
    have hdz : ∀ z ∈ V, a' (c z) = true → (∃ y ∈ V, a (c y) = false ∧ nbC V adj c y (c z) = 1 ∧ adj y z = true) → dBC V adj c a z ≤ Q := by
      intro z hz hza hy
      have := dB_y (a := a) (e := fun i => decide (i ≠ c z)) hc (hd z hz) (fun i _ h h' => hstay z hz hza hy i h (of_decide_eq_true h'))
      have e0 : (kL k).countP (fun i => a i && !decide (i ≠ c z)) ≤ (kL k).countP (fun i => decide (c z = i)) := cn_le fun i _ h => by
        rw [Bool.and_eq_true] at h
        by_cases e : c z = i
        · exact decide_eq_true e
        · have h9 := h.2
          rw [decide_eq_true (show i ≠ c z from fun w => e w.symm)] at h9
          cases h9
      rw [cn_eq1 (kL_nd k) (kL_mem.mpr (hc.1 z hz))] at e0
      omega
    obtain ⟨W0, hW0⟩ := t1
    have htq : Q + 1 ≤ (kL k).countP a' := by
      refine lem3 (V := V) (adj := adj) (k := k) (s := s) (c := c) (a := a) (W := W0) hV sym (hsA W0 (ha' W0 hW0)) hBge (fun y hy hb => hyA y hy hb W0 (ha' W0 hW0)) (fun z hz e hs => ?_) (fun x hx e => ?_)
      · rw [← e] at hs hW0
        exact hdz z hz hW0 hs
      · have := dB_y (a := a) (e := fun i => !a' i && decide (i ≠ U)) hc (hd x hx) (fun i _ h h' => by
          rw [Bool.and_eq_true] at h'
          apply hnb x hx
          intro hno
          have h2' : a' i = false := by
            have h9 := h'.1
            cases hx : a' i with
            | false => rfl
            | true => rw [hx] at h9; cases h9
          exact t4 W0 hW0 i ((hA i).mp h) h2' (of_decide_eq_true h'.2) ⟨x, hx, e, hno⟩)
        have e0 : (kL k).countP (fun i => a i && !(!a' i && decide (i ≠ U))) ≤ (kL k).countP a' + 1 := by
          rw [cn_split (kL k) (fun i => a i && !(!a' i && decide (i ≠ U))) a']
          have f1 : (kL k).countP (fun i => (a i && !(!a' i && decide (i ≠ U))) && a' i) ≤ (kL k).countP a' := cn_le fun i _ h => (Bool.and_eq_true_iff.mp h).2
          have f2 : (kL k).countP (fun i => (a i && !(!a' i && decide (i ≠ U))) && !a' i) ≤ (kL k).countP (fun i => decide (U = i)) := cn_le fun i _ h => by
            by_cases e : U = i
            · exact decide_eq_true e
            · rw [decide_eq_true (show i ≠ U from fun w => e w.symm)] at h
              cases hx : a' i <;> cases hy : a i <;> rw [hx, hy] at h <;> cases h
          have f3 : (kL k).countP (fun i => decide (U = i)) ≤ 1 := by
            by_cases hU : U < k
            · rw [cn_eq1 (kL_nd k) (kL_mem.mpr hU)]; omega
            · rw [cn_0 (fun i hi => decide_eq_false (fun w : U = i => hU (by rw [w]; exact kL_mem.mp hi)))]; omega
          omega
        omega
    obtain ⟨z, hz, y, hy, y', hy', hza, yb, yb', hyy, nyy, yz, yz', ny, ny'⟩ := two_solo (V := V) (adj := adj) (k := k) (s := s) (c := c) (a := a) (a' := a') hV sym hc rfl (fun i h => hsA i (ha' i h)) htq hBge hdB (fun y hy hb => by
      have := sy_y (a := a) (a' := a') hc (hd y hy) ha' (fun i _ h => hyA y hy hb i h)
      omega)
    have solo : ∃ y ∈ V, a (c y) = false ∧ nbC V adj c y (c z) = 1 ∧ adj y z = true := ⟨y, hy, yb, ny, yz⟩
    obtain ⟨g, r1, r2⟩ := hrest y hy yb
    have hyz : y ≠ z := fun e => by rw [e, ha' _ hza] at yb; cases yb
    have hyz' : y' ≠ z := fun e => by rw [e, ha' _ hza] at yb'; cases yb'
    have lone : ∀ y ∈ V, nbC V adj c y (c z) = 1 → adj y z = true → ∀ v ∈ V, c v = c z → v ≠ z → adj y v = false := fun y _ n1 n2 v hv e n => by
      cases hx : adj y v with
      | false => rfl
      | true => exact absurd (cn_one hV (P := fun u => adj y u && decide (c u = c z)) (Nat.le_of_eq n1) hv (by rw [hx, decide_eq_true e]; rfl) hz (by rw [n2, decide_eq_true rfl]; rfl)) n
    -- a class of B for z
    have hfree : ∃ j, j < Q ∧ ∀ u ∈ V.filter (fun v => !(a (c v) || decide (v = y))), g u = j → adj z u = false := by
      refine freeC r1.1 ?_
      rw [List.countP_filter]
      have h9 := hdz z hz hza solo
      have : V.countP (fun u => adj z u && !(a (c u) || decide (u = y))) < dBC V adj c a z := by
        refine cn_lt (w := y) (fun u _ h => ?_) hy (by rw [sym z y, yz, yb]; rfl) (by rw [decide_eq_true rfl, Bool.or_true]; exact Bool.and_false _)
        rw [Bool.and_eq_true] at h ⊢
        refine ⟨h.1, ?_⟩
        have h8 := h.2
        cases hx : a (c u) with
        | false => rfl
        | true => rw [hx] at h8; cases h8
      omega
    obtain ⟨j0, j1, j2⟩ := hfree
    -- the new colouring
    have pAe : ∀ v, ((a (c v) && decide (v ≠ z)) || decide (v = y)) = true → v ≠ y → a (c v) = true ∧ v ≠ z := fun v h n => by
      rw [decide_eq_false n, Bool.or_false, Bool.and_eq_true] at h
      exact ⟨h.1, of_decide_eq_true h.2⟩
    have pAn : ∀ v, ((a (c v) && decide (v ≠ z)) || decide (v = y)) = false → v ≠ y ∧ (v = z ∨ a (c v) = false) := fun v h => by
      rw [Bool.or_eq_false_iff] at h
      refine ⟨of_decide_eq_false h.2, ?_⟩
      by_cases e : v = z
      · exact Or.inl e
      · have h9 := h.1
        rw [decide_eq_true e, Bool.and_true] at h9
        exact Or.inr h9
    have inF : ∀ v ∈ V, v ≠ y → a (c v) = false → v ∈ V.filter (fun v => !(a (c v) || decide (v = y))) := fun v hv n h => List.mem_filter.mpr ⟨hv, by rw [h, decide_eq_false n]; rfl⟩
    have hg2 : prC (V.filter (fun v => !((a (c v) && decide (v ≠ z)) || decide (v = y)))) adj Q (upC g z j0) := by
      have hmem : ∀ v, v ∈ V.filter (fun v => !((a (c v) && decide (v ≠ z)) || decide (v = y))) → v ∈ V ∧ v ≠ y ∧ (v = z ∨ a (c v) = false) := fun v hv => by
        have := List.mem_filter.mp hv
        refine ⟨this.1, pAn v ?_⟩
        have h9 := this.2
        cases hx : ((a (c v) && decide (v ≠ z)) || decide (v = y)) with
        | false => rfl
        | true => rw [hx] at h9; cases h9
      refine ⟨fun v hv => ?_, fun u hu v hv hadj => ?_⟩
      · obtain ⟨v1, v2, v3⟩ := hmem v hv
        by_cases e : v = z
        · rw [e, upC_e]; exact j1
        · rw [upC_n e]; exact r1.1 v (inF v v1 v2 (v3.resolve_left e))
      · obtain ⟨u1, u2, u3⟩ := hmem u hu
        obtain ⟨v1, v2, v3⟩ := hmem v hv
        by_cases eu : u = z
        · by_cases ev9 : v = z
          · rw [eu, ev9] at hadj; exact absurd rfl (hc.2 z hz z hz hadj)
          · rw [eu, upC_e, upC_n ev9]
            intro e
            rw [eu, j2 v (inF v v1 v2 (v3.resolve_left ev9)) e.symm] at hadj
            cases hadj
        · by_cases ev9 : v = z
          · rw [ev9, upC_e, upC_n eu]
            intro e
            rw [ev9, sym, j2 u (inF u u1 u2 (u3.resolve_left eu)) e] at hadj
            cases hadj
          · rw [upC_n eu, upC_n ev9]
            exact r1.2 u (inF u u1 u2 (u3.resolve_left eu)) v (inF v v1 v2 (v3.resolve_left ev9)) hadj
    have key : ∀ v ∈ V, ((a (c v) && decide (v ≠ z)) || decide (v = y)) = true → v ≠ y → adj y v = true → c z ≠ c v := fun v hv pv n hadj e => by
      rw [lone y hy ny yz v hv e.symm (pAe v pv n).2] at hadj
      cases hadj
    obtain ⟨cs, f, s1, s2, s3, s4, s5, s6, s7⟩ := rebld (V := V) (adj := adj) (k := k) (q := Q) (a := a) (pA := fun v => (a (c v) && decide (v ≠ z)) || decide (v = y)) (cA := upC c y (c z)) (g := upC g z j0) hqB (fun v hv h => by
        by_cases e1 : v = y
        · rw [e1, upC_e]; exact ⟨hc.1 z hz, ha' _ hza⟩
        · rw [upC_n e1]; exact ⟨hc.1 v hv, (pAe v h e1).1⟩) (fun u hu v hv pu pv hadj => by
        by_cases huv : u = v
        · rw [huv] at hadj; exact absurd rfl (hc.2 v hv v hv hadj)
        by_cases e1 : u = y
        · subst e1
          rw [upC_e, upC_n (fun w => huv w.symm)]
          exact key v hv pv (fun w => huv w.symm) hadj
        · by_cases e2 : v = y
          · subst e2
            rw [upC_e, upC_n huv]
            exact fun w => key u hu pu huv (by rw [sym]; exact hadj) w.symm
          · rw [upC_n e1, upC_n e2]
            exact hc.2 u hu v hv hadj) hg2
    have szA : ∀ i, a i = true → szC V cs i ≤ szC V c i := fun i hai => by
      rw [s4 i hai]
      have q0 : V.countP (fun v => ((a (c v) && decide (v ≠ z)) || decide (v = y)) && decide (upC c y (c z) v = i)) ≤ szC V (upC (upC c z k) y (c z)) i := cn_le fun v _ h => by
        rw [Bool.and_eq_true] at h
        by_cases e1 : v = y
        · have h9 := of_decide_eq_true h.2
          rw [e1, upC_e] at h9
          rw [e1]
          exact decide_eq_true (by rw [upC_e]; exact h9)
        · have h9 := of_decide_eq_true h.2
          rw [upC_n e1] at h9
          exact decide_eq_true (by rw [upC_n e1, upC_n (pAe v h.1 e1).2]; exact h9)
      have q1 := sz_up (c := upC c z k) (j := c z) hV hy i
      have q2 := sz_up (c := c) (j := k) hV hz i
      rw [upC_n hyz, b1_f (fun e => by rw [e, hai] at yb; cases yb)] at q1
      rw [b1_f (P := k = i) (fun e => by have := ((hA i).mp hai).lt.1; omega)] at q2
      omega
    -- sizes
    have szB : ∀ j, j < Q → szC (V.filter (fun v => !((a (c v) && decide (v ≠ z)) || decide (v = y)))) (upC g z j0) j ≤ s + b1 (decide (j0 = j)) := fun j hj => by
      have h9 := r2 j hj
      unfold szC at h9 ⊢
      rw [List.countP_filter] at h9 ⊢
      rw [cn_split V _ (fun v => decide (z = v))]
      have f1 : V.countP (fun x => (decide (upC g z j0 x = j) && !((a (c x) && decide (x ≠ z)) || decide (x = y))) && decide (z = x)) ≤ b1 (decide (j0 = j)) := by
        by_cases e : j0 = j
        · rw [b1_t e]
          exact Nat.le_trans (cn_le fun x _ h => (Bool.and_eq_true_iff.mp h).2) (Nat.le_of_eq (cn_eq1 hV hz))
        · rw [cn_0 fun x _ => ?_]
          · omega
          · by_cases ex : z = x
            · rw [← ex, upC_e, decide_eq_false e, Bool.false_and, Bool.false_and]
            · rw [decide_eq_false ex, Bool.and_false]
      have f2 : V.countP (fun x => (decide (upC g z j0 x = j) && !((a (c x) && decide (x ≠ z)) || decide (x = y))) && !decide (z = x)) ≤ V.countP (fun x => decide (g x = j) && !(a (c x) || decide (x = y))) := cn_le fun x _ h => by
        by_cases ex : z = x
        · rw [decide_eq_true ex] at h
          rw [Bool.and_eq_true] at h
          cases h.2
        · rw [decide_eq_false ex, upC_n (fun w => ex w.symm), decide_eq_true (show x ≠ z from fun w => ex w.symm)] at h
          rw [Bool.and_true] at h
          have h8 := (Bool.and_eq_true_iff.mp h).1
          exact h8
      omega
    have szj : ∀ i, i < k → a i = false → i ≠ f j0 → szC V cs i ≤ s := fun i hi hai hn => by
      obtain ⟨j, j1', j2', j3'⟩ := s6 i hi hai
      have := szB j j1'
      rw [b1_f (fun e => hn (by rw [← j2', e]))] at this
      rw [j3']; omega
    have szp : szC V cs (f j0) ≤ s + 1 := by
      obtain ⟨j, j1', j2', j3'⟩ := s6 (f j0) (s5 j0 j1).1 (s5 j0 j1).2
      have := szB j j1'
      have h9 : b1 (decide (j0 = j)) ≤ 1 := by unfold b1; split <;> omega
      rw [j3']; omega
    -- what is reached now
    have csA : ∀ v ∈ V, a (c v) = true → v ≠ z → cs v = c v := fun v hv h n => by
      have hvy : v ≠ y := fun e => by rw [e, yb] at h; cases h
      rw [s2 v hv (by show ((a (c v) && decide (v ≠ z)) || decide (v = y)) = true; rw [h, decide_eq_true n]; rfl), upC_n hvy]
    have csJ : ∀ u ∈ V, ∀ j, a j = true → cs u = j → (u = y ∧ j = c z) ∨ (c u = j ∧ u ≠ z) := fun u hu j hj e => by
      by_cases hp8 : ((a (c u) && decide (u ≠ z)) || decide (u = y)) = true
      · have h9 := s2 u hu hp8
        by_cases ey : u = y
        · rw [ey, upC_e] at h9
          rw [ey] at e
          exact Or.inl ⟨ey, e.symm.trans h9⟩
        · rw [upC_n ey] at h9
          exact Or.inr ⟨h9.symm.trans e, (pAe u hp8 ey).2⟩
      · rw [Bool.not_eq_true] at hp8
        have h9 := s3 u hu hp8
        rw [e, hj] at h9
        cases h9
    have moS : ∀ i j, a j = true → j ≠ c z → (∃ w ∈ V, c w = i ∧ w ≠ z ∧ a i = true ∧ ∀ u ∈ V, c u = j → adj w u = false) → moC V adj cs i j := fun i j hj hjz ⟨w, w1, w2, w3, w4, w5⟩ => by
      refine ⟨w, w1, by rw [csA w w1 (by rw [w2]; exact w4) w3, w2], fun u hu e => ?_⟩
      rcases csJ u hu j hj e with ⟨_, h⟩ | ⟨h, _⟩
      · exact absurd h hjz
      · exact w5 u hu h
    have accS : ∀ n i, Rx V adj k s c (c z) n i → AcX V adj k s cs k i := by
      intro n
      induction n with
      | zero =>
        intro i h
        have hai : a i = true := (hA i).mpr ⟨0, h.1, Nat.ne_of_lt h.1, h.2.2⟩
        have := szA i hai
        exact ⟨0, h.1, Nat.ne_of_lt h.1, Nat.lt_of_le_of_lt this h.2.2⟩
      | succ n ih =>
        intro i h
        have hai : a i = true := (hA i).mpr ⟨n + 1, AcX_k _ _ h⟩
        rcases h with h | ⟨h1', h2', j, h3', h4'⟩
        · exact ih i h
        · have haj : a j = true := (hA j).mpr ⟨n, AcX_k _ _ h4'⟩
          obtain ⟨w, w1, w2, w3⟩ := h3'
          exact AcX.st h1' (Nat.ne_of_lt h1') (moS i j haj (Rx_lt h4').2 ⟨w, w1, w2, fun e => h2' (by rw [← w2, e]), hai, w3⟩) (ih j h4')
    have accN : ∀ i, a i = true → i ≠ c z → AcX V adj k s cs k i := fun i hi hn => by
      obtain ⟨n, h⟩ := t3 (c z) hza i ((hA i).mp hi) hn
      exact accS n i h
    have accW : AcX V adj k s cs k (c z) := by
      obtain ⟨n, hn⟩ := (hA (c z)).mp (ha' _ hza)
      obtain ⟨m, m1, m2⟩ := least (P := fun n => Rx V adj k s c k n (c z)) hn
      cases m with
      | zero =>
        have := szA (c z) (ha' _ hza)
        exact ⟨0, m1.1, m1.2.1, Nat.lt_of_le_of_lt this m1.2.2⟩
      | succ m =>
        rcases m1 with m1 | ⟨w1, w2, j, ⟨w, w3, w4, w5⟩, w6⟩
        · exact absurd m1 (m2 m (by omega))
        · have hj : a j = true := (hA j).mpr ⟨m, w6⟩
          have hjz : j ≠ c z := fun e => m2 m (by omega) (e ▸ w6)
          have hwz : w ≠ z := fun e => by
            have h9 := hstay z hz hza solo j hj hjz
            obtain ⟨u, hu, pu⟩ := cn_ex h9
            rw [Bool.and_eq_true, decide_eq_true_iff] at pu
            rw [e] at w5
            rw [w5 u hu pu.2] at pu
            cases pu.1
          exact AcX.st w1 w2 (moS (c z) j hj hjz ⟨w, w3, w4, hwz, ha' _ hza, w5⟩) (accN j hj hjz)
    have hy'p : ((a (c y') && decide (y' ≠ z)) || decide (y' = y)) = false := by
      rw [yb', Bool.false_and, Bool.false_or]
      exact decide_eq_false (fun e => hyy e.symm)
    have accY : AcX V adj k s cs k (cs y') := by
      have hk := s1.1 y' hy'
      refine AcX.st hk (Nat.ne_of_lt hk) ⟨y', hy', rfl, fun u hu e => ?_⟩ accW
      rcases csJ u hu (c z) (ha' _ hza) e with ⟨h, _⟩ | ⟨h, h'⟩
      · rw [h, sym]; exact nyy
      · exact lone y' hy' ny' yz' u hu h h'
    refine ihq cs (f j0) (s5 j0 j1).1 s1 (fun i hi hn => ?_) szp ?_
    · cases hai : a i with
      | true => exact Nat.le_trans (szA i hai) (hsA i hai)
      | false => exact szj i hi hai hn
    · have : (kL k).countP (fun i => !dcP (AcX V adj k s cs k i)) < (kL k).countP (fun i => !a i) := by
        refine cn_lt (w := cs y') (fun i _ h => ?_) (kL_mem.mpr (s1.1 y' hy')) (by rw [s3 y' hy' hy'p]; rfl) (by rw [dcP_iff.mpr accY]; rfl)
        cases hai : a i with
        | false => rfl
        | true =>
          have : AcX V adj k s cs k i := by
            by_cases e : i = c z
            · rw [e]; exact accW
            · exact accN i hai e
          rw [dcP_iff.mpr this] at h
          cases h
      omega
theorem evenC {adj : Nat → Nat → Bool} (sym : ∀ u v, adj u v = adj v u) (irr : ∀ v, adj v v = false) {s : Nat} : ∀ (N : Nat) (V : List Nat) (k : Nat), V.length = N → V.Nodup → (∀ v ∈ V, V.countP (adj v) < k) → V.length ≤ k * s → ∃ c, prC V adj k c ∧ ∀ i, i < k → szC V c i ≤ s := by
  intro N
  induction N using Nat.strongRecOn with
  | ind N ih =>
    intro V k hN hV hd hks
    cases V with
    | nil => exact ⟨fun _ => 0, ⟨(fun v h => by cases h), fun u h => by cases h⟩, fun i _ => Nat.zero_le _⟩
    | cons u V' =>
      rw [List.length_cons] at hN
      obtain ⟨n1, n2⟩ := List.nodup_cons.mp hV
      have hd' : ∀ v ∈ V', V'.countP (adj v) < k := fun v hv => by
        have := hd v (List.mem_cons_of_mem _ hv)
        rw [cn_cons] at this
        omega
      obtain ⟨c', g1, g2⟩ := ih V'.length (by omega) V' k rfl n2 hd' (by rw [List.length_cons] at hks; omega)
      have hu := hd u List.mem_cons_self
      rw [cn_cons] at hu
      obtain ⟨i, i1, i2⟩ := freeC (adj := adj) (v := u) g1.1 (by omega)
      have hn : ∀ v ∈ V', v ≠ u := fun v hv e => n1 (e ▸ hv)
      have hpr : prC (u :: V') adj k (upC c' u i) := by
        refine ⟨fun v hv => ?_, fun v hv w hw hadj => ?_⟩
        · rcases List.mem_cons.mp hv with e | e
          · rw [e, upC_e]; exact i1
          · rw [upC_n (hn v e)]; exact g1.1 v e
        · rcases List.mem_cons.mp hv with e | e
          · rcases List.mem_cons.mp hw with e' | e'
            · rw [e, e', irr] at hadj; cases hadj
            · rw [e, upC_e, upC_n (hn w e')]
              intro z
              rw [e, i2 w e' z.symm] at hadj
              cases hadj
          · rcases List.mem_cons.mp hw with e' | e'
            · rw [e', upC_e, upC_n (hn v e)]
              intro z
              rw [e', sym, i2 v e z] at hadj
              cases hadj
            · rw [upC_n (hn v e), upC_n (hn w e')]
              exact g1.2 v e w e' hadj
      have hsz : ∀ l, szC (u :: V') (upC c' u i) l = b1 (decide (i = l)) + szC V' c' l := fun l => by
        unfold szC
        rw [cn_cons, upC_e]
        congr 1
        exact cn_eq fun v hv => by rw [upC_n (hn v hv)]
      refine near sym hV hd hks (fun V2 k2 h1 h2 h3 h4 => ih V2.length (by rw [List.length_cons] at h1; omega) V2 k2 rfl h2 h3 h4) k (upC c' u i) i i1 hpr (fun l hl hn => ?_) ?_ ?_
      · rw [hsz, b1_f (fun e => hn e.symm)]
        have := g2 l hl
        omega
      · rw [hsz, b1_t rfl]
        have := g2 i i1
        omega
      · exact Nat.le_trans cn_len (Nat.le_of_eq (kL_len k))
end
