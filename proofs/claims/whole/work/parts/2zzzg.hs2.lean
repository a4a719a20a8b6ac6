/-! colourings: classes that cut nothing off -/
section
theorem cn_lt {l : List Nat} {P Q : Nat → Bool} {w : Nat} (h : ∀ x ∈ l, P x = true → Q x = true) (hw : w ∈ l) (hQ : Q w = true) (hP : P w = false) : l.countP P < l.countP Q := by
  rw [cn_split l Q P]
  have h1 : l.countP P ≤ l.countP (fun x => Q x && P x) := cn_le fun x hx z => by rw [h x hx z, z]; rfl
  have h2 : 1 ≤ l.countP (fun x => Q x && !P x) := cn_pos hw (by rw [hQ, hP]; rfl)
  omega
theorem termi {V : List Nat} {adj : Nat → Nat → Bool} {k s : Nat} {c : Nat → Nat} (h0 : ∃ i, AcX V adj k s c k i) : ∃ (a : Nat → Bool) (U : Nat), (∃ W, a W = true) ∧ (∀ W, a W = true → AcX V adj k s c k W ∧ W ≠ U) ∧ (∀ W, a W = true → ∀ X, AcX V adj k s c k X → X ≠ W → AcX V adj k s c W X) ∧ ∀ W, a W = true → ∀ X, AcX V adj k s c k X → a X = false → X ≠ U → ¬ moC V adj c W X := by
  by_cases ht : ∀ U W, AcX V adj k s c k U → AcX V adj k s c k W → W ≠ U → AcX V adj k s c U W
  · refine ⟨fun i => dcP (AcX V adj k s c k i), k, ?_, fun W hW => ?_, fun W hW X hX hn => ?_, fun W _ X hX hx _ => ?_⟩
    · obtain ⟨i, hi⟩ := h0
      exact ⟨i, dcP_iff.mpr hi⟩
    · have := dcP_iff.mp hW
      exact ⟨this, this.lt.2⟩
    · exact ht W X (dcP_iff.mp hW) hX hn
    · exact absurd hX (dcP_f.mp hx)
  · have hex : ∃ U W, AcX V adj k s c k U ∧ AcX V adj k s c k W ∧ W ≠ U ∧ ¬ AcX V adj k s c U W := by
      apply Classical.byContradiction
      intro hno
      apply ht
      intro U W h1 h2 h3
      apply Classical.byContradiction
      intro h4
      exact hno ⟨U, W, h1, h2, h3, h4⟩
    obtain ⟨U0, W0, u1, u2, u3, u4⟩ := hex
    have hT : ∀ U X, dcP (AcX V adj k s c k X ∧ X ≠ U ∧ ¬ AcX V adj k s c U X) = true ↔ AcX V adj k s c k X ∧ X ≠ U ∧ ¬ AcX V adj k s c U X := fun U X => dcP_iff
    have hpos : ∀ U W, AcX V adj k s c k W → W ≠ U → ¬ AcX V adj k s c U W → 1 ≤ (kL k).countP (fun X => dcP (AcX V adj k s c k X ∧ X ≠ U ∧ ¬ AcX V adj k s c U X)) := fun U W h1 h2 h3 => cn_pos (kL_mem.mpr h1.lt.1) ((hT U W).mpr ⟨h1, h2, h3⟩)
    obtain ⟨m, ⟨U, m1, m2, m3⟩, m4⟩ := least (P := fun n => ∃ U, AcX V adj k s c k U ∧ (kL k).countP (fun X => dcP (AcX V adj k s c k X ∧ X ≠ U ∧ ¬ AcX V adj k s c U X)) = n ∧ 1 ≤ n) ⟨U0, u1, rfl, hpos U0 W0 u2 u3 u4⟩
    refine ⟨fun X => dcP (AcX V adj k s c k X ∧ X ≠ U ∧ ¬ AcX V adj k s c U X), U, ?_, fun W hW => ?_, fun W hW X hX hn => ?_, fun W hW X hX hx hXU => ?_⟩
    · rw [← m2] at m3
      obtain ⟨x, _, hx⟩ := cn_ex m3
      exact ⟨x, hx⟩
    · have := (hT U W).mp hW
      exact ⟨this.1, this.2.1⟩
    · obtain ⟨w1, w2, w3⟩ := (hT U W).mp hW
      apply Classical.byContradiction
      intro hno
      have hp1 := hpos W X hX hn hno
      have hlt : (kL k).countP (fun X => dcP (AcX V adj k s c k X ∧ X ≠ W ∧ ¬ AcX V adj k s c W X)) < m := by
        rw [← m2]
        refine cn_lt (w := W) (fun Y _ hY => ?_) (kL_mem.mpr w1.lt.1) hW (dcP_f.mpr fun z => z.2.1 rfl)
        obtain ⟨y1, y2, y3⟩ := (hT W Y).mp hY
        refine (hT U Y).mpr ⟨y1, fun e => ?_, fun z => ?_⟩
        · obtain ⟨n, hn⟩ := m1
          rw [e] at y3
          exact y3 (ex_3 w3 (fun z => w2 z.symm) n hn)
        · obtain ⟨n, z⟩ := z
          exact y3 ⟨n, ex_1 w3 n Y z⟩
      exact m4 _ hlt ⟨W, w1, rfl, hp1⟩
    · obtain ⟨w1, w2, w3⟩ := (hT U W).mp hW
      intro hm
      have hAX : AcX V adj k s c U X := by
        apply Classical.byContradiction
        intro z
        exact dcP_f.mp hx ⟨hX, hXU, z⟩
      exact w3 (hAX.st w1.lt.1 w2 hm)
end
