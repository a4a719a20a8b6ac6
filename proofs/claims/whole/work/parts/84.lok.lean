section
def LWK (cd : List (Nat × List Nat × ab_E)) : Prop := ∀ (pc : Nat) (e : List Nat × ab_E), ab_lk cd pc = some e → ∃ hi hp, ab_chk "NineInMindLaw" code ret false pc e.2 hi hp = true
theorem LWK.app : ∀ {c1 c2 : List (Nat × List Nat × ab_E)}, LWK c1 → LWK c2 → LWK (c1 ++ c2)
  | [], c2, _, h2 => h2
  | (p0, k0, e0) :: c1, c2, h1, h2 => by
    intro pc e h9
    have h9 : (match Nat.beq p0 pc with | true => some (k0, e0) | false => ab_lk (c1 ++ c2) pc) = some e := h9
    cases hb : Nat.beq p0 pc with
    | true =>
      refine h1 pc e ?_
      show (match Nat.beq p0 pc with | true => some (k0, e0) | false => ab_lk c1 pc) = some e
      rw [hb] at h9 ⊢
      exact h9
    | false =>
      rw [hb] at h9
      by_cases q : ∃ e, ab_lk c1 pc = some e
      · obtain ⟨e1, q⟩ := q
        have key : ∀ (c1 : List (Nat × List Nat × ab_E)), ab_lk c1 pc = some e1 → ab_lk (c1 ++ c2) pc = some e1 := by
          intro c1
          induction c1 with
          | nil => intro z; cases z
          | cons w c1 ih =>
            obtain ⟨p1, k1, e2⟩ := w
            intro z
            have z : (match Nat.beq p1 pc with | true => some (k1, e2) | false => ab_lk c1 pc) = some e1 := z
            show (match Nat.beq p1 pc with | true => some (k1, e2) | false => ab_lk (c1 ++ c2) pc) = some e1
            cases hb2 : Nat.beq p1 pc with
            | true => rw [hb2] at z; exact z
            | false => rw [hb2] at z; exact ih z
        have h9 : ab_lk (c1 ++ c2) pc = some e := h9
        rw [key c1 q] at h9
        cases h9
        refine h1 pc e ?_
        show (match Nat.beq p0 pc with | true => some (k0, e0) | false => ab_lk c1 pc) = some e
        rw [hb]
        exact q
      · have key : ∀ (c1 : List (Nat × List Nat × ab_E)), (¬ ∃ e, ab_lk c1 pc = some e) → ab_lk (c1 ++ c2) pc = ab_lk c2 pc := by
          intro c1
          induction c1 with
          | nil => intro z; rfl
          | cons w c1 ih =>
            obtain ⟨p1, k1, e2⟩ := w
            intro z
            show (match Nat.beq p1 pc with | true => some (k1, e2) | false => ab_lk (c1 ++ c2) pc) = ab_lk c2 pc
            cases hb2 : Nat.beq p1 pc with
            | true =>
              refine absurd ⟨(k1, e2), ?_⟩ z
              show (match Nat.beq p1 pc with | true => some (k1, e2) | false => ab_lk c1 pc) = _
              rw [hb2]
            | false =>
              refine ih fun ⟨e3, y⟩ => z ⟨e3, ?_⟩
              show (match Nat.beq p1 pc with | true => some (k1, e2) | false => ab_lk c1 pc) = _
              rw [hb2]
              exact y
        have h9 : ab_lk (c1 ++ c2) pc = some e := h9
        rw [key c1 q] at h9
        exact h2 pc e h9
theorem LWK.pc {cd : List (Nat × List Nat × ab_E)} {hs : List (Nat × Nat)} (h : ab_chks "NineInMindLaw" code ret false cd hs = true) : LWK cd := fun pc e h9 => chks_lk cd hs h pc e h9
theorem LWK.st {cd : List (Nat × List Nat × ab_E)} {n m : Nat} (hm : n + 100 = m) (h1 : LWK ((cd.drop n).take 100)) (h2 : LWK (cd.drop m)) : LWK (cd.drop n) := by
  subst hm
  have h3 := LWK.app h1 h2
  rw [← List.drop_drop, List.take_append_drop] at h3
  exact h3
theorem lk_len : cd_law_law.length ≤ 1400 := by decide +kernel
theorem lok_14 : LWK (cd_law_law.drop 1400) := by
  rw [List.drop_eq_nil_of_le lk_len]
  intro pc e h9
  cases h9
theorem lok_13 : LWK (cd_law_law.drop 1300) := LWK.st (m := 1400) rfl (LWK.pc lc_13) lok_14
theorem lok_12 : LWK (cd_law_law.drop 1200) := LWK.st (m := 1300) rfl (LWK.pc lc_12) lok_13
theorem lok_11 : LWK (cd_law_law.drop 1100) := LWK.st (m := 1200) rfl (LWK.pc lc_11) lok_12
theorem lok_10 : LWK (cd_law_law.drop 1000) := LWK.st (m := 1100) rfl (LWK.pc lc_10) lok_11
theorem lok_9 : LWK (cd_law_law.drop 900) := LWK.st (m := 1000) rfl (LWK.pc lc_9) lok_10
theorem lok_8 : LWK (cd_law_law.drop 800) := LWK.st (m := 900) rfl (LWK.pc lc_8) lok_9
theorem lok_7 : LWK (cd_law_law.drop 700) := LWK.st (m := 800) rfl (LWK.pc lc_7) lok_8
theorem lok_6 : LWK (cd_law_law.drop 600) := LWK.st (m := 700) rfl (LWK.pc lc_6) lok_7
theorem lok_5 : LWK (cd_law_law.drop 500) := LWK.st (m := 600) rfl (LWK.pc lc_5) lok_6
theorem lok_4 : LWK (cd_law_law.drop 400) := LWK.st (m := 500) rfl (LWK.pc lc_4) lok_5
theorem lok_3 : LWK (cd_law_law.drop 300) := LWK.st (m := 400) rfl (LWK.pc lc_3) lok_4
theorem lok_2 : LWK (cd_law_law.drop 200) := LWK.st (m := 300) rfl (LWK.pc lc_2) lok_3
theorem lok_1 : LWK (cd_law_law.drop 100) := LWK.st (m := 200) rfl (LWK.pc lc_1) lok_2
theorem lok_0 : LWK (cd_law_law.drop 0) := LWK.st (m := 100) rfl (LWK.pc lc_0) lok_1
theorem lok : LWK cd_law_law := lok_0
end
