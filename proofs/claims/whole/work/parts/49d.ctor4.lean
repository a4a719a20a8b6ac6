/-! the constructors at any depth -/
section
theorem evd_up {X : Nat × (Nat → Int)} (j : Nat) : ∀ d m as hd rd, evd d m as hd = some rd → ev X (d + j) m as (ihd hd) = some (rd.1, ihd rd.2) := by
  intro d
  induction d with
  | zero => intro m as hd rd h; cases h
  | succ d ih =>
    intro m as hd rd h
    have h : (match Nat.ble (ab_ent as).length (ab_nl m) with | true => itrd (ab_lk (ab_cds m)) (evd d) 400 0 (ab_pad (ab_nl m) (ab_ent as)) [] hd | false => none) = some rd := h
    rw [show d + 1 + j = (d + j) + 1 by omega]
    show (match Nat.ble (ab_ent as).length (ab_nl m) with | true => ab_lim ab_tg (ab_tx, X) (ab_lk (ab_cds m)) (ab_ev ab_tg (ab_tx, X) ab_cds ab_nl (d + j)) 0 (ab_pad (ab_nl m) (ab_ent as)) [] (ihd hd) | false => none) = _
    cases hb : Nat.ble (ab_ent as).length (ab_nl m) with
    | false => rw [hb] at h; cases h
    | true =>
      rw [hb] at h
      exact ab_lim_of (itrd_ok (fun m as hd rd q => ih m as hd rd q) 400 _ _ _ _ _ h)
theorem evd_to {X : Nat × (Nat → Int)} {d m : Nat} {as : List ab_V} {a r : dH} (h : 8 ≤ d) (e : evd 8 m as a = some (none, r)) : ev X d m as (ihd a) = some (none, ihd r) := by
  obtain ⟨j, rfl⟩ : ∃ j, d = 8 + j := ⟨d - 8, by omega⟩
  exact evd_up j 8 m as a (none, r) e
theorem ct_N {X : Nat × (Nat → Int)} {d : Nat} (h : 8 ≤ d) : ev X d m_N_init [vR 11 0] (ihd ([(11, 0)], [], [])) = some (none, ihd (alN, lRN, lDN)) := evd_to h ct_N0
theorem ct_M {X : Nat × (Nat → Int)} {d : Nat} (h : 8 ≤ d) : ev X d m_M_init [vR 12 0] (ihd (alN ++ [(12, 0)], lRN, lDN)) = some (none, ihd (al0, lRd, lDd)) := evd_to h ct_M0
end
