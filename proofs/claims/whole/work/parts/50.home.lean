/-! the world behind the constructors -/
section
theorem R0_hi {t i k : Nat} (hk : 40 ≤ k) : R0 t i k = none := by
  have hg : ∀ l : List (Option (Nat × Nat)), l.length ≤ 40 → l.getD k none = none := fun l hl => by
    rw [List.getD_eq_getElem?_getD, List.getElem?_eq_none (by omega)]; rfl
  have key : ∀ f ∈ R0t, ∀ i, f i k = none := by
    unfold R0t
    repeat' (first | exact fun _ h => absurd h List.not_mem_nil | refine List.forall_mem_cons.mpr ⟨?_, ?_⟩)
    all_goals intro i
    all_goals first
      | rfl
      | exact hg _ (Nat.le_of_ble_eq_true rfl)
      | exact if_neg (by omega)
  unfold R0
  cases hq : R0t[t]? with
  | none => rw [List.getD_eq_getElem?_getD, hq]; rfl
  | some f =>
    rw [List.getD_eq_getElem?_getD, hq]
    exact key f (List.mem_of_getElem? hq) i
theorem lRd_lo : (lRd.all fun z => Nat.blt z.1.2.2 40) = true := by decide +kernel
theorem dM_Ra {q : Nat × Nat} (hq : q ∈ al0) (k : Nat) : zR lRd q.1 q.2 k = R0 q.1 q.2 k := by
  by_cases hk : k < 40
  · exact dM_R hq hk
  · rw [R0_hi (by omega)]
    refine (zR_of (f := R0) lRd (fun z hz => of_decide_eq_true (List.all_eq_true.mp dM_R1 z hz)) q.1 q.2 k).2 fun ⟨z, hz, e⟩ => hk ?_
    have h1 := List.all_eq_true.mp lRd_lo z hz
    have h2 := Nat.blt_eq.mp h1
    rw [e] at h2
    exact h2
theorem dM_en {ac : List (Nat × ClassId)} {c : ClassId} {q : Nat × Nat} (hq : q ∈ al0) : en ac (ihd (al0, lRd, lDd)) c q = en ac (hp D00) c q := by
  have e1 : ∀ k, zR lRd q.1 q.2 k = R0 q.1 q.2 k := dM_Ra hq
  have e2 : ∀ k, fvl ac (ihd (al0, lRd, lDd)) q k = fvl ac (hp D00) q k := fun k => by
    unfold fvl
    show (match ab_fk q.1 k with | 2 => Value.long (Int64.ofInt (zD lDd q.1 q.2 k)) | 3 => va_rf ((zR lRd q.1 q.2 k).map (cvA ac al0)) | _ => Value.int (Int32.ofInt (zD lDd q.1 q.2 k))) = _
    first | (rw [e1, dM_D]; done) | (rw [e1, dM_D]; rfl)
  have e3 : (fun j => (zR lRd q.1 q.2 j).map (cvA ac al0)) = fun j => (R0 q.1 q.2 j).map (cvA ac al0) := funext fun j => by rw [e1]
  unfold en
  rw [funext e2]
  show (match (ab_tg q.1).1 with
    | 0 => Sum.inr (q.1, (List.range (ab_nf q.1)).map (fvl ac (hp D00) q))
    | 4 => Sum.inl (c, (ab_tg q.1).2, Sum.inr (Sum.inl (fun j => Int64.ofInt (zD lDd q.1 q.2 j))))
    | 5 => Sum.inl (c, (ab_tg q.1).2, Sum.inr (Sum.inr (Sum.inr (Sum.inr (fun j => (zR lRd q.1 q.2 j).map (cvA ac al0))))))
    | _ => Sum.inl (c, (ab_tg q.1).2, Sum.inl (fun j => Int32.ofInt (zD lDd q.1 q.2 j)))) = _
  first | (rw [e3, dM_D]; done) | (rw [e3, dM_D]; rfl)
theorem dM_wsl {ac : List (Nat × ClassId)} : wsl ac (ihd (al0, lRd, lDd)) = wsl ac (hp D00) := by
  unfold wsl
  refine List.map_congr_left fun z hz => ?_
  have h1 : z.2 ∈ al0 := (List.of_mem_zip (show (z.1, z.2) ∈ _ from hz)).2
  rw [dM_en h1]
theorem dM_WD {G : va_G} {ac : List (Nat × ClassId)} {A : Nat → Prop} {U : State} {H : Heap} (w : WD G ac (ihd (al0, lRd, lDd)) A U H) : WD G ac (hp D00) A U H := by
  obtain ⟨w1, w2, w3, w4, w5, w6, w7, w8⟩ := w
  rw [dM_wsl] at w3 w4
  refine ⟨w1, w2, w3, w4, w5, w6, fun q hq k => ?_, fun q hq k q' e => w8 q hq k q' ?_⟩
  · have := w7 q hq k
    have e : (ihd (al0, lRd, lDd)).2.2 = D00 := dM_D
    rw [e] at this
    exact this
  · exact (dM_Ra hq k).trans e
theorem dM_IV {s : State} {G : va_G} {sa : Nat → Nat} {A : Nat → Prop} {nL : Nat} {ac0 ac : List (Nat × ClassId)} {L S : List ab_V} {H : Heap} {locs : List Loc} {ls : Array Slot} (w : IV s G sa A nL ac0 ac (ihd (al0, lRd, lDd)) L S H locs ls) : IV s G sa A nL ac0 ac (hp D00) L S H locs ls :=
  ⟨w.1, dM_WD w.2.1, w.2.2⟩
end
