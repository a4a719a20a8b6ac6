section
variable {p : Program} {l : Launch} {e : Env} {R : Room} {s : State} {m : MethodId} {args : Array Value} {below : List Frame} {meth : Method} {c : Code} {Q : State → Prop} {H : Heap} {locs : List Loc} {ls : Array Slot}
variable {cc : ByteArray} {own : String} {nL : Nat} {G : va_G} {sa : Nat → Nat} {A : Nat → Prop} {X : Nat × (Nat → Int)} {ce sl : List (Nat × Nat) → Nat} {ac0 ac : List (Nat × ClassId)}
variable {rt : Option FieldType} {init : Bool} {pc nx a b hi hp : Nat} {x : Int} {T : ab_T} {Y : ab_X} {cal : ab_C} {L S : List ab_V} {h : ab_H} {k : ab_K} {r : ab_R}

theorem tg_obj : ∀ t, t < 13 → (ab_tg t).1 = 0 ∧ ab_nf t = (ab_cls t).2.2 := by decide +kernel
theorem cls_at {t : Nat} (ht : t < 13) : classes[t]? = some (ab_cls t) := by
  have hl : t < classes.length := ht
  unfold ab_cls
  rw [List.getD_eq_getElem?_getD, List.getElem?_eq_getElem hl]
  rfl
set_option maxRecDepth 100000 in
theorem cls_ws : ∀ t, t < 13 → (u_ws (ab_cls t).1 (ab_cls t).2.1 (ab_cls t).2.2).all (fun w => decide (w ∈ lw_tbl) && goodWord w) = true := by decide +kernel
theorem cls_in {t : Nat} (ht : t < 13) : ∀ w ∈ u_ws (ab_cls t).1 (ab_cls t).2.1 (ab_cls t).2.2, w ∈ lw_good := fun w h9 => by
  have q := List.all_eq_true.mp (cls_ws t ht) w h9
  rw [Bool.and_eq_true] at q
  exact List.mem_filter.mpr ⟨of_decide_eq_true q.1, q.2⟩
def fkOf (ty : FieldType) : Nat := match ty with
  | .int => 0
  | .boolean => 1
  | .long => 2
  | .object _ => 3
  | .array _ => 3
  | _ => 9
theorem cls_fk : ∀ t, t < 13 → ∀ k, k < (ab_cls t).2.2 → (parseFieldDescriptor ((ab_cls t).2.1 k).2.2.1).map fkOf = some (ab_fk t k) := by decide +kernel
theorem fk_le : ∀ t, t < 13 → ∀ k, k < (ab_cls t).2.2 → ab_fk t k ≤ 3 := by decide +kernel
theorem cls_nm : ∀ t, t < 13 → ∀ k, k < (ab_cls t).2.2 → ∀ k', k' < (ab_cls t).2.2 → k ≠ k' → ((ab_cls t).2.1 k).2.1 ≠ ((ab_cls t).2.1 k').2.1 := by decide +kernel
def cls_ty (t k : Nat) : FieldType := (parseFieldDescriptor ((ab_cls t).2.1 k).2.2.1).getD .int
theorem cls_tyok {t : Nat} (ht : t < 13) : ∀ k, k < (ab_cls t).2.2 → parseFieldDescriptor ((ab_cls t).2.1 k).2.2.1 = some (cls_ty t k) := fun k hk => by
  have q := cls_fk t ht k hk
  unfold cls_ty
  cases hp : parseFieldDescriptor ((ab_cls t).2.1 k).2.2.1 with
  | none => rw [hp] at q; cases q
  | some ty => rfl
theorem cls_fkt {t k : Nat} (ht : t < 13) (hk : k < (ab_cls t).2.2) : fkOf (cls_ty t k) = ab_fk t k := by
  have q := cls_fk t ht k hk
  rw [cls_tyok ht k hk] at q
  exact Option.some.inj q
theorem en_obj {cA : ClassId} {q : Nat × Nat} (ht : q.1 < 13) : en ac h cA q = .inr (q.1, (List.range (ab_cls q.1).2.2).map (fvl ac h q)) := by
  unfold en
  rw [(tg_obj q.1 ht).1, (tg_obj q.1 ht).2]
  rfl
theorem fs_get {n k : Nat} {f : Nat → Value} (hk : k < n) : ((List.range n).map f)[k]? = some (f k) := by
  rw [List.getElem?_map, List.getElem?_range hk]
  rfl
theorem fs_set {n k : Nat} {f g : Nat → Value} (hk : k < n) (hfg : ∀ j, j ≠ k → g j = f j) : ((List.range n).map f).set k (g k) = (List.range n).map g := by
  apply List.ext_getElem?
  intro j
  by_cases hj : j = k
  · subst hj
    rw [List.getElem?_set_self (by rw [List.length_map, List.length_range]; exact hk), fs_get hk]
  · rw [List.getElem?_set_ne (Ne.symm hj), List.getElem?_map, List.getElem?_map]
    by_cases hl : j < n
    · rw [List.getElem?_range hl]
      show some (f j) = some (g j)
      rw [hfg j hj]
    · rw [List.getElem?_eq_none_iff.mpr (by rw [List.length_range]; omega)]
      rfl
theorem u3_s {α : Type} {D : Nat → Nat → Nat → α} {t i k : Nat} {v : α} : u3 D t i k v t i k = v := if_pos ⟨rfl, rfl, rfl⟩
theorem u3_n {α : Type} {D : Nat → Nat → Nat → α} {t i k t' i' k' : Nat} {v : α} (hn : ¬ (t' = t ∧ i' = i ∧ k' = k)) : u3 D t i k v t' i' k' = D t' i' k' := if_neg hn
theorem en_D {cA : ClassId} {q q' : Nat × Nat} {k9 : Nat} {y : Int} (hq : q' ≠ q) : en ac (h.1, h.2.1, u3 h.2.2 q.1 q.2 k9 y) cA q' = en ac h cA q' := by
  have e9 : ∀ j, u3 h.2.2 q.1 q.2 k9 y q'.1 q'.2 j = h.2.2 q'.1 q'.2 j := fun j => u3_n (fun z => hq (Prod.ext z.1 z.2.1))
  unfold en fvl
  simp only [e9]
theorem en_R {cA : ClassId} {q q' q2 : Nat × Nat} {k9 : Nat} (hq : q' ≠ q) : en ac (h.1, u3 h.2.1 q.1 q.2 k9 (some q2), h.2.2) cA q' = en ac h cA q' := by
  have e9 : ∀ j, u3 h.2.1 q.1 q.2 k9 (some q2) q'.1 q'.2 j = h.2.1 q'.1 q'.2 j := fun j => u3_n (fun z => hq (Prod.ext z.1 z.2.1))
  unfold en fvl
  simp only [e9]
/-- a number was written: the world goes on -/
theorem WD.putD {U : State} (w : WD G ac h A U H) {q : Nat × Nat} (hq : q ∈ h.1) {k9 : Nat} {y : Int} (hy : rgk (kk q.1 k9) y) {cA : ClassId} (hc : ac[h.1.idxOf q]? = some (cvA ac h.1 q, cA)) {H1 : Heap} (hP : va_P G classes ((wsl ac h).set (h.1.idxOf q) (cvA ac h.1 q, en ac (h.1, h.2.1, u3 h.2.2 q.1 q.2 k9 y) cA q)) H1) (hD : va_D A ((wsl ac h).set (h.1.idxOf q) (cvA ac h.1 q, en ac (h.1, h.2.1, u3 h.2.2 q.1 q.2 k9 y) cA q))) : WD G ac (h.1, h.2.1, u3 h.2.2 q.1 q.2 k9 y) A U H1 := by
  obtain ⟨w1, w2, w3, w4, w5, w6, w7, w8⟩ := w
  obtain ⟨cA', e1, -⟩ := al_pos w1 hq
  rw [wsl_set (h' := (h.1, h.2.1, u3 h.2.2 q.1 q.2 k9 y)) w1 w2 rfl e1 hc (fun q' c9 hn => en_D hn)] at hP hD
  refine ⟨w1, w2, hP, hD, w5, w6, fun q' hq' k' => ?_, w8⟩
  show rgk (kk q'.1 k') (u3 h.2.2 q.1 q.2 k9 y q'.1 q'.2 k')
  by_cases hn : q'.1 = q.1 ∧ q'.2 = q.2 ∧ k' = k9
  · obtain ⟨n1, n2, n3⟩ := hn
    rw [n1, n2, n3, u3_s]
    exact hy
  · rw [u3_n hn]
    exact w7 q' hq' k'
theorem WD.putR {U : State} (w : WD G ac h A U H) {q q2 : Nat × Nat} (hq : q ∈ h.1) (hq2 : q2 ∈ h.1) {k9 : Nat} {cA : ClassId} (hc : ac[h.1.idxOf q]? = some (cvA ac h.1 q, cA)) {H1 : Heap} (hP : va_P G classes ((wsl ac h).set (h.1.idxOf q) (cvA ac h.1 q, en ac (h.1, u3 h.2.1 q.1 q.2 k9 (some q2), h.2.2) cA q)) H1) (hD : va_D A ((wsl ac h).set (h.1.idxOf q) (cvA ac h.1 q, en ac (h.1, u3 h.2.1 q.1 q.2 k9 (some q2), h.2.2) cA q))) : WD G ac (h.1, u3 h.2.1 q.1 q.2 k9 (some q2), h.2.2) A U H1 := by
  obtain ⟨w1, w2, w3, w4, w5, w6, w7, w8⟩ := w
  obtain ⟨cA', e1, -⟩ := al_pos w1 hq
  rw [wsl_set (h' := (h.1, u3 h.2.1 q.1 q.2 k9 (some q2), h.2.2)) w1 w2 rfl e1 hc (fun q' c9 hn => en_R hn)] at hP hD
  refine ⟨w1, w2, hP, hD, w5, w6, w7, fun q' hq' k' q3 hq3 => ?_⟩
  have hq3 : u3 h.2.1 q.1 q.2 k9 (some q2) q'.1 q'.2 k' = some q3 := hq3
  by_cases hn : q'.1 = q.1 ∧ q'.2 = q.2 ∧ k' = k9
  · obtain ⟨n1, n2, n3⟩ := hn
    rw [n1, n2, n3, u3_s] at hq3
    cases hq3
    exact hq2
  · rw [u3_n hn] at hq3
    exact w8 q' hq' k' q3 hq3
theorem kk_obj {t k9 : Nat} (ht : t < 13) : kk t k9 = ab_fk t k9 := by
  unfold kk
  rw [(tg_obj t ht).1]
  rfl
theorem rf_some {q : Option (Nat × Nat)} {f : Nat → Nat → Option ab_R} (h9 : ab_rf q f = some r) : ∃ q', q = some q' ∧ f q'.1 q'.2 = some r := by
  unfold ab_rf at h9
  split at h9
  · exact ⟨_, rfl, h9⟩
  · cases h9

end
