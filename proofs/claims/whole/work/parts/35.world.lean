section
def cvA (ac : List (Nat × ClassId)) (al : List (Nat × Nat)) (q : Nat × Nat) : Nat := (ac.getD (al.idxOf q) (0, 0)).1
def cv (sa : Nat → Nat) (ac : List (Nat × ClassId)) (al : List (Nat × Nat)) (v : ab_V) : Value := match v with
  | .inl x => .int (Int32.ofInt x)
  | .inr (.inl x) => .long (Int64.ofInt x)
  | .inr (.inr (.inl q)) => .ref (cvA ac al q)
  | .inr (.inr (.inr (.inl j))) => .ref (sa j)
  | .inr (.inr (.inr (.inr _))) => .null
/-- a value that can be: numbers in their bounds, places that were made -/
def okv (al : List (Nat × Nat)) (v : ab_V) : Prop := match v with
  | .inl x => in32 x
  | .inr (.inl x) => in64 x
  | .inr (.inr (.inl q)) => q ∈ al
  | .inr (.inr (.inr (.inl _))) => True
  | .inr (.inr (.inr (.inr _))) => False
def ab_el (t : Nat) : Nat := (ab_els.lookup t).getD 0
def fty (t : Nat) : FieldType := match (ab_tg t).1 with
  | 1 => .int
  | 2 => .byte
  | 3 => .boolean
  | 4 => .long
  | _ => .object (ab_cls (ab_el t)).1
/-- what a field holds -/
def fvl (ac : List (Nat × ClassId)) (h : ab_H) (q : Nat × Nat) (k : Nat) : Value := match ab_fk q.1 k with
  | 2 => .long (Int64.ofInt (h.2.2 q.1 q.2 k))
  | 3 => va_rf ((h.2.1 q.1 q.2 k).map (cvA ac h.1))
  | _ => .int (Int32.ofInt (h.2.2 q.1 q.2 k))
def en (ac : List (Nat × ClassId)) (h : ab_H) (cA : ClassId) (q : Nat × Nat) : va_E := match (ab_tg q.1).1 with
  | 0 => .inr (q.1, (List.range (ab_nf q.1)).map (fvl ac h q))
  | 4 => .inl (cA, (ab_tg q.1).2, .inr (.inl (fun j => Int64.ofInt (h.2.2 q.1 q.2 j))))
  | 5 => .inl (cA, (ab_tg q.1).2, .inr (.inr (.inr (.inr (fun j => (h.2.1 q.1 q.2 j).map (cvA ac h.1))))))
  | _ => .inl (cA, (ab_tg q.1).2, .inl (fun j => Int32.ofInt (h.2.2 q.1 q.2 j)))
def wsl (ac : List (Nat × ClassId)) (h : ab_H) : va_W := (List.zip ac h.1).map (fun z => (z.1.1, en ac h z.1.2 z.2))
theorem wsl_get {ac : List (Nat × ClassId)} {h : ab_H} {k : Nat} {q : Nat × Nat} {a : Nat} {cA : ClassId} (h1 : h.1[k]? = some q) (h2 : ac[k]? = some (a, cA)) : (wsl ac h)[k]? = some (a, en ac h cA q) := by
  unfold wsl
  rw [List.getElem?_map, (List.getElem?_zip_eq_some (z := ((a, cA), q))).mpr ⟨h2, h1⟩]
  rfl
theorem wsl_inv {ac : List (Nat × ClassId)} {h : ab_H} {k : Nat} {x : Nat × va_E} (h1 : (wsl ac h)[k]? = some x) : ∃ q a cA, h.1[k]? = some q ∧ ac[k]? = some (a, cA) ∧ x = (a, en ac h cA q) := by
  unfold wsl at h1
  rw [List.getElem?_map] at h1
  cases hz : (List.zip ac h.1)[k]? with
  | none => rw [hz] at h1; cases h1
  | some z =>
    rw [hz] at h1
    obtain ⟨h2, h3⟩ := List.getElem?_zip_eq_some.mp hz
    cases h1
    exact ⟨z.2, z.1.1, z.1.2, h3, h2, rfl⟩
theorem wsl_len {ac : List (Nat × ClassId)} {h : ab_H} (hl : ac.length = h.1.length) : (wsl ac h).length = h.1.length := by
  unfold wsl
  rw [List.length_map, List.length_zip, hl, Nat.min_self]
theorem nd_inj {α : Type} {l : List α} (hn : l.Nodup) {i j : Nat} {q : α} (h1 : l[i]? = some q) (h2 : l[j]? = some q) : i = j := by
  obtain ⟨g1, g2⟩ := List.getElem?_eq_some_iff.mp h1
  obtain ⟨g3, g4⟩ := List.getElem?_eq_some_iff.mp h2
  have hp := List.pairwise_iff_getElem.mp (List.nodup_iff_pairwise_ne.mp hn)
  rcases Nat.lt_trichotomy i j with h | h | h
  · exact absurd (g2.trans g4.symm) (hp i j g1 g3 h)
  · exact h
  · exact absurd (g4.trans g2.symm) (hp j i g3 g1 h)
theorem wsl_set {ac : List (Nat × ClassId)} {h h' : ab_H} {k : Nat} {q : Nat × Nat} {a : Nat} {cA : ClassId} (hl : ac.length = h.1.length) (hn : h.1.Nodup) (ha : h'.1 = h.1) (h1 : h.1[k]? = some q) (h2 : ac[k]? = some (a, cA)) (hd : ∀ (q' : Nat × Nat) (c : ClassId), q' ≠ q → en ac h' c q' = en ac h c q') : (wsl ac h).set k (a, en ac h' cA q) = wsl ac h' := by
  have hk : k < (wsl ac h).length := by rw [wsl_len hl]; exact (List.getElem?_eq_some_iff.mp h1).1
  apply List.ext_getElem?
  intro j
  by_cases hj : j = k
  · subst hj
    rw [List.getElem?_set_self hk, wsl_get (h := h') (by rw [ha]; exact h1) h2]
  · rw [List.getElem?_set_ne (Ne.symm hj)]
    cases hq : h.1[j]? with
    | none =>
      have e1 : h.1.length ≤ j := List.getElem?_eq_none_iff.mp hq
      rw [List.getElem?_eq_none_iff.mpr (by rw [wsl_len hl]; exact e1), List.getElem?_eq_none_iff.mpr (by rw [wsl_len (by rw [ha]; exact hl), ha]; exact e1)]
    | some q' =>
      have e1 : j < ac.length := by rw [hl]; exact (List.getElem?_eq_some_iff.mp hq).1
      have e2 : ac[j]? = some (ac[j].1, ac[j].2) := List.getElem?_eq_getElem e1
      rw [wsl_get hq e2, wsl_get (h := h') (by rw [ha]; exact hq) e2, hd q' _ ?_]
      intro e
      subst e
      exact hj (nd_inj hn hq h1)
/-- kinds of slots: 0 an int, 1 a boolean, 2 a long, 3 a place, 4 a byte -/
def kk (t k : Nat) : Nat := match (ab_tg t).1 with
  | 0 => ab_fk t k
  | 1 => 0
  | 2 => 4
  | 3 => 1
  | 4 => 2
  | _ => 3
def rgk (k : Nat) (x : Int) : Prop := match k with
  | 0 => in32 x
  | 1 => x = 0 ∨ x = 1
  | 2 => in64 x
  | 4 => -128 ≤ x ∧ x < 128
  | _ => True
def RG (h : ab_H) : Prop := ∀ q ∈ h.1, ∀ k, rgk (kk q.1 k) (h.2.2 q.1 q.2 k)
def RF (h : ab_H) : Prop := ∀ q ∈ h.1, ∀ (k : Nat) (q' : Nat × Nat), h.2.1 q.1 q.2 k = some q' → q' ∈ h.1
def AT (ac : List (Nat × ClassId)) (al : List (Nat × Nat)) (U : State) : Prop := ∀ (k : Nat) (q : Nat × Nat) (a : Nat) (cA : ClassId), al[k]? = some q → ac[k]? = some (a, cA) → (ab_tg q.1).1 ≠ 0 → ArrOfT U cA (fty q.1) ∧ va_RA U cA (fty q.1)
def WD (G : va_G) (ac : List (Nat × ClassId)) (h : ab_H) (A : Nat → Prop) (U : State) (H : Heap) : Prop :=
  ac.length = h.1.length ∧ h.1.Nodup ∧ va_P G classes (wsl ac h) H ∧ va_D A (wsl ac h) ∧ va_K G classes [] U ∧ AT ac h.1 U ∧ RG h ∧ RF h
theorem WD.moved {G : va_G} {ac : List (Nat × ClassId)} {h : ab_H} {A : Nat → Prop} {u U : State} {H : Heap} (hvm : u.vm.Alike U.vm) (w : WD G ac h A u H) : WD G ac h A U H := by
  obtain ⟨w1, w2, w3, w4, w5, w6, w7, w8⟩ := w
  exact ⟨w1, w2, w3, w4, w5.moved hvm, fun k q a cA e1 e2 e3 => ⟨arrOfT_moved hvm (w6 k q a cA e1 e2 e3).1, (w6 k q a cA e1 e2 e3).2.moved hvm⟩, w7, w8⟩
/-- the place of what was made -/
theorem al_pos {al : List (Nat × Nat)} {ac : List (Nat × ClassId)} {q : Nat × Nat} (hl : ac.length = al.length) (hq : q ∈ al) : ∃ cA, al[al.idxOf q]? = some q ∧ ac[al.idxOf q]? = some (cvA ac al q, cA) := by
  have h1 : al.idxOf q < al.length := List.idxOf_lt_length_of_mem hq
  refine ⟨(ac[al.idxOf q]'(by omega)).2, ?_, ?_⟩
  · rw [List.getElem?_eq_getElem h1, List.getElem_idxOf h1]
  · have h2 : al.idxOf q < ac.length := by omega
    unfold cvA
    rw [List.getElem?_eq_getElem h2, List.getD_eq_getElem?_getD, List.getElem?_eq_getElem h2]
    rfl
def LH (ls : Array Slot) (nL : Nat) (f : ab_V → Value) (L : List ab_V) : Prop := L.length = nL ∧ ls.size = nL ∧ lv_wf ls ∧ ∀ (i : Nat) (v : ab_V), L[i]? = some v → v ≠ vU → ls[i]? = some (.val (f v))
def lvo (f : ab_V → Value) (L : List ab_V) : List (Nat × Value) := L.zipIdx.filterMap (fun z => if z.1 = vU then none else some (z.2, f z.1))
theorem lvo_mem {f : ab_V → Value} {L : List ab_V} {i : Nat} {w : Value} : (i, w) ∈ lvo f L ↔ ∃ v, L[i]? = some v ∧ v ≠ vU ∧ w = f v := by
  unfold lvo
  rw [List.mem_filterMap]
  constructor
  · rintro ⟨⟨v, j⟩, h1, h2⟩
    rw [List.mem_zipIdx_iff_getElem?] at h1
    split at h2
    · cases h2
    · rename_i hv
      cases h2
      exact ⟨v, h1, hv, rfl⟩
  · rintro ⟨v, h1, h2, rfl⟩
    exact ⟨(v, i), List.mem_zipIdx_iff_getElem?.mpr h1, by rw [if_neg h2]⟩
theorem LH.has {ls : Array Slot} {nL : Nat} {f : ab_V → Value} {L : List ab_V} (h : LH ls nL f L) : lv_has ls nL (lvo f L) := by
  obtain ⟨h1, h2, h3, h4⟩ := h
  refine ⟨h2, h3, fun q hq => ?_⟩
  obtain ⟨v, e1, e2, e3⟩ := lvo_mem.mp (show (q.1, q.2) ∈ lvo f L from hq)
  rw [e3]
  exact h4 _ _ e1 e2
theorem LH.of {ls : Array Slot} {nL : Nat} {f : ab_V → Value} {L : List ab_V} {lv : List (Nat × Value)} (hl : L.length = nL) (h : lv_has ls nL lv) (hs : ∀ (i : Nat) (v : ab_V), L[i]? = some v → v ≠ vU → (i, f v) ∈ lv) : LH ls nL f L :=
  ⟨hl, h.1, h.2.1, fun i v e1 e2 => h.2.2 (i, f v) (hs i v e1 e2)⟩
end
