/-! the state that both sides hold: worlds, images, rows, tape -/
section
/-- a world: lore, men, pieces -/
abbrev Wd : Type := (Nat → Nat) × List Cr × List (List Nat)
def WOK (W : Wd) : Prop := LOK W.1 ∧ W.2.1.length ≤ 6 ∧ (∀ v ∈ W.2.1, okc v) ∧ (W.2.1 ≠ [] → 0 < W.1 0) ∧ W.2.2.length ≤ 6 ∧ (∀ p ∈ W.2.2, 1 ≤ p.length ∧ p.length ≤ 8 ∧ ∀ t ∈ p, t < W.1 0)
def WC (D : DD) (lq cq kb pq : Nat) (W : Wd) : Prop := LC D lq W.1 ∧ D 2 cq 1 = (W.2.1.length : Int) ∧ (∀ c v, W.2.1[c]? = some v → CC D (kb + c) v) ∧ D 6 pq 0 = (W.2.2.length : Int) ∧ (∀ p l, W.2.2[p]? = some l → D 56 pq p = (l.length : Int) ∧ ∀ k, k < l.length → D 57 pq (8 * p + k) = (l.getD k 0 : Nat))
def WM (D : DD) (b : Nat) (W : Wd) : Prop := (∀ k, k < 152 → D 22 0 (b + k) = (W.1 k : Int)) ∧ D 22 0 (b + 152) = (W.2.1.length : Int) ∧ (∀ c v, W.2.1[c]? = some v → MC D (b + (153 + 29 * c)) v) ∧ D 22 0 (b + 356) = (W.2.2.length : Int) ∧ (∀ p l, W.2.2[p]? = some l → D 22 0 (b + (357 + p)) = (l.length : Int) ∧ ∀ k, k < l.length → D 22 0 (b + (363 + 8 * p + k)) = (l.getD k 0 : Nat))
theorem lt_of_some {α : Type} {l : List α} {c : Nat} {v : α} (h : l[c]? = some v) : c < l.length := (List.getElem?_eq_some_iff.mp h).1
theorem WC.on {D D' : DD} {lq cq kb pq : Nat} {W : Wd} (hW : WOK W) (h : WC D lq cq kb pq W) (e1 : ∀ t k, (t = 5 ∨ (51 ≤ t ∧ t ≤ 55)) → D' t lq k = D t lq k) (e2 : D' 2 cq 1 = D 2 cq 1) (e3 : ∀ t i k, (t = 3 ∨ t = 47) → kb ≤ i → i < kb + 6 → D' t i k = D t i k) (e4 : D' 6 pq 0 = D 6 pq 0) (e5 : ∀ t k, (t = 56 ∨ t = 57) → D' t pq k = D t pq k) : WC D' lq cq kb pq W := by
  obtain ⟨h1, h2, h3, h4, h5⟩ := h
  obtain ⟨o1, o2, o3, o4, o5, o6⟩ := hW
  refine ⟨h1.on e1, e2.trans h2, fun c v hc => (h3 c v hc).fr fun t k ht => e3 t _ k ht (by omega) (by have := lt_of_some hc; omega), e4.trans h4, fun p l hp9 => ?_⟩
  obtain ⟨g1, g2⟩ := h5 p l hp9
  exact ⟨(e5 _ _ (Or.inl rfl)).trans g1, fun k hk => (e5 _ _ (Or.inr rfl)).trans (g2 k hk)⟩
theorem WM.on {D D' : DD} {b : Nat} {W : Wd} (hW : WOK W) (h : WM D b W) (e : ∀ k, b ≤ k → k < b + 411 → ¬ (b + 327 ≤ k ∧ k < b + 356) → D' 22 0 k = D 22 0 k) : WM D' b W := by
  obtain ⟨h1, h2, h3, h4, h5⟩ := h
  obtain ⟨o1, o2, o3, o4, o5, o6⟩ := hW
  refine ⟨fun k hk => (e _ (by omega) (by omega) (by omega)).trans (h1 k hk), (e _ (by omega) (by omega) (by omega)).trans h2, fun c v hc => ?_, (e _ (by omega) (by omega) (by omega)).trans h4, fun p l hp9 => ?_⟩
  · have := lt_of_some hc
    exact (h3 c v hc).fr (o3 v (List.mem_of_getElem? hc)) fun k k1 k2 => e k (by omega) (by omega) (by omega)
  · have := lt_of_some hp9
    have := o6 l (List.mem_of_getElem? hp9)
    obtain ⟨g1, g2⟩ := h5 p l hp9
    exact ⟨(e _ (by omega) (by omega) (by omega)).trans g1, fun k hk => (e _ (by omega) (by omega) (by omega)).trans (g2 k hk)⟩
/-- the state: the world, images, rows, the tape, the fault and its place -/
abbrev St : Type := Wd × (Nat → Option Wd) × (Nat → Option Rw) × List Nat × Nat × Int
abbrev sW (S : St) : Wd := S.1
abbrev sI (S : St) : Nat → Option Wd := S.2.1
abbrev sR (S : St) : Nat → Option Rw := S.2.2.1
abbrev sT (S : St) : List Nat := S.2.2.2.1
abbrev sF (S : St) : Nat := S.2.2.2.2.1
abbrev sE (S : St) : Int := S.2.2.2.2.2
def oOK (o : Option Wd) : Prop := match o with
  | none => True
  | some W => WOK W
def SOK (S : St) : Prop := WOK (sW S) ∧ (∀ i, i < 2 → oOK (sI S i)) ∧ (∀ r, r < 4 → okr (sR S r)) ∧ ((sT S).length ≤ 500 ∧ ∀ x ∈ sT S, x < 256) ∧ sF S ≤ 4 ∧ -1 ≤ sE S ∧ sE S ≤ 500
def IC (D : DD) (i : Nat) (o : Option Wd) : Prop := match o with
  | none => D 10 (i + 1) 3 = 0
  | some W => D 10 (i + 1) 3 = 1 ∧ WC D (i + 2) (i + 2) (18 + 6 * i) (i + 1) W
def IM (D : DD) (i : Nat) (o : Option Wd) : Prop := match o with
  | none => D 23 0 i = 0
  | some W => D 23 0 i = 1 ∧ WM D (411 * (i + 1)) W
def RWM (D : DD) (r : Nat) (ρ : Option Rw) : Prop := match ρ with
  | none => D 40 0 r = -1
  | some z => D 40 0 r = (z.1 : Int) ∧ D 41 0 r = (z.2.length : Int) ∧ ∀ k, k < z.2.length → D 42 0 (40 * r + k) = z.2.getD k 0
def TC (D : DD) (S : St) : Prop := D 7 0 1 = (sF S : Int) ∧ D 7 0 2 = sE S ∧ D 7 0 3 = ((sT S).length : Int) ∧ ∀ k, k < (sT S).length → D 61 0 k = w8 ((sT S).getD k 0 : Nat)
def TM (D : DD) (S : St) : Prop := D 12 0 13 = (sF S : Int) ∧ D 12 0 14 = sE S ∧ D 12 0 5 = ((sT S).length : Int) ∧ ∀ k, k < (sT S).length → D 24 0 k = (((sT S).getD k 0 : Nat) : Int)
def CH (D : DD) (S : St) : Prop := WC D 1 0 0 0 (sW S) ∧ (∀ i, i < 2 → IC D i (sI S i)) ∧ (∀ r, r < 4 → RWC D r (sR S r)) ∧ TC D S
def MH (D : DD) (S : St) : Prop := WM D 0 (sW S) ∧ (∀ i, i < 2 → IM D i (sI S i)) ∧ (∀ r, r < 4 → RWM D r (sR S r)) ∧ TM D S
/-- the class's cells that no later call looks at -/
def cX (t i k : Nat) : Prop := ((t = 3 ∨ t = 47) ∧ 6 ≤ i ∧ i < 18) ∨ (t = 4 ∨ t = 48 ∨ t = 49 ∨ t = 50) ∨ (t = 9 ∨ (63 ≤ t ∧ t ≤ 65)) ∨ (t = 1 ∨ t = 45) ∨ (t = 0 ∨ t = 43 ∨ t = 44) ∨ (58 ≤ t ∧ t ≤ 60) ∨ (t = 6 ∧ k = 6) ∨ (t = 2 ∧ i = 1) ∨ (t = 2 ∧ 2 ≤ k) ∨ (t = 7 ∧ 5 ≤ k) ∨ ((t = 5 ∨ (51 ≤ t ∧ t ≤ 55)) ∧ i = 0)
/-- the reference's -/
def mX (t i k : Nat) : Prop := (t = 12 ∧ k ≠ 5 ∧ k ≠ 13 ∧ k ≠ 14) ∨ (t = 22 ∧ 327 ≤ k ∧ k < 356) ∨ (25 ≤ t ∧ t ≤ 39)
/-- all that is the class's, all that is the reference's -/
def cY (t _i _k : Nat) : Prop := t ≤ 11 ∨ t = 20 ∨ t = 21 ∨ 43 ≤ t
def mY (t _i _k : Nat) : Prop := t = 12 ∨ (22 ≤ t ∧ t ≤ 42)
theorem IC.on {D D' : DD} {i : Nat} {o : Option Wd} (hi : i < 2) (ho : oOK o) (h : IC D i o) (e : ∀ t j k, ¬ cX t j k → ¬ ((t = 3 ∨ t = 47) ∧ j < 6) → t ≠ 7 → t ≠ 8 → t ≠ 62 → t ≠ 61 → ¬ ((t = 5 ∨ (51 ≤ t ∧ t ≤ 55)) ∧ j = 1) → ¬ (t = 2 ∧ j = 0) → ¬ ((t = 6 ∨ (56 ≤ t ∧ t ≤ 60)) ∧ j = 0) → ¬ (t = 10 ∧ j = 0) → D' t j k = D t j k) : IC D' i o := by
  cases o with
  | none =>
    exact (e 10 (i + 1) 3 (by unfold cX; omega) (by omega) (by omega) (by omega) (by omega) (by omega) (by omega) (by omega) (by omega) (by omega)).trans h
  | some W =>
    refine ⟨(e 10 (i + 1) 3 (by unfold cX; omega) (by omega) (by omega) (by omega) (by omega) (by omega) (by omega) (by omega) (by omega) (by omega)).trans h.1, h.2.on ho ?_ ?_ ?_ ?_ ?_⟩
    · exact fun t k ht => e t _ k (by unfold cX; omega) (by omega) (by omega) (by omega) (by omega) (by omega) (by omega) (by omega) (by omega) (by omega)
    · exact e 2 _ 1 (by unfold cX; omega) (by omega) (by omega) (by omega) (by omega) (by omega) (by omega) (by omega) (by omega) (by omega)
    · exact fun t j k ht h1 h2 => e t j k (by unfold cX; omega) (by omega) (by omega) (by omega) (by omega) (by omega) (by omega) (by omega) (by omega) (by omega)
    · exact e 6 _ 0 (by unfold cX; omega) (by omega) (by omega) (by omega) (by omega) (by omega) (by omega) (by omega) (by omega) (by omega)
    · exact fun t k ht => e t _ k (by unfold cX; omega) (by omega) (by omega) (by omega) (by omega) (by omega) (by omega) (by omega) (by omega) (by omega)
theorem TC.on {D D' : DD} {S : St} (h : TC D S) (e1 : ∀ k, k < 4 → D' 7 0 k = D 7 0 k) (e2 : ∀ k, D' 61 0 k = D 61 0 k) : TC D' S := by
  obtain ⟨h1, h2, h3, h4⟩ := h
  exact ⟨(e1 _ (by omega)).trans h1, (e1 _ (by omega)).trans h2, (e1 _ (by omega)).trans h3, fun k hk => (e2 k).trans (h4 k hk)⟩
theorem TM.on {D D' : DD} {S : St} (h : TM D S) (e1 : D' 12 0 5 = D 12 0 5) (e2 : D' 12 0 13 = D 12 0 13) (e3 : D' 12 0 14 = D 12 0 14) (e4 : ∀ k, D' 24 0 k = D 24 0 k) : TM D' S := by
  obtain ⟨h1, h2, h3, h4⟩ := h
  exact ⟨e2.trans h1, e3.trans h2, e1.trans h3, fun k hk => (e4 k).trans (h4 k hk)⟩
theorem RWM.on {D D' : DD} {r : Nat} {ρ : Option Rw} (h : RWM D r ρ) (e : ∀ t k, (t = 40 ∨ t = 41 ∨ t = 42) → D' t 0 k = D t 0 k) : RWM D' r ρ := by
  cases ρ with
  | none => exact (e 40 r (by omega)).trans h
  | some z =>
    obtain ⟨h1, h2, h3⟩ := h
    exact ⟨(e _ _ (by omega)).trans h1, (e _ _ (by omega)).trans h2, fun k hk => (e _ _ (by omega)).trans (h3 k hk)⟩
theorem IM.on {D D' : DD} {i : Nat} {o : Option Wd} (ho : oOK o) (h : IM D i o) (e1 : D' 23 0 i = D 23 0 i) (e2 : ∀ k, 411 * (i + 1) ≤ k → k < 411 * (i + 1) + 411 → D' 22 0 k = D 22 0 k) : IM D' i o := by
  cases o with
  | none => exact e1.trans h
  | some W => exact ⟨e1.trans h.1, h.2.on ho fun k k1 k2 _ => e2 k k1 k2⟩
theorem CH.scr {D D' : DD} {S : St} (hS : SOK S) (h : CH D S) (e : fr cX D D') : CH D' S := by
  obtain ⟨h1, h2, h3, h4⟩ := h
  refine ⟨h1.on hS.1 ?_ ?_ ?_ ?_ ?_, fun i hi => (h2 i hi).on hi (hS.2.1 i hi) fun t j k n _ _ _ _ _ _ _ _ _ => e t j k n, fun r hr => (h3 r hr).on fun t k ht => e t r k (by unfold cX; omega), h4.on (fun k hk => e 7 0 k (by unfold cX; omega)) (fun k => e 61 0 k (by unfold cX; omega))⟩
  · exact fun t k ht => e t _ k (by unfold cX; omega)
  · exact e 2 0 1 (by unfold cX; omega)
  · exact fun t j k ht h1 h2 => e t j k (by unfold cX; omega)
  · exact e 6 0 0 (by unfold cX; omega)
  · exact fun t k ht => e t _ k (by unfold cX; omega)
theorem MH.scr {D D' : DD} {S : St} (hS : SOK S) (h : MH D S) (e : fr mX D D') : MH D' S := by
  obtain ⟨h1, h2, h3, h4⟩ := h
  refine ⟨h1.on hS.1 (fun k _ k2 k3 => e 22 0 k (by unfold mX; omega)), fun i hi => (h2 i hi).on (hS.2.1 i hi) (e 23 0 i (by unfold mX; omega)) (fun k k1 k2 => e 22 0 k (by unfold mX; omega)), fun r hr => (h3 r hr).on fun t k ht => e t 0 k (by unfold mX; omega), h4.on (e 12 0 5 (by unfold mX; omega)) (e 12 0 13 (by unfold mX; omega)) (e 12 0 14 (by unfold mX; omega)) (fun k => e 24 0 k (by unfold mX; omega))⟩
/-- what the other side does is not seen -/
theorem CH.oth {D D' : DD} {S : St} (hS : SOK S) (h : CH D S) (e : fr mY D D') : CH D' S := by
  have hn : ∀ t i k, t ≤ 11 ∨ 43 ≤ t → D' t i k = D t i k := fun t i k ht => e t i k (by unfold mY; omega)
  obtain ⟨h1, h2, h3, h4⟩ := h
  refine ⟨h1.on hS.1 ?_ ?_ ?_ ?_ ?_, fun i hi => ?_, fun r hr => (h3 r hr).on fun t k ht => hn t r k (by omega), h4.on (fun k hk => hn 7 0 k (by omega)) (fun k => hn 61 0 k (by omega))⟩
  · exact fun t k ht => hn t _ k (by omega)
  · exact hn 2 0 1 (by omega)
  · exact fun t j k ht h1 h2 => hn t j k (by omega)
  · exact hn 6 0 0 (by omega)
  · exact fun t k ht => hn t _ k (by omega)
  · have hh := h2 i hi
    have ho := hS.2.1 i hi
    cases hq : sI S i with
    | none => rw [hq] at hh; exact (hn 10 _ _ (by omega)).trans hh
    | some W =>
      rw [hq] at hh ho
      exact ⟨(hn 10 _ _ (by omega)).trans hh.1, hh.2.on ho (fun t k ht => hn t _ k (by omega)) (hn 2 _ 1 (by omega)) (fun t j k ht _ _ => hn t j k (by omega)) (hn 6 _ 0 (by omega)) (fun t k ht => hn t _ k (by omega))⟩
theorem MH.oth {D D' : DD} {S : St} (hS : SOK S) (h : MH D S) (e : fr cY D D') : MH D' S := by
  have hn : ∀ t i k, t = 12 ∨ (22 ≤ t ∧ t ≤ 42) → D' t i k = D t i k := fun t i k ht => e t i k (by unfold cY; omega)
  obtain ⟨h1, h2, h3, h4⟩ := h
  exact ⟨h1.on hS.1 (fun k _ k2 k3 => hn 22 0 k (by omega)), fun i hi => (h2 i hi).on (hS.2.1 i hi) (hn 23 0 i (by omega)) (fun k k1 k2 => hn 22 0 k (by omega)), fun r hr => (h3 r hr).on fun t k ht => hn t 0 k (by omega), h4.on (hn 12 0 5 (by omega)) (hn 12 0 13 (by omega)) (hn 12 0 14 (by omega)) (fun k => hn 24 0 k (by omega))⟩
/-- one man changed -/
def stM (S : St) (c : Nat) (v : Cr) : St := ((S.1.1, S.1.2.1.set c v, S.1.2.2), S.2)
theorem CH.man {D D' : DD} {S : St} {c : Nat} {v : Cr} (hS : SOK S) (h : CH D S) (hc : c < (sW S).2.1.length) (e : fr (cP c) D D') (hv : CC D' c v) : CH D' (stM S c v) := by
  obtain ⟨⟨a1, a2, a3, a4, a5⟩, h2, h3, h4⟩ := h
  have h6 : (sW S).2.1.length ≤ 6 := hS.1.2.1
  have hn : ∀ t i k, ¬ ((t = 3 ∨ t = 47) ∧ i = c) → D' t i k = D t i k := fun t i k ht => e t i k ht
  refine ⟨⟨a1.fc e, ?_, fun c' v' hc' => ?_, (hn _ _ _ (by omega)).trans a4, fun p l hp9 => ?_⟩, fun i hi => (h2 i hi).on hi (hS.2.1 i hi) fun t j k _ n _ _ _ _ _ _ _ _ => hn t j k (by omega), fun r hr => (h3 r hr).fc e, h4.on (fun k _ => hn _ _ _ (by omega)) (fun k => hn _ _ _ (by omega))⟩
  · rw [hn _ _ _ (by omega), a2]
    show _ = (((sW S).2.1.set c v).length : Int)
    rw [List.length_set]
  · have hc' : ((sW S).2.1.set c v)[c']? = some v' := hc'
    by_cases e1 : c' = c
    · subst e1
      rw [List.getElem?_set_self hc] at hc'
      cases hc'
      rw [Nat.zero_add]
      exact hv
    · rw [List.getElem?_set_ne (fun z => e1 z.symm)] at hc'
      exact (a3 c' v' hc').fr fun t k ht => hn t _ k (by omega)
  · obtain ⟨g1, g2⟩ := a5 p l hp9
    exact ⟨(hn _ _ _ (by omega)).trans g1, fun k hk => (hn _ _ _ (by omega)).trans (g2 k hk)⟩
theorem MH.man {D D' : DD} {S : St} {c : Nat} {v : Cr} (hS : SOK S) (h : MH D S) (hc : c < (sW S).2.1.length) (e : fr (fun t i k => mP (mB c) t i k ∨ mX t i k) D D') (hv : MC D' (mB c) v) : MH D' (stM S c v) := by
  obtain ⟨⟨a1, a2, a3, a4, a5⟩, h2, h3, h4⟩ := h
  have h6 : (sW S).2.1.length ≤ 6 := hS.1.2.1
  have hmb : mB c = 153 + 29 * c := rfl
  have hn : ∀ t i k, ¬ ((t = 22 ∧ i = 0 ∧ mB c ≤ k ∧ k < mB c + 29) ∨ mX t i k) → D' t i k = D t i k := fun t i k ht => e t i k ht
  refine ⟨⟨fun k hk => (hn _ _ _ (by unfold mX; omega)).trans (a1 k hk), ?_, fun c' v' hc' => ?_, (hn _ _ _ (by unfold mX; omega)).trans a4, fun p l hp9 => ?_⟩, fun i hi => (h2 i hi).on (hS.2.1 i hi) (hn _ _ _ (by unfold mX; omega)) (fun k k1 k2 => hn _ _ _ (by unfold mX; omega)), fun r hr => (h3 r hr).on fun t k ht => hn _ _ _ (by unfold mX; omega), h4.on (hn _ _ _ (by unfold mX; omega)) (hn _ _ _ (by unfold mX; omega)) (hn _ _ _ (by unfold mX; omega)) (fun k => hn _ _ _ (by unfold mX; omega))⟩
  · rw [hn _ _ _ (by unfold mX; omega), a2]
    show _ = (((sW S).2.1.set c v).length : Int)
    rw [List.length_set]
  · have hc' : ((sW S).2.1.set c v)[c']? = some v' := hc'
    have hlt := lt_of_some hc'
    rw [List.length_set] at hlt
    by_cases e1 : c' = c
    · subst e1
      rw [List.getElem?_set_self hc] at hc'
      cases hc'
      rw [Nat.zero_add]
      exact hv
    · rw [List.getElem?_set_ne (fun z => e1 z.symm)] at hc'
      exact (a3 c' v' hc').fr (hS.1.2.2.1 v' (List.mem_of_getElem? hc')) fun k k1 k2 => hn _ _ _ (by unfold mX; omega)
  · have := lt_of_some hp9
    have h8 : (sW S).2.2.length ≤ 6 := hS.1.2.2.2.2.1
    have := hS.1.2.2.2.2.2 l (List.mem_of_getElem? hp9)
    obtain ⟨g1, g2⟩ := a5 p l hp9
    exact ⟨(hn _ _ _ (by unfold mX; omega)).trans g1, fun k hk => (hn _ _ _ (by unfold mX; omega)).trans (g2 k hk)⟩
theorem SOK.man {S : St} {c : Nat} {v : Cr} (hS : SOK S) (hv : okc v) : SOK (stM S c v) := by
  obtain ⟨⟨o1, o2, o3, o4, o5, o6⟩, h⟩ := hS
  refine ⟨⟨o1, ?_, fun w hw => ?_, fun hne => o4 fun z => hne ?_, o5, o6⟩, h⟩
  · show ((sW S).2.1.set c v).length ≤ 6
    rw [List.length_set]
    exact o2
  · rcases List.mem_or_eq_of_mem_set hw with z | z
    · exact o3 w z
    · rw [z]; exact hv
  · show (sW S).2.1.set c v = []
    rw [z]
    rfl
end
