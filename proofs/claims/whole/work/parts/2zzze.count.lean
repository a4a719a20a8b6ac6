/-! counting -/
section
noncomputable def dcP (P : Prop) : Bool := @decide P (Classical.propDecidable P)
theorem dcP_iff {P : Prop} : dcP P = true ↔ P := by
  unfold dcP
  constructor
  · intro h; exact @of_decide_eq_true P (Classical.propDecidable P) h
  · intro h; exact @decide_eq_true P (Classical.propDecidable P) h
theorem dcP_f {P : Prop} : dcP P = false ↔ ¬ P := by
  constructor
  · intro h z
    rw [dcP_iff.mpr z] at h
    cases h
  · intro h
    cases c : dcP P with
    | false => rfl
    | true => exact absurd (dcP_iff.mp c) h
def sN (l : List Nat) (f : Nat → Nat) : Nat := (l.map f).sum
theorem sN_nil (f : Nat → Nat) : sN [] f = 0 := rfl
theorem sN_cons (a : Nat) (l : List Nat) (f : Nat → Nat) : sN (a :: l) f = f a + sN l f := by
  unfold sN
  rw [List.map_cons, List.sum_cons]
theorem sN_le {l : List Nat} {f g : Nat → Nat} (h : ∀ x ∈ l, f x ≤ g x) : sN l f ≤ sN l g := by
  induction l with
  | nil => exact Nat.le_refl _
  | cons a l ih =>
    rw [sN_cons, sN_cons]
    have h1 := h a List.mem_cons_self
    have h2 := ih fun x hx => h x (List.mem_cons_of_mem _ hx)
    omega
theorem sN_eq {l : List Nat} {f g : Nat → Nat} (h : ∀ x ∈ l, f x = g x) : sN l f = sN l g := Nat.le_antisymm (sN_le fun x hx => Nat.le_of_eq (h x hx)) (sN_le fun x hx => Nat.le_of_eq (h x hx).symm)
theorem sN_add (l : List Nat) (f g : Nat → Nat) : sN l (fun x => f x + g x) = sN l f + sN l g := by
  induction l with
  | nil => rfl
  | cons a l ih => rw [sN_cons, sN_cons, sN_cons, ih]; omega
theorem sN_const (l : List Nat) (c : Nat) : sN l (fun _ => c) = l.length * c := by
  induction l with
  | nil => rw [sN_nil, List.length_nil, Nat.zero_mul]
  | cons a l ih => rw [sN_cons, ih, List.length_cons, Nat.succ_mul]; omega
theorem sN_zero (l : List Nat) : sN l (fun _ => 0) = 0 := by rw [sN_const, Nat.mul_zero]
def b1 (b : Bool) : Nat := if b = true then 1 else 0
theorem cn_cons (a : Nat) (l : List Nat) (P : Nat → Bool) : (a :: l).countP P = b1 (P a) + l.countP P := by
  rw [List.countP_cons]
  unfold b1
  omega
theorem cn_sN (l : List Nat) (P : Nat → Bool) : l.countP P = sN l (fun x => b1 (P x)) := by
  induction l with
  | nil => rfl
  | cons a l ih => rw [cn_cons, sN_cons, ih]
theorem sN_swap (X Y : List Nat) (f : Nat → Nat → Nat) : sN X (fun x => sN Y (f x)) = sN Y (fun y => sN X (fun x => f x y)) := by
  induction X with
  | nil =>
    have h : sN Y (fun y => sN [] (fun x => f x y)) = sN Y (fun _ => 0) := sN_eq fun y _ => rfl
    rw [h, sN_zero, sN_nil]
  | cons a X ih =>
    rw [sN_cons, ih, ← sN_add]
    exact sN_eq fun y _ => (sN_cons a X (fun x => f x y)).symm
theorem cn_swap (X Y : List Nat) (R : Nat → Nat → Bool) : sN X (fun x => Y.countP (R x)) = sN Y (fun y => X.countP (fun x => R x y)) := by
  have h1 : sN X (fun x => Y.countP (R x)) = sN X (fun x => sN Y (fun y => b1 (R x y))) := sN_eq fun x _ => cn_sN Y (R x)
  have h2 : sN Y (fun y => X.countP (fun x => R x y)) = sN Y (fun y => sN X (fun x => b1 (R x y))) := sN_eq fun y _ => cn_sN X (fun x => R x y)
  rw [h1, h2, sN_swap]
theorem cn_le {l : List Nat} {P Q : Nat → Bool} (h : ∀ x ∈ l, P x = true → Q x = true) : l.countP P ≤ l.countP Q := by
  rw [cn_sN, cn_sN]
  refine sN_le fun x hx => ?_
  unfold b1
  by_cases c : P x = true
  · rw [if_pos c, if_pos (h x hx c)]; omega
  · rw [if_neg c]; omega
theorem cn_eq {l : List Nat} {P Q : Nat → Bool} (h : ∀ x ∈ l, P x = Q x) : l.countP P = l.countP Q := Nat.le_antisymm (cn_le fun x hx z => by rw [← h x hx]; exact z) (cn_le fun x hx z => by rw [h x hx]; exact z)
theorem cn_split (l : List Nat) (P Q : Nat → Bool) : l.countP P = l.countP (fun x => P x && Q x) + l.countP (fun x => P x && !Q x) := by
  rw [cn_sN, cn_sN, cn_sN, ← sN_add]
  refine sN_eq fun x _ => ?_
  unfold b1
  cases P x <;> cases Q x <;> rfl
theorem cn_pos {l : List Nat} {P : Nat → Bool} {x : Nat} (h : x ∈ l) (hP : P x = true) : 1 ≤ l.countP P := List.countP_pos_iff.mpr ⟨x, h, hP⟩
theorem cn_ex {l : List Nat} {P : Nat → Bool} (h : 1 ≤ l.countP P) : ∃ x ∈ l, P x = true := List.countP_pos_iff.mp h
theorem cn_0 {l : List Nat} {P : Nat → Bool} (h : ∀ x ∈ l, P x = false) : l.countP P = 0 := by
  rw [cn_eq (Q := fun _ => false) h]
  induction l with
  | nil => rfl
  | cons a l ih =>
    have h1 := ih fun x hx => h x (List.mem_cons_of_mem _ hx)
    rw [cn_cons, h1]
    rfl
theorem cn_len {l : List Nat} {P : Nat → Bool} : l.countP P ≤ l.length := List.countP_le_length
/-- two of them -/
theorem cn_two {l : List Nat} {P : Nat → Bool} (hn : l.Nodup) (h : 2 ≤ l.countP P) : ∃ x ∈ l, ∃ y ∈ l, x ≠ y ∧ P x = true ∧ P y = true := by
  induction l with
  | nil => rw [List.countP_nil] at h; omega
  | cons a l ih =>
    obtain ⟨n1, n2⟩ := List.nodup_cons.mp hn
    rw [cn_cons] at h
    by_cases c : P a = true
    · have : 1 ≤ l.countP P := by unfold b1 at h; rw [if_pos c] at h; omega
      obtain ⟨y, hy, py⟩ := cn_ex this
      exact ⟨a, List.mem_cons_self, y, List.mem_cons_of_mem _ hy, fun e => n1 (e ▸ hy), c, py⟩
    · have : 2 ≤ l.countP P := by unfold b1 at h; rw [if_neg c] at h; omega
      obtain ⟨x, hx, y, hy, h1, h2, h3⟩ := ih n2 this
      exact ⟨x, List.mem_cons_of_mem _ hx, y, List.mem_cons_of_mem _ hy, h1, h2, h3⟩
/-- one alone -/
theorem cn_one {l : List Nat} {P : Nat → Bool} {x y : Nat} (hn : l.Nodup) (h : l.countP P ≤ 1) (hx : x ∈ l) (px : P x = true) (hy : y ∈ l) (py : P y = true) : x = y := by
  induction l with
  | nil => cases hx
  | cons a l ih =>
    obtain ⟨n1, n2⟩ := List.nodup_cons.mp hn
    rw [cn_cons] at h
    by_cases c : P a = true
    · unfold b1 at h
      rw [if_pos c] at h
      have h0 : ¬ 1 ≤ l.countP P := by omega
      rcases List.mem_cons.mp hx with e | e
      · rcases List.mem_cons.mp hy with f | f
        · rw [e, f]
        · exact absurd (cn_pos f py) h0
      · exact absurd (cn_pos e px) h0
    · unfold b1 at h
      rw [if_neg c] at h
      have hx' : x ∈ l := by rcases List.mem_cons.mp hx with e | e
                             · rw [e] at px; exact absurd px c
                             · exact e
      have hy' : y ∈ l := by rcases List.mem_cons.mp hy with e | e
                             · rw [e] at py; exact absurd py c
                             · exact e
      exact ih n2 (by omega) hx' hy'
theorem sN_pig {l : List Nat} {f : Nat → Nat} (h : l.length < sN l f) : ∃ x ∈ l, 2 ≤ f x := by
  apply Classical.byContradiction
  intro hno
  have : sN l f ≤ sN l (fun _ => 1) := sN_le fun x hx => by
    apply Classical.byContradiction
    intro hc
    exact hno ⟨x, hx, by omega⟩
  rw [sN_const] at this
  omega
/-- classes: k colours -/
def kL (k : Nat) : List Nat := List.range' 0 k
theorem kL_mem {k i : Nat} : i ∈ kL k ↔ i < k := by
  unfold kL
  rw [List.mem_range'_1]
  omega
theorem kL_len (k : Nat) : (kL k).length = k := by unfold kL; rw [List.length_range']
theorem kL_nd (k : Nat) : (kL k).Nodup := List.nodup_range'
theorem cn_eq1 {l : List Nat} {x : Nat} (hn : l.Nodup) (hx : x ∈ l) : l.countP (fun i => decide (x = i)) = 1 := by
  have h1 : 1 ≤ l.countP (fun i => decide (x = i)) := cn_pos hx (decide_eq_true rfl)
  apply Classical.byContradiction
  intro hc
  obtain ⟨a, _, b, _, ab, pa, pb⟩ := cn_two hn (show 2 ≤ l.countP (fun i => decide (x = i)) by omega)
  exact ab ((of_decide_eq_true pa).symm.trans (of_decide_eq_true pb))
/-- the sum over classes -/
theorem cn_class {V : List Nat} {c : Nat → Nat} {k : Nat} (hc : ∀ v ∈ V, c v < k) (P : Nat → Bool) (a : Nat → Bool) : V.countP (fun v => P v && a (c v)) = sN (kL k) (fun i => if a i = true then V.countP (fun v => P v && decide (c v = i)) else 0) := by
  have h1 : sN (kL k) (fun i => if a i = true then V.countP (fun v => P v && decide (c v = i)) else 0) = sN (kL k) (fun i => V.countP (fun v => P v && (a i && decide (c v = i)))) := sN_eq fun i _ => by
    by_cases ha : a i = true
    · rw [if_pos ha]
      exact cn_eq fun v _ => by rw [ha, Bool.true_and]
    · rw [if_neg ha]
      exact (cn_0 fun v _ => by rw [Bool.not_eq_true] at ha; rw [ha, Bool.false_and, Bool.and_false]).symm
  rw [h1, cn_swap (kL k) V (fun i v => P v && (a i && decide (c v = i))), cn_sN]
  refine sN_eq fun v hv => ?_
  by_cases hP : P v = true
  · by_cases ha : a (c v) = true
    · have : (kL k).countP (fun i => P v && (a i && decide (c v = i))) = (kL k).countP (fun i => decide (c v = i)) := cn_eq fun i _ => by
        rw [hP, Bool.true_and]
        by_cases e : c v = i
        · rw [← e, ha, Bool.true_and]
        · rw [decide_eq_false e, Bool.and_false]
      rw [this, cn_eq1 (kL_nd k) (kL_mem.mpr (hc v hv))]
      unfold b1
      rw [if_pos (by rw [hP, ha]; rfl)]
    · rw [cn_0 (fun i _ => ?_)]
      · unfold b1
        rw [if_neg (by rw [hP, Bool.true_and]; exact ha)]
      · by_cases e : c v = i
        · rw [← e]
          rw [Bool.not_eq_true] at ha
          rw [ha, Bool.false_and, Bool.and_false]
        · rw [decide_eq_false e, Bool.and_false, Bool.and_false]
  · rw [cn_0 (fun i _ => ?_)]
    · unfold b1
      rw [Bool.not_eq_true] at hP
      rw [if_neg (by rw [hP]; exact Bool.false_ne_true)]
    · rw [Bool.not_eq_true] at hP
      rw [hP, Bool.false_and]
theorem sN_if {l : List Nat} {a : Nat → Bool} {f : Nat → Nat} {m : Nat} (h : ∀ i ∈ l, a i = true → m ≤ f i) : l.countP a * m ≤ sN l (fun i => if a i = true then f i else 0) := by
  induction l with
  | nil => rw [List.countP_nil, Nat.zero_mul]; exact Nat.zero_le _
  | cons x l ih =>
    have h2 := ih fun i hi => h i (List.mem_cons_of_mem _ hi)
    rw [cn_cons, sN_cons, Nat.add_mul]
    unfold b1
    by_cases c : a x = true
    · have := h x List.mem_cons_self c
      rw [if_pos c, if_pos c, Nat.one_mul]; omega
    · rw [if_neg c, if_neg c, Nat.zero_mul]; omega
theorem sN_ifle {l : List Nat} {a : Nat → Bool} {f : Nat → Nat} {m : Nat} (h : ∀ i ∈ l, a i = true → f i ≤ m) : sN l (fun i => if a i = true then f i else 0) ≤ l.countP a * m := by
  induction l with
  | nil => rw [List.countP_nil, Nat.zero_mul]; exact Nat.le_refl _
  | cons x l ih =>
    have h2 := ih fun i hi => h i (List.mem_cons_of_mem _ hi)
    rw [cn_cons, sN_cons, Nat.add_mul]
    unfold b1
    by_cases c : a x = true
    · have := h x List.mem_cons_self c
      rw [if_pos c, if_pos c, Nat.one_mul]; omega
    · rw [if_neg c, if_neg c, Nat.zero_mul]; omega
end
