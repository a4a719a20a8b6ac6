/-! a mind as a row of things: what hearing does to it; the packed long -/
section
theorem u3_a (D : DD) (t i k : Nat) (v : Int) (t' i' k' : Nat) : u3 D t i k v t' i' k' = if t' = t ∧ i' = i ∧ k' = k then v else D t' i' k' := rfl
theorem fil_a (D : DD) (T q n : Nat) (x : Int) (t i k : Nat) : fil D T q n x t i k = if t = T ∧ i = q ∧ k < n then x else D t i k := rfl
theorem cpy_a (D : DD) (t i : Nat) (sp : Int) (t2 i2 : Nat) (dp n : Int) (t' i' k' : Nat) : (ab_cpy (hp D) t i sp t2 i2 dp n).2.2 t' i' k' = if t' = t2 ∧ i' = i2 ∧ dp ≤ (k' : Int) ∧ (k' : Int) < dp + n then D t i ((sp + ((k' : Int) - dp)).toNat) else D t' i' k' := rfl
def enc : List Nat → Nat
  | [] => 0
  | t :: l => t + 16 * enc l
theorem enc_lt {l : List Nat} (h : ∀ t ∈ l, t < 16) : enc l < 16 ^ l.length := by
  induction l with
  | nil => simp [enc]
  | cons a l ih =>
    have h1 := ih (fun t ht => h t (List.mem_cons_of_mem _ ht))
    have h2 := h a List.mem_cons_self
    rw [enc, List.length_cons, Nat.pow_succ]
    omega
theorem enc_div {l : List Nat} (h : ∀ t ∈ l, t < 16) (k : Nat) : enc l / 16 ^ k = enc (l.drop k) := by
  induction k generalizing l with
  | zero => simp
  | succ k ih =>
    cases l with
    | nil => simp [enc]
    | cons a l =>
      have h2 := h a List.mem_cons_self
      rw [enc, Nat.pow_succ, Nat.mul_comm (16 ^ k) 16, ← Nat.div_div_eq_div_mul, show (a + 16 * enc l) / 16 = enc l by omega, ih (fun t ht => h t (List.mem_cons_of_mem _ ht))]
      rfl
theorem enc_mod {l : List Nat} (h : ∀ t ∈ l, t < 16) (k : Nat) : enc l % 16 ^ k = enc (l.take k) := by
  induction k generalizing l with
  | zero => simp [enc, Nat.mod_one]
  | succ k ih =>
    cases l with
    | nil => simp [enc]
    | cons a l =>
      have h2 := h a List.mem_cons_self
      rw [enc, Nat.pow_succ, Nat.mul_comm (16 ^ k) 16, Nat.mod_mul, show (a + 16 * enc l) / 16 = enc l by omega, show (a + 16 * enc l) % 16 = a by omega, ih (fun t ht => h t (List.mem_cons_of_mem _ ht))]
      rfl
theorem enc_get {l : List Nat} (h : ∀ t ∈ l, t < 16) (k : Nat) : enc l / 16 ^ k % 16 = l.getD k 0 := by
  rw [enc_div h]
  have h1 : l.getD k 0 = (l.drop k).getD 0 0 := by simp [List.getD_eq_getElem?_getD]
  rw [h1]
  have h2 : ∀ t ∈ l.drop k, t < 16 := fun t ht => h t (List.mem_of_mem_drop ht)
  generalize l.drop k = z at h2 ⊢
  cases z with
  | nil => rfl
  | cons a r =>
    have := h2 a List.mem_cons_self
    rw [enc]
    show (a + 16 * enc r) % 16 = a
    omega
theorem enc_app {l r : List Nat} : enc (l ++ r) = enc l + 16 ^ l.length * enc r := by
  induction l with
  | nil => simp [enc]
  | cons a l ih =>
    rw [List.cons_append, enc, enc, ih, List.length_cons, Nat.pow_succ, Nat.mul_add, ← Nat.mul_assoc, Nat.mul_comm 16 (16 ^ l.length)]
    omega
theorem p16 (k : Nat) : 2 ^ (4 * k) = 16 ^ k := by rw [Nat.pow_mul]
theorem zb_and15 (x : Nat) : b_an (w32 (x : Int)) 15 = ((x % 16 : Nat) : Int) := by
  unfold b_an
  have h1 : BitVec.ofInt 32 (w32 (x : Int)) = BitVec.ofNat 32 x := by
    apply BitVec.eq_of_toNat_eq
    rw [BitVec.toNat_ofInt, BitVec.toNat_ofNat]
    unfold w32
    omega
  have h0 : (BitVec.ofInt 32 15) = BitVec.ofNat 32 15 := by decide
  rw [h1, h0]
  have h2 : (BitVec.ofNat 32 x &&& BitVec.ofNat 32 15).toNat = x % 16 := by
    rw [BitVec.toNat_and, BitVec.toNat_ofNat, BitVec.toNat_ofNat, show 15 % 2 ^ 32 = 2 ^ 4 - 1 by decide, Nat.and_two_pow_sub_one_eq_mod]
    omega
  rw [BitVec.toInt_eq_toNat_of_lt (by rw [h2]; omega), h2]
/-- hearing: the thing comes first, what stands behind the last place is lost -/
abbrev hrM (l : List Nat) (t : Nat) : List Nat := t :: l.erase t
def hrL (n : Nat) (l : List Nat) (t : Nat) : List Nat := (hrM l t).take n
theorem hrM_nd {l : List Nat} (h : l.Nodup) (t : Nat) : (hrM l t).Nodup := by
  refine List.nodup_cons.mpr ⟨fun z => ?_, h.erase t⟩
  exact ((h.mem_erase_iff).mp z).1 rfl
theorem hrM_mem {l : List Nat} (h : l.Nodup) (t u : Nat) : u ∈ hrM l t ↔ u = t ∨ u ∈ l := by
  rw [List.mem_cons, h.mem_erase_iff]
  constructor
  · rintro (h | h)
    · exact Or.inl h
    · exact Or.inr h.2
  · rintro (h | h)
    · exact Or.inl h
    · by_cases e : u = t
      · exact Or.inl e
      · exact Or.inr ⟨e, h⟩
theorem hrM_lt {l : List Nat} {t : Nat} (hl : ∀ u ∈ l, u < 16) (ht : t < 16) : ∀ u ∈ hrM l t, u < 16 := by
  intro u hu
  rcases List.mem_cons.mp hu with rfl | hu
  · exact ht
  · exact hl u (List.mem_of_mem_erase hu)
theorem hrM_len {l : List Nat} (t : Nat) : (hrM l t).length = if t ∈ l then l.length else l.length + 1 := by
  rw [List.length_cons, List.length_erase]
  by_cases h : t ∈ l
  · have : 0 < l.length := List.length_pos_of_mem h
    rw [if_pos h, if_pos h]; omega
  · rw [if_neg h, if_neg h]
theorem hrL_nd {n : Nat} {l : List Nat} (h : l.Nodup) (t : Nat) : (hrL n l t).Nodup := (hrM_nd h t).sublist (List.take_sublist _ _)
theorem hrL_lt {n : Nat} {l : List Nat} {t : Nat} (hl : ∀ u ∈ l, u < 16) (ht : t < 16) : ∀ u ∈ hrL n l t, u < 16 := fun u hu => hrM_lt hl ht u (List.mem_of_mem_take hu)
theorem hrL_len {n : Nat} {l : List Nat} {t : Nat} : (hrL n l t).length ≤ n := by
  unfold hrL; rw [List.length_take]; omega
/-- a courier: size, inn, mind, how many were lost, where each was lost -/
abbrev Cr : Type := Nat × Nat × List Nat × Int × (Nat → Int)
abbrev cN (v : Cr) : Nat := v.1
abbrev cS (v : Cr) : Nat := v.2.1
abbrev cL (v : Cr) : List Nat := v.2.2.1
abbrev cZ (v : Cr) : Int := v.2.2.2.1
abbrev cA (v : Cr) : Nat → Int := v.2.2.2.2
def okl (n : Nat) (l : List Nat) : Prop := l.Nodup ∧ (∀ t ∈ l, t < 16) ∧ l.length ≤ n
def okc (v : Cr) : Prop := (1 ≤ cN v ∧ cN v ≤ 9 ∧ cS v < 10) ∧ okl (cN v) (cL v)
theorem okl.hr {n : Nat} {l : List Nat} (h : okl n l) {t : Nat} (ht : t < 16) : okl n (hrL n l t) := ⟨hrL_nd h.1 t, hrL_lt h.2.1 ht, hrL_len⟩
/-- what hearing does; what is lost -/
def goI (o : Option Nat) : Int := match o with
  | none => -1
  | some u => (u : Int)
def loZ (o : Option Nat) (z : Int) : Int := match o with
  | none => z
  | some _ => w32 (z + 1)
def loA (o : Option Nat) (s : Nat) (a : Nat → Int) : Nat → Int := match o with
  | none => a
  | some u => fun k => if k = u then (s : Int) else a k
def hrG (v : Cr) (t : Nat) : Option Nat := (hrM (cL v) t)[cN v]?
def hrV (v : Cr) (t : Nat) : Cr := (cN v, cS v, hrL (cN v) (cL v) t, loZ (hrG v t) (cZ v), loA (hrG v t) (cS v) (cA v))
theorem okc.hr {v : Cr} (h : okc v) {t : Nat} (ht : t < 16) : okc (hrV v t) := ⟨h.1, h.2.hr ht⟩
theorem hrG_in {v : Cr} (h : okc v) {t : Nat} (ht : t ∈ cL v) : hrG v t = none ∧ hrL (cN v) (cL v) t = hrM (cL v) t := by
  have h1 := hrM_len (l := cL v) t
  rw [if_pos ht] at h1
  have h2 := h.2.2.2
  exact ⟨List.getElem?_eq_none_iff.mpr (by omega), List.take_of_length_le (by omega)⟩
theorem hrG_room {v : Cr} {t : Nat} (ht : t ∉ cL v) (hl : (cL v).length < cN v) : hrG v t = none ∧ hrL (cN v) (cL v) t = t :: cL v := by
  have h1 := hrM_len (l := cL v) t
  rw [if_neg ht] at h1
  refine ⟨List.getElem?_eq_none_iff.mpr (by omega), ?_⟩
  unfold hrL
  rw [List.take_of_length_le (by omega)]
  show t :: (cL v).erase t = _
  rw [List.erase_of_not_mem ht]
theorem hrG_full {v : Cr} (h : okc v) {t : Nat} (ht : t ∉ cL v) (hl : (cL v).length = cN v) : ∃ u, hrG v t = some u ∧ u ∈ cL v ∧ (t :: cL v) = hrL (cN v) (cL v) t ++ [u] ∧ (t :: cL v).getD (cN v) 0 = u := by
  have e : hrM (cL v) t = t :: cL v := by
    show t :: (cL v).erase t = _
    rw [List.erase_of_not_mem ht]
  have h1 : cN v < (t :: cL v).length := by rw [List.length_cons]; omega
  have h0 := h.1.1
  refine ⟨(t :: cL v)[cN v], ?_, ?_, ?_, ?_⟩
  · unfold hrG; rw [e]; exact List.getElem?_eq_getElem h1
  · have h3 : (t :: cL v)[cN v] = (cL v)[cN v - 1] := by
      have : ∃ m, cN v = m + 1 := ⟨cN v - 1, by omega⟩
      obtain ⟨m, hm⟩ := this
      simp only [hm]
      rfl
    rw [h3]
    exact List.getElem_mem _
  · unfold hrL
    rw [e, List.take_append_getElem h1, List.take_of_length_le (by rw [List.length_cons]; omega)]
  · rw [List.getD_eq_getElem?_getD, List.getElem?_eq_getElem h1]
    rfl
end
