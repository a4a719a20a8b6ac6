section
/-! AN ABSTRACT MACHINE: values are integers and places, the heap is a table, a method's run is a function. -/
section
/-- a value: an int, a long, a place (tag, number), a text constant (or the script), nothing -/
abbrev ab_V : Type := Int ⊕ (Int ⊕ ((Nat × Nat) ⊕ (Nat ⊕ Unit)))
abbrev vI (x : Int) : ab_V := .inl x
abbrev vL (x : Int) : ab_V := .inr (.inl x)
abbrev vR (t i : Nat) : ab_V := .inr (.inr (.inl (t, i)))
abbrev vS (j : Nat) : ab_V := .inr (.inr (.inr (.inl j)))
abbrev vU : ab_V := .inr (.inr (.inr (.inr ())))
/-- what was made, in order; the places that fields and rows name; the numbers -/
abbrev ab_H : Type := List (Nat × Nat) × (Nat → Nat → Nat → Option (Nat × Nat)) × (Nat → Nat → Nat → Int)
abbrev ab_R : Type := Option ab_V × ab_H
/-- an instruction in a few forms: what, the next place, two numbers, an int -/
abbrev ab_E : Type := Instr × Nat × Nat × Nat × Int
def w32 (x : Int) : Int := (x + 2147483648) % 4294967296 - 2147483648
def w64 (x : Int) : Int := (x + 9223372036854775808) % 18446744073709551616 - 9223372036854775808
def w8 (x : Int) : Int := (x + 128) % 256 - 128
def w16 (x : Int) : Int := (x + 32768) % 65536 - 32768
def b_an (x y : Int) : Int := (BitVec.ofInt 32 x &&& BitVec.ofInt 32 y).toInt
def b_orr (x y : Int) : Int := (BitVec.ofInt 32 x ||| BitVec.ofInt 32 y).toInt
def b_xr (x y : Int) : Int := (BitVec.ofInt 32 x ^^^ BitVec.ofInt 32 y).toInt
def b_sl (x y : Int) : Int := w32 (x * 2 ^ (y % 32).toNat)
def b_sr (x y : Int) : Int := x / 2 ^ (y % 32).toNat
def b_us (x y : Int) : Int := w32 (x % 4294967296 / 2 ^ (y % 32).toNat)
def d_an (x y : Int) : Int := (BitVec.ofInt 64 x &&& BitVec.ofInt 64 y).toInt
def d_orr (x y : Int) : Int := (BitVec.ofInt 64 x ||| BitVec.ofInt 64 y).toInt
def d_sl (x y : Int) : Int := w64 (x * 2 ^ (y % 64).toNat)
def d_us (x y : Int) : Int := w64 (x % 18446744073709551616 / 2 ^ (y % 64).toNat)
def d_cmp (x y : Int) : Int := if x < y then -1 else if x = y then 0 else 1
def u3 {α : Type} (D : Nat → Nat → Nat → α) (t i k : Nat) (v : α) : Nat → Nat → Nat → α := fun t' i' k' => if t' = t ∧ i' = i ∧ k' = k then v else D t' i' k'
def ab_i1 {α : Type} (S : List ab_V) (f : Int → List ab_V → Option α) : Option α := match S with
  | .inl x :: S => f x S
  | _ => none
def ab_l1 {α : Type} (S : List ab_V) (f : Int → List ab_V → Option α) : Option α := match S with
  | .inr (.inl x) :: S => f x S
  | _ => none
def ab_r1 {α : Type} (S : List ab_V) (f : Nat → Nat → List ab_V → Option α) : Option α := match S with
  | .inr (.inr (.inl q)) :: S => f q.1 q.2 S
  | _ => none
def ab_s1 {α : Type} (S : List ab_V) (f : Nat → List ab_V → Option α) : Option α := match S with
  | .inr (.inr (.inr (.inl j))) :: S => f j S
  | _ => none
/-- one of category 1 -/
def ab_c1 {α : Type} (S : List ab_V) (f : ab_V → List ab_V → Option α) : Option α := match S with
  | .inl x :: S => f (.inl x) S
  | .inr (.inr (.inl q)) :: S => f (.inr (.inr (.inl q))) S
  | _ => none
def ab_lo {α : Type} (L : List ab_V) (i : Nat) (f : ab_V → Option α) : Option α := match L[i]? with
  | some v => f v
  | none => none
/-- a store of category 1 at a local: a long that stood half there is gone -/
def ab_st (L : List ab_V) (i : Nat) (v : ab_V) : List ab_V := match i with
  | 0 => L.set 0 v
  | j + 1 => match L[j]? with
    | some (.inr (.inl _)) => (L.set j vU).set (j + 1) v
    | _ => L.set (j + 1) v
def ab_st2 (L : List ab_V) (i : Nat) (v : ab_V) : List ab_V := (ab_st L i v).set (i + 1) vU
def ab_br {α : Type} (c : ClassFile.Cond) (x y : Int) (p q : α) : α := match c with
  | .eq => if x = y then p else q
  | .ne => if x ≠ y then p else q
  | .lt => if x < y then p else q
  | .ge => if y ≤ x then p else q
  | .gt => if y < x then p else q
  | .le => if x ≤ y then p else q
abbrev ab_K : Type := Nat → List ab_V → List ab_V → ab_H → Option ab_R
abbrev ab_C : Type := Nat → List ab_V → ab_H → Option ab_R
/-- the texts: their signs; the script: how long, its ints -/
abbrev ab_X : Type := (Nat → List Nat) × Nat × (Nat → Int)
/-- tags: kind (0 an object, 1 ints, 2 bytes, 3 booleans, 4 longs, 5 places) and length -/
abbrev ab_T : Type := Nat → Nat × Nat
def ab_cnt (al : List (Nat × Nat)) (t : Nat) : Nat := (al.filter (fun q => q.1 == t)).length
def ab_new (h : ab_H) (t : Nat) : ab_H := (h.1 ++ [(t, ab_cnt h.1 t)], (fun t' i' k' => if t' = t ∧ i' = ab_cnt h.1 t then none else h.2.1 t' i' k'), fun t' i' k' => if t' = t ∧ i' = ab_cnt h.1 t then 0 else h.2.2 t' i' k')
def ab_cpy (h : ab_H) (t i : Nat) (sp : Int) (t2 i2 : Nat) (dp n : Int) : ab_H := (h.1, h.2.1, fun t' i' k' => if t' = t2 ∧ i' = i2 ∧ dp ≤ (k' : Int) ∧ (k' : Int) < dp + n then h.2.2 t i ((sp + ((k' : Int) - dp)).toNat) else h.2.2 t' i' k')
/-- so many values off the stack -/
def ab_pop {α : Type} : Nat → List ab_V → List ab_V → (List ab_V → List ab_V → Option α) → Option α
  | 0, S, acc, f => f acc S
  | n + 1, v :: S, acc, f => ab_pop n S (v :: acc) f
  | _ + 1, [], _, _ => none
def ab_cv (r : Option ab_R) (f : ab_H → Option ab_R) : Option ab_R := match r with
  | some (none, h) => f h
  | _ => none
def ab_ci (r : Option ab_R) (f : Int → ab_H → Option ab_R) : Option ab_R := match r with
  | some (some (.inl y), h) => f y h
  | _ => none
def ab_cl (r : Option ab_R) (f : Int → ab_H → Option ab_R) : Option ab_R := match r with
  | some (some (.inr (.inl y)), h) => f y h
  | _ => none
def ab_rf (q : Option (Nat × Nat)) (f : Nat → Nat → Option ab_R) : Option ab_R := match q with
  | some q => f q.1 q.2
  | none => none
def ab_sw {α : Type} : List (Int × Int) → Int → Nat → (Nat → α) → α
  | [], _, d, f => f d
  | (v, t) :: ps, y, d, f => if y = v then f t.toNat else ab_sw ps y d f
/-- one step; what comes behind it is k -/
def ab_stp (T : ab_T) (X : ab_X) (cal : ab_C) (e : ab_E) (L S : List ab_V) (h : ab_H) (k : ab_K) : Option ab_R :=
  match e with
  | (op, nx, a, b, x) => match op with
  | .iconst _ => k nx L (vI x :: S) h
  | .ldc2_w _ => k nx L (vL x :: S) h
  | .iload _ => ab_lo L a fun v => match v with
    | .inl y => k nx L (vI y :: S) h
    | _ => none
  | .lload _ => ab_lo L a fun v => match v with
    | .inr (.inl y) => k nx L (vL y :: S) h
    | _ => none
  | .aload _ => ab_lo L a fun v => match v with
    | .inr (.inr (.inl q)) => k nx L (vR q.1 q.2 :: S) h
    | .inr (.inr (.inr (.inl j))) => k nx L (vS j :: S) h
    | _ => none
  | .istore _ => ab_i1 S fun y S => match Nat.blt a L.length with
    | true => k nx (ab_st L a (vI y)) S h
    | false => none
  | .lstore _ => ab_l1 S fun y S => match Nat.blt (a + 1) L.length with
    | true => k nx (ab_st2 L a (vL y)) S h
    | false => none
  | .astore _ => ab_r1 S fun t i S => match Nat.blt a L.length with
    | true => k nx (ab_st L a (vR t i)) S h
    | false => none
  | .iinc _ _ => ab_lo L a fun v => match v with
    | .inl y => k nx (ab_st L a (vI (w32 (y + x)))) S h
    | _ => none
  | .iadd => ab_i1 S fun y S => ab_i1 S fun z S => k nx L (vI (w32 (z + y)) :: S) h
  | .isub => ab_i1 S fun y S => ab_i1 S fun z S => k nx L (vI (w32 (z - y)) :: S) h
  | .imul => ab_i1 S fun y S => ab_i1 S fun z S => k nx L (vI (w32 (z * y)) :: S) h
  | .idiv => ab_i1 S fun y S => ab_i1 S fun z S => if y = 0 then none else k nx L (vI (w32 (Int.tdiv z y)) :: S) h
  | .irem => ab_i1 S fun y S => ab_i1 S fun z S => if y = 0 then none else k nx L (vI (w32 (Int.tmod z y)) :: S) h
  | .ineg => ab_i1 S fun y S => k nx L (vI (w32 (-y)) :: S) h
  | .iand => ab_i1 S fun y S => ab_i1 S fun z S => k nx L (vI (b_an z y) :: S) h
  | .ior => ab_i1 S fun y S => ab_i1 S fun z S => k nx L (vI (b_orr z y) :: S) h
  | .ixor => ab_i1 S fun y S => ab_i1 S fun z S => k nx L (vI (b_xr z y) :: S) h
  | .ishl => ab_i1 S fun y S => ab_i1 S fun z S => k nx L (vI (b_sl z y) :: S) h
  | .ishr => ab_i1 S fun y S => ab_i1 S fun z S => k nx L (vI (b_sr z y) :: S) h
  | .iushr => ab_i1 S fun y S => ab_i1 S fun z S => k nx L (vI (b_us z y) :: S) h
  | .lsub => ab_l1 S fun y S => ab_l1 S fun z S => k nx L (vL (w64 (z - y)) :: S) h
  | .land => ab_l1 S fun y S => ab_l1 S fun z S => k nx L (vL (d_an z y) :: S) h
  | .lor => ab_l1 S fun y S => ab_l1 S fun z S => k nx L (vL (d_orr z y) :: S) h
  | .lshl => ab_i1 S fun y S => ab_l1 S fun z S => k nx L (vL (d_sl z y) :: S) h
  | .lushr => ab_i1 S fun y S => ab_l1 S fun z S => k nx L (vL (d_us z y) :: S) h
  | .lcmp => ab_l1 S fun y S => ab_l1 S fun z S => k nx L (vI (d_cmp z y) :: S) h
  | .i2l => ab_i1 S fun y S => k nx L (vL y :: S) h
  | .l2i => ab_l1 S fun y S => k nx L (vI (w32 y) :: S) h
  | .i2b => ab_i1 S fun y S => k nx L (vI (w8 y) :: S) h
  | .i2s => ab_i1 S fun y S => k nx L (vI (w16 y) :: S) h
  | .dup => ab_c1 S fun v S => k nx L (v :: v :: S) h
  | .dup2 => ab_c1 S fun v S => ab_c1 S fun w S => k nx L (v :: w :: v :: w :: S) h
  | .pop => ab_c1 S fun _ S => k nx L S h
  | .pop2 => ab_l1 S fun _ S => k nx L S h
  | .goto _ => k a L S h
  | .ifCond c _ => ab_i1 S fun y S => ab_br c y 0 (k a L S h) (k nx L S h)
  | .if_icmp c _ => ab_i1 S fun y S => ab_i1 S fun z S => ab_br c z y (k a L S h) (k nx L S h)
  | .lookupswitch _ ps => ab_i1 S fun y S => ab_sw ps.toList y a fun p => k p L S h
  | .getfield _ => ab_r1 S fun t i S => match Nat.beq t a with
    | true => match x with
      | .ofNat 2 => k nx L (vL (h.2.2 t i b) :: S) h
      | .ofNat 3 => ab_rf (h.2.1 t i b) fun t' i' => k nx L (vR t' i' :: S) h
      | _ => k nx L (vI (h.2.2 t i b) :: S) h
    | false => none
  | .putfield _ => match x with
    | .ofNat 0 => ab_i1 S fun y S => ab_r1 S fun t i S => match Nat.beq t a with
      | true => k nx L S (h.1, h.2.1, u3 h.2.2 t i b y)
      | false => none
    | .ofNat 1 => ab_i1 S fun y S => ab_r1 S fun t i S => match Nat.beq t a with
      | true => if y = 0 ∨ y = 1 then k nx L S (h.1, h.2.1, u3 h.2.2 t i b y) else none
      | false => none
    | .ofNat 2 => ab_l1 S fun y S => ab_r1 S fun t i S => match Nat.beq t a with
      | true => k nx L S (h.1, h.2.1, u3 h.2.2 t i b y)
      | false => none
    | _ => ab_r1 S fun t' i' S => ab_r1 S fun t i S => match Nat.beq t a with
      | true => k nx L S (h.1, u3 h.2.1 t i b (some (t', i')), h.2.2)
      | false => none
  | .iaload => ab_i1 S fun y S => match S with
    | .inr (.inr (.inl q)) :: S => match Nat.beq (T q.1).1 1 with
      | true => if 0 ≤ y ∧ y < ((T q.1).2 : Int) then k nx L (vI (h.2.2 q.1 q.2 y.toNat) :: S) h else none
      | false => none
    | .inr (.inr (.inr (.inl j))) :: S => match Nat.beq j 1000 with
      | true => if 0 ≤ y ∧ y < (X.2.1 : Int) then k nx L (vI (X.2.2 y.toNat) :: S) h else none
      | false => none
    | _ => none
  | .baload => ab_i1 S fun y S => ab_r1 S fun t i S => match Nat.beq (T t).1 2 || Nat.beq (T t).1 3 with
    | true => if 0 ≤ y ∧ y < ((T t).2 : Int) then k nx L (vI (h.2.2 t i y.toNat) :: S) h else none
    | false => none
  | .laload => ab_i1 S fun y S => ab_r1 S fun t i S => match Nat.beq (T t).1 4 with
    | true => if 0 ≤ y ∧ y < ((T t).2 : Int) then k nx L (vL (h.2.2 t i y.toNat) :: S) h else none
    | false => none
  | .aaload => ab_i1 S fun y S => ab_r1 S fun t i S => match Nat.beq (T t).1 5 with
    | true => if 0 ≤ y ∧ y < ((T t).2 : Int) then ab_rf (h.2.1 t i y.toNat) fun t' i' => k nx L (vR t' i' :: S) h else none
    | false => none
  | .iastore => ab_i1 S fun z S => ab_i1 S fun y S => ab_r1 S fun t i S => match Nat.beq (T t).1 1 with
    | true => if 0 ≤ y ∧ y < ((T t).2 : Int) then k nx L S (h.1, h.2.1, u3 h.2.2 t i y.toNat z) else none
    | false => none
  | .bastore => ab_i1 S fun z S => ab_i1 S fun y S => ab_r1 S fun t i S => match (T t).1 with
    | 2 => if (0 ≤ y ∧ y < ((T t).2 : Int)) ∧ -128 ≤ z ∧ z < 128 then k nx L S (h.1, h.2.1, u3 h.2.2 t i y.toNat z) else none
    | 3 => if (0 ≤ y ∧ y < ((T t).2 : Int)) ∧ (z = 0 ∨ z = 1) then k nx L S (h.1, h.2.1, u3 h.2.2 t i y.toNat z) else none
    | _ => none
  | .lastore => ab_l1 S fun z S => ab_i1 S fun y S => ab_r1 S fun t i S => match Nat.beq (T t).1 4 with
    | true => if 0 ≤ y ∧ y < ((T t).2 : Int) then k nx L S (h.1, h.2.1, u3 h.2.2 t i y.toNat z) else none
    | false => none
  | .aastore => ab_r1 S fun t' i' S => ab_i1 S fun y S => ab_r1 S fun t i S => match Nat.beq (T t).1 5 && Nat.beq t' a with
    | true => if 0 ≤ y ∧ y < ((T t).2 : Int) then k nx L S (h.1, u3 h.2.1 t i y.toNat (some (t', i')), h.2.2) else none
    | false => none
  | .arraylength => match S with
    | .inr (.inr (.inl q)) :: S => match Nat.beq (T q.1).1 0 with
      | true => none
      | false => k nx L (vI ((T q.1).2 : Int) :: S) h
    | .inr (.inr (.inr (.inl j))) :: S => match Nat.beq j 1000 with
      | true => k nx L (vI (X.2.1 : Int) :: S) h
      | false => none
    | _ => none
  | .new _ => k nx L (vR a (ab_cnt h.1 a) :: S) (ab_new h a)
  | .newarray _ => ab_i1 S fun y S => if y = ((T a).2 : Int) then k nx L (vR a (ab_cnt h.1 a) :: S) (ab_new h a) else none
  | .anewarray _ => ab_i1 S fun y S => if y = ((T a).2 : Int) then k nx L (vR a (ab_cnt h.1 a) :: S) (ab_new h a) else none
  | .invokestatic _ => ab_pop b S [] fun as S => match x with
    | .ofNat 0 => ab_cv (cal a as h) fun h => k nx L S h
    | .ofNat 1 => ab_ci (cal a as h) fun y h => k nx L (vI y :: S) h
    | _ => ab_cl (cal a as h) fun y h => k nx L (vL y :: S) h
  | .caload => ab_i1 S fun n S => ab_i1 S fun dp S => ab_r1 S fun t2 i2 S => ab_i1 S fun sp S => ab_r1 S fun t i S => match Nat.beq (T t).1 1 && Nat.beq (T t2).1 1 with
    | true => if 0 ≤ sp ∧ 0 ≤ dp ∧ 0 ≤ n ∧ sp + n ≤ ((T t).2 : Int) ∧ dp + n ≤ ((T t2).2 : Int) then k nx L S (ab_cpy h t i sp t2 i2 dp n) else none
    | false => none
  | .castore => ab_s1 S fun j S => match Nat.blt j 1000 with
    | true => k nx L (vI ((X.1 j).length : Int) :: S) h
    | false => none
  | .d2f => ab_i1 S fun y S => ab_s1 S fun j S => match Nat.blt j 1000 with
    | true => if 0 ≤ y ∧ y < ((X.1 j).length : Int) then k nx L (vI (((X.1 j).getD y.toNat 0 : Nat) : Int) :: S) h else none
    | false => none
  | .d2i => k nx L (vS a :: S) h
  | .d2l => ab_r1 S fun _ _ S => k nx L S h
  | .ireturn => ab_i1 S fun y _ => match Nat.beq a 1 with
    | true => if y = 0 ∨ y = 1 then some (some (vI y), h) else none
    | false => some (some (vI y), h)
  | .lreturn => ab_l1 S fun y _ => some (some (vL y), h)
  | .return_ => some (none, h)
  | _ => none
def ab_lk : List (Nat × ab_E) → Nat → Option ab_E
  | [], _ => none
  | (p, e) :: r, pc => match Nat.beq p pc with
    | true => some e
    | false => ab_lk r pc
/-- the locals at a method's entry -/
def ab_ent : List ab_V → List ab_V
  | [] => []
  | .inr (.inl y) :: r => .inr (.inl y) :: vU :: ab_ent r
  | v :: r => v :: ab_ent r
def ab_pad (n : Nat) (L : List ab_V) : List ab_V := L ++ List.replicate (n - L.length) vU
/-- the run from a place on, so many steps -/
def ab_itr (T : ab_T) (X : ab_X) (cd : Nat → Option ab_E) (cal : ab_C) : Nat → ab_K
  | 0 => fun _ _ _ _ => none
  | n + 1 => fun pc L S h => match cd pc with
    | some e => ab_stp T X cal e L S h (ab_itr T X cd cal n)
    | none => none
end
end
section
section
/-- what comes behind is used once at most -/
def ab_Lin (f : ab_K → Option ab_R) : Prop := (∃ o, ∀ k, f k = o) ∨ ∃ (pc : Nat) (L S : List ab_V) (h : ab_H), ∀ k, f k = k pc L S h
theorem ab_Lin.c (o : Option ab_R) : ab_Lin (fun _ => o) := Or.inl ⟨o, fun _ => rfl⟩
theorem ab_Lin.k (pc : Nat) (L S : List ab_V) (h : ab_H) : ab_Lin (fun k => k pc L S h) := Or.inr ⟨pc, L, S, h, fun _ => rfl⟩
theorem ab_Lin.i1 {S : List ab_V} {f : Int → List ab_V → ab_K → Option ab_R} (hf : ∀ x S, ab_Lin (f x S)) : ab_Lin (fun k => ab_i1 S fun x S => f x S k) := by
  unfold ab_i1
  split
  · exact hf _ _
  · exact ab_Lin.c _
theorem ab_Lin.l1 {S : List ab_V} {f : Int → List ab_V → ab_K → Option ab_R} (hf : ∀ x S, ab_Lin (f x S)) : ab_Lin (fun k => ab_l1 S fun x S => f x S k) := by
  unfold ab_l1
  split
  · exact hf _ _
  · exact ab_Lin.c _
theorem ab_Lin.r1 {S : List ab_V} {f : Nat → Nat → List ab_V → ab_K → Option ab_R} (hf : ∀ t i S, ab_Lin (f t i S)) : ab_Lin (fun k => ab_r1 S fun t i S => f t i S k) := by
  unfold ab_r1
  split
  · exact hf _ _ _
  · exact ab_Lin.c _
theorem ab_Lin.s1 {S : List ab_V} {f : Nat → List ab_V → ab_K → Option ab_R} (hf : ∀ x S, ab_Lin (f x S)) : ab_Lin (fun k => ab_s1 S fun x S => f x S k) := by
  unfold ab_s1
  split
  · exact hf _ _
  · exact ab_Lin.c _
theorem ab_Lin.c1 {S : List ab_V} {f : ab_V → List ab_V → ab_K → Option ab_R} (hf : ∀ x S, ab_Lin (f x S)) : ab_Lin (fun k => ab_c1 S fun x S => f x S k) := by
  unfold ab_c1
  split
  · exact hf _ _
  · exact hf _ _
  · exact ab_Lin.c _
theorem ab_Lin.lo {L : List ab_V} {i : Nat} {f : ab_V → ab_K → Option ab_R} (hf : ∀ x, ab_Lin (f x)) : ab_Lin (fun k => ab_lo L i fun x => f x k) := by
  unfold ab_lo
  split
  · exact hf _
  · exact ab_Lin.c _
theorem ab_Lin.pop {f : List ab_V → List ab_V → ab_K → Option ab_R} (hf : ∀ a S, ab_Lin (f a S)) : ∀ (n : Nat) (S acc : List ab_V), ab_Lin (fun k => ab_pop n S acc fun a S => f a S k)
  | 0, S, acc => hf acc S
  | n + 1, [], acc => ab_Lin.c _
  | n + 1, v :: S, acc => ab_Lin.pop hf n S (v :: acc)
theorem ab_Lin.cv {r : Option ab_R} {f : ab_H → ab_K → Option ab_R} (hf : ∀ h, ab_Lin (f h)) : ab_Lin (fun k => ab_cv r fun h => f h k) := by
  unfold ab_cv
  split
  · exact hf _
  · exact ab_Lin.c _
theorem ab_Lin.ci {r : Option ab_R} {f : Int → ab_H → ab_K → Option ab_R} (hf : ∀ y h, ab_Lin (f y h)) : ab_Lin (fun k => ab_ci r fun y h => f y h k) := by
  unfold ab_ci
  split
  · exact hf _ _
  · exact ab_Lin.c _
theorem ab_Lin.cl {r : Option ab_R} {f : Int → ab_H → ab_K → Option ab_R} (hf : ∀ y h, ab_Lin (f y h)) : ab_Lin (fun k => ab_cl r fun y h => f y h k) := by
  unfold ab_cl
  split
  · exact hf _ _
  · exact ab_Lin.c _
theorem ab_Lin.rf {q : Option (Nat × Nat)} {f : Nat → Nat → ab_K → Option ab_R} (hf : ∀ t i, ab_Lin (f t i)) : ab_Lin (fun k => ab_rf q fun t i => f t i k) := by
  unfold ab_rf
  split
  · exact hf _ _
  · exact ab_Lin.c _
theorem ab_Lin.br {c : ClassFile.Cond} {x y : Int} {f g : ab_K → Option ab_R} (hf : ab_Lin f) (hg : ab_Lin g) : ab_Lin (fun k => ab_br c x y (f k) (g k)) := by
  cases c <;> simp only [ab_br] <;> split <;> assumption
theorem ab_Lin.ite {c : Prop} [Decidable c] {f g : ab_K → Option ab_R} (hf : ab_Lin f) (hg : ab_Lin g) : ab_Lin (fun k => if c then f k else g k) := by
  split <;> assumption
theorem ab_Lin.sw {y : Int} {d : Nat} {f : Nat → ab_K → Option ab_R} (hf : ∀ p, ab_Lin (f p)) : ∀ (ps : List (Int × Int)), ab_Lin (fun k => ab_sw ps y d fun p => f p k)
  | [] => hf _
  | (v, t) :: ps => by
    show ab_Lin (fun k => if y = v then f t.toNat k else ab_sw ps y d fun p => f p k)
    exact ab_Lin.ite (hf _) (ab_Lin.sw hf ps)
set_option maxHeartbeats 4000000 in
theorem ab_stp_lin (T : ab_T) (X : ab_X) (cal : ab_C) (e : ab_E) (L S : List ab_V) (h : ab_H) : ab_Lin (ab_stp T X cal e L S h) := by
  obtain ⟨op, nx, a, b, x⟩ := e
  show ab_Lin (fun k => ab_stp T X cal (op, nx, a, b, x) L S h k)
  cases op <;> dsimp only [ab_stp] <;> repeat' first
    | exact ab_Lin.c _
    | exact ab_Lin.k _ _ _ _
    | (refine ab_Lin.i1 fun _ _ => ?_)
    | (refine ab_Lin.l1 fun _ _ => ?_)
    | (refine ab_Lin.r1 fun _ _ _ => ?_)
    | (refine ab_Lin.s1 fun _ _ => ?_)
    | (refine ab_Lin.c1 fun _ _ => ?_)
    | (refine ab_Lin.lo fun _ => ?_)
    | (refine ab_Lin.pop (fun _ _ => ?_) _ _ _)
    | (refine ab_Lin.cv fun _ => ?_)
    | (refine ab_Lin.ci fun _ _ => ?_)
    | (refine ab_Lin.cl fun _ _ => ?_)
    | (refine ab_Lin.rf fun _ _ => ?_)
    | (refine ab_Lin.br ?_ ?_)
    | (refine ab_Lin.sw (fun _ => ?_) _)
    | (refine ab_Lin.ite ?_ ?_)
    | split
theorem ab_itr_mono (T : ab_T) (X : ab_X) (cd : Nat → Option ab_E) (cal : ab_C) : ∀ (n : Nat) (pc : Nat) (L S : List ab_V) (h : ab_H) (r : ab_R), ab_itr T X cd cal n pc L S h = some r → ab_itr T X cd cal (n + 1) pc L S h = some r := by
  intro n
  induction n with
  | zero => intro pc L S h r hr; cases hr
  | succ n ih =>
    intro pc L S h r hr
    unfold ab_itr at hr ⊢
    split at hr
    · rename_i e he
      rcases ab_stp_lin T X cal e L S h with ⟨o, ho⟩ | ⟨pc', L', S', h', ho⟩
      · rw [ho] at hr
        simp only [ho]
        exact hr
      · rw [ho] at hr
        simp only [ho]
        exact ih _ _ _ _ _ hr
    · cases hr
theorem ab_itr_le (T : ab_T) (X : ab_X) (cd : Nat → Option ab_E) (cal : ab_C) {n m : Nat} (hnm : n ≤ m) {pc : Nat} {L S : List ab_V} {h : ab_H} {r : ab_R} (hr : ab_itr T X cd cal n pc L S h = some r) : ab_itr T X cd cal m pc L S h = some r := by
  induction hnm with
  | refl => exact hr
  | step _ ih => exact ab_itr_mono T X cd cal _ _ _ _ _ _ ih
noncomputable def ab_lim (T : ab_T) (X : ab_X) (cd : Nat → Option ab_E) (cal : ab_C) : ab_K := fun pc L S h =>
  haveI := Classical.propDecidable (∃ n r, ab_itr T X cd cal n pc L S h = some r)
  if q : ∃ n r, ab_itr T X cd cal n pc L S h = some r then some q.choose_spec.choose else none
theorem ab_lim_of {T : ab_T} {X : ab_X} {cd : Nat → Option ab_E} {cal : ab_C} {n pc : Nat} {L S : List ab_V} {h : ab_H} {r : ab_R} (hr : ab_itr T X cd cal n pc L S h = some r) : ab_lim T X cd cal pc L S h = some r := by
  have q : ∃ n r, ab_itr T X cd cal n pc L S h = some r := ⟨n, r, hr⟩
  have e := q.choose_spec.choose_spec
  have e1 := ab_itr_le T X cd cal (Nat.le_max_left n q.choose) hr
  have e2 := ab_itr_le T X cd cal (Nat.le_max_right n q.choose) e
  unfold ab_lim
  rw [dif_pos q]
  rw [e1] at e2
  exact e2.symm
theorem ab_lim_to {T : ab_T} {X : ab_X} {cd : Nat → Option ab_E} {cal : ab_C} {pc : Nat} {L S : List ab_V} {h : ab_H} {r : ab_R} (hr : ab_lim T X cd cal pc L S h = some r) : ∃ n, ab_itr T X cd cal n pc L S h = some r := by
  unfold ab_lim at hr
  split at hr
  · rename_i q
    cases hr
    exact ⟨_, q.choose_spec.choose_spec⟩
  · cases hr
theorem ab_lim_eq (T : ab_T) (X : ab_X) (cd : Nat → Option ab_E) (cal : ab_C) (pc : Nat) (L S : List ab_V) (h : ab_H) {e : ab_E} (he : cd pc = some e) : ab_lim T X cd cal pc L S h = ab_stp T X cal e L S h (ab_lim T X cd cal) := by
  have key : ∀ n, ab_itr T X cd cal (n + 1) pc L S h = ab_stp T X cal e L S h (ab_itr T X cd cal n) := by
    intro n
    show (match cd pc with | some e => ab_stp T X cal e L S h (ab_itr T X cd cal n) | none => none) = _
    rw [he]
  rcases ab_stp_lin T X cal e L S h with ⟨o, ho⟩ | ⟨pc', L', S', h', ho⟩
  · rw [ho]
    cases o with
    | some r => exact ab_lim_of (n := 1) (by rw [key, ho])
    | none =>
      cases hq : ab_lim T X cd cal pc L S h with
      | none => rfl
      | some r =>
        obtain ⟨n, hn⟩ := ab_lim_to hq
        cases n with
        | zero => cases hn
        | succ n => rw [key, ho] at hn; cases hn
  · rw [ho]
    cases hq : ab_lim T X cd cal pc' L' S' h' with
    | some r =>
      obtain ⟨n, hn⟩ := ab_lim_to hq
      exact ab_lim_of (n := n + 1) (by rw [key, ho]; exact hn)
    | none =>
      cases hq2 : ab_lim T X cd cal pc L S h with
      | none => rfl
      | some r =>
        obtain ⟨n, hn⟩ := ab_lim_to hq2
        cases n with
        | zero => cases hn
        | succ n =>
          rw [key, ho] at hn
          rw [ab_lim_of hn] at hq
          cases hq
/-- the run with places at which it stops to be looked at -/
noncomputable def ab_run (T : ab_T) (X : ab_X) (cd : Nat → Option ab_E) (cal : ab_C) (cuts : List Nat) : Nat → ab_K
  | 0 => ab_lim T X cd cal
  | n + 1 => fun pc L S h => match cuts.elem pc with
    | true => ab_lim T X cd cal pc L S h
    | false => match cd pc with
      | some e => ab_stp T X cal e L S h (ab_run T X cd cal cuts n)
      | none => ab_lim T X cd cal pc L S h
theorem ab_run_eq (T : ab_T) (X : ab_X) (cd : Nat → Option ab_E) (cal : ab_C) (cuts : List Nat) : ∀ n, ab_run T X cd cal cuts n = ab_lim T X cd cal
  | 0 => rfl
  | n + 1 => by
    funext pc L S h
    show (match cuts.elem pc with | true => ab_lim T X cd cal pc L S h | false => match cd pc with | some e => ab_stp T X cal e L S h (ab_run T X cd cal cuts n) | none => ab_lim T X cd cal pc L S h) = _
    split
    · rfl
    · split
      · rename_i e he
        rw [ab_run_eq T X cd cal cuts n]
        exact (ab_lim_eq T X cd cal pc L S h he).symm
      · rfl
/-- methods by their numbers: code and locals; the depth of calls falls -/
noncomputable def ab_ev (T : ab_T) (X : ab_X) (cds : Nat → List (Nat × ab_E)) (nl : Nat → Nat) : Nat → ab_C
  | 0 => fun _ _ _ => none
  | d + 1 => fun m as h => ab_lim T X (ab_lk (cds m)) (ab_ev T X cds nl d) 0 (ab_pad (nl m) (ab_ent as)) [] h
end
end
