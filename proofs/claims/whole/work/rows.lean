section
/-! AN ABSTRACT MACHINE: values are integers and places, the heap is a table, a method's run is a function. -/
section
/-- a value: an int, a long, a place (tag, number), a text constant (or the script), nothing -/
abbrev ab_V : Type := Int ⊕ (Int ⊕ ((Nat × Nat) ⊕ (Nat ⊕ Unit)))
abbrev vI (x : Int) : ab_V := .inl x
abbrev vL (x : Int) : ab_V := .inr (.inl x)
abbrev vR (t i : Nat) : ab_V := .inr (.inr (.inl (t, i)))
abbrev vS (j : Nat) : ab_V := .inr (.inr (.inr (.inl j)))
abbrev vU : ab_V := .inr (.inr (.inr (.inr ())))
/-- what was made, in order; the places that fields and rows name; the numbers -/
abbrev ab_H : Type := List (Nat × Nat) × (Nat → Nat → Nat → Option (Nat × Nat)) × (Nat → Nat → Nat → Int)
abbrev ab_R : Type := Option ab_V × ab_H
/-- an instruction in a few forms: what, the next place, two numbers, an int -/
abbrev ab_E : Type := Instr × Nat × Nat × Nat × Int
def w32 (x : Int) : Int := (x + 2147483648) % 4294967296 - 2147483648
def w64 (x : Int) : Int := (x + 9223372036854775808) % 18446744073709551616 - 9223372036854775808
def w8 (x : Int) : Int := (x + 128) % 256 - 128
def w16 (x : Int) : Int := (x + 32768) % 65536 - 32768
def b_an (x y : Int) : Int := (BitVec.ofInt 32 x &&& BitVec.ofInt 32 y).toInt
def b_orr (x y : Int) : Int := (BitVec.ofInt 32 x ||| BitVec.ofInt 32 y).toInt
def b_xr (x y : Int) : Int := (BitVec.ofInt 32 x ^^^ BitVec.ofInt 32 y).toInt
def b_sl (x y : Int) : Int := w32 (x * 2 ^ (y % 32).toNat)
def b_sr (x y : Int) : Int := x / 2 ^ (y % 32).toNat
def b_us (x y : Int) : Int := w32 (x % 4294967296 / 2 ^ (y % 32).toNat)
def d_an (x y : Int) : Int := (BitVec.ofInt 64 x &&& BitVec.ofInt 64 y).toInt
def d_orr (x y : Int) : Int := (BitVec.ofInt 64 x ||| BitVec.ofInt 64 y).toInt
def d_sl (x y : Int) : Int := w64 (x * 2 ^ (y % 64).toNat)
def d_us (x y : Int) : Int := w64 (x % 18446744073709551616 / 2 ^ (y % 64).toNat)
def d_cmp (x y : Int) : Int := if x < y then -1 else if x = y then 0 else 1
def u3 {α : Type} (D : Nat → Nat → Nat → α) (t i k : Nat) (v : α) : Nat → Nat → Nat → α := fun t' i' k' => if t' = t ∧ i' = i ∧ k' = k then v else D t' i' k'
def ab_i1 {α : Type} (S : List ab_V) (f : Int → List ab_V → Option α) : Option α := match S with
  | .inl x :: S => f x S
  | _ => none
def ab_l1 {α : Type} (S : List ab_V) (f : Int → List ab_V → Option α) : Option α := match S with
  | .inr (.inl x) :: S => f x S
  | _ => none
def ab_r1 {α : Type} (S : List ab_V) (f : Nat → Nat → List ab_V → Option α) : Option α := match S with
  | .inr (.inr (.inl q)) :: S => f q.1 q.2 S
  | _ => none
def ab_s1 {α : Type} (S : List ab_V) (f : Nat → List ab_V → Option α) : Option α := match S with
  | .inr (.inr (.inr (.inl j))) :: S => f j S
  | _ => none
/-- one of category 1 -/
def ab_c1 {α : Type} (S : List ab_V) (f : ab_V → List ab_V → Option α) : Option α := match S with
  | .inl x :: S => f (.inl x) S
  | .inr (.inr (.inl q)) :: S => f (.inr (.inr (.inl q))) S
  | _ => none
def ab_lo {α : Type} (L : List ab_V) (i : Nat) (f : ab_V → Option α) : Option α := match L[i]? with
  | some v => f v
  | none => none
/-- a store of category 1 at a local: a long that stood half there is gone -/
def ab_st (L : List ab_V) (i : Nat) (v : ab_V) : List ab_V := match i with
  | 0 => L.set 0 v
  | j + 1 => match L[j]? with
    | some (.inr (.inl _)) => (L.set j vU).set (j + 1) v
    | _ => L.set (j + 1) v
def ab_st2 (L : List ab_V) (i : Nat) (v : ab_V) : List ab_V := (ab_st L i v).set (i + 1) vU
def ab_br {α : Type} (c : ClassFile.Cond) (x y : Int) (p q : α) : α := match c with
  | .eq => if x = y then p else q
  | .ne => if x ≠ y then p else q
  | .lt => if x < y then p else q
  | .ge => if y ≤ x then p else q
  | .gt => if y < x then p else q
  | .le => if x ≤ y then p else q
abbrev ab_K : Type := Nat → List ab_V → List ab_V → ab_H → Option ab_R
abbrev ab_C : Type := Nat → List ab_V → ab_H → Option ab_R
/-- the texts: their signs; the script: how long, its ints -/
abbrev ab_X : Type := (Nat → List Nat) × Nat × (Nat → Int)
/-- tags: kind (0 an object, 1 ints, 2 bytes, 3 booleans, 4 longs, 5 places) and length -/
abbrev ab_T : Type := Nat → Nat × Nat
def ab_cnt (al : List (Nat × Nat)) (t : Nat) : Nat := (al.filter (fun q => q.1 == t)).length
def ab_new (h : ab_H) (t : Nat) : ab_H := (h.1 ++ [(t, ab_cnt h.1 t)], (fun t' i' k' => if t' = t ∧ i' = ab_cnt h.1 t then none else h.2.1 t' i' k'), fun t' i' k' => if t' = t ∧ i' = ab_cnt h.1 t then 0 else h.2.2 t' i' k')
def ab_cpy (h : ab_H) (t i : Nat) (sp : Int) (t2 i2 : Nat) (dp n : Int) : ab_H := (h.1, h.2.1, fun t' i' k' => if t' = t2 ∧ i' = i2 ∧ dp ≤ (k' : Int) ∧ (k' : Int) < dp + n then h.2.2 t i ((sp + ((k' : Int) - dp)).toNat) else h.2.2 t' i' k')
/-- so many values off the stack -/
def ab_pop {α : Type} : Nat → List ab_V → List ab_V → (List ab_V → List ab_V → Option α) → Option α
  | 0, S, acc, f => f acc S
  | n + 1, v :: S, acc, f => ab_pop n S (v :: acc) f
  | _ + 1, [], _, _ => none
def ab_cv (r : Option ab_R) (f : ab_H → Option ab_R) : Option ab_R := match r with
  | some (none, h) => f h
  | _ => none
def ab_ci (r : Option ab_R) (f : Int → ab_H → Option ab_R) : Option ab_R := match r with
  | some (some (.inl y), h) => f y h
  | _ => none
def ab_cl (r : Option ab_R) (f : Int → ab_H → Option ab_R) : Option ab_R := match r with
  | some (some (.inr (.inl y)), h) => f y h
  | _ => none
def ab_rf (q : Option (Nat × Nat)) (f : Nat → Nat → Option ab_R) : Option ab_R := match q with
  | some q => f q.1 q.2
  | none => none
def ab_sw {α : Type} : List (Int × Int) → Int → Nat → (Nat → α) → α
  | [], _, d, f => f d
  | (v, t) :: ps, y, d, f => if y = v then f t.toNat else ab_sw ps y d f
/-- the first of the arguments is a place of this tag -/
def ab_hd {α : Type} (as : List ab_V) (t : Nat) (r : Option α) : Option α := match as with
  | .inr (.inr (.inl q)) :: _ => match Nat.beq q.1 t with
    | true => r
    | false => none
  | _ => none
def ab_ret (x : Int) (r : Option ab_R) (k : ab_K) (nx : Nat) (L S : List ab_V) : Option ab_R := match x with
  | .ofNat 0 => ab_cv r fun h => k nx L S h
  | .ofNat 1 => ab_ci r fun y h => k nx L (vI y :: S) h
  | _ => ab_cl r fun y h => k nx L (vL y :: S) h
/-- one step; what comes behind it is k -/
def ab_stp (T : ab_T) (X : ab_X) (cal : ab_C) (e : ab_E) (L S : List ab_V) (h : ab_H) (k : ab_K) : Option ab_R :=
  match e with
  | (op, nx, a, b, x) => match op with
  | .iconst _ => k nx L (vI x :: S) h
  | .ldc2_w _ => k nx L (vL x :: S) h
  | .iload _ => ab_lo L a fun v => match v with
    | .inl y => k nx L (vI y :: S) h
    | _ => none
  | .lload _ => ab_lo L a fun v => match v with
    | .inr (.inl y) => k nx L (vL y :: S) h
    | _ => none
  | .aload _ => ab_lo L a fun v => match v with
    | .inr (.inr (.inl q)) => k nx L (vR q.1 q.2 :: S) h
    | .inr (.inr (.inr (.inl j))) => k nx L (vS j :: S) h
    | _ => none
  | .istore _ => ab_i1 S fun y S => match Nat.blt a L.length with
    | true => k nx (ab_st L a (vI y)) S h
    | false => none
  | .lstore _ => ab_l1 S fun y S => match Nat.blt (a + 1) L.length with
    | true => k nx (ab_st2 L a (vL y)) S h
    | false => none
  | .astore _ => ab_r1 S fun t i S => match Nat.blt a L.length with
    | true => k nx (ab_st L a (vR t i)) S h
    | false => none
  | .iinc _ _ => ab_lo L a fun v => match v with
    | .inl y => k nx (ab_st L a (vI (w32 (y + x)))) S h
    | _ => none
  | .iadd => ab_i1 S fun y S => ab_i1 S fun z S => k nx L (vI (w32 (z + y)) :: S) h
  | .isub => ab_i1 S fun y S => ab_i1 S fun z S => k nx L (vI (w32 (z - y)) :: S) h
  | .imul => ab_i1 S fun y S => ab_i1 S fun z S => k nx L (vI (w32 (z * y)) :: S) h
  | .idiv => ab_i1 S fun y S => ab_i1 S fun z S => if y = 0 then none else k nx L (vI (w32 (Int.tdiv z y)) :: S) h
  | .irem => ab_i1 S fun y S => ab_i1 S fun z S => if y = 0 then none else k nx L (vI (w32 (Int.tmod z y)) :: S) h
  | .ineg => ab_i1 S fun y S => k nx L (vI (w32 (-y)) :: S) h
  | .iand => ab_i1 S fun y S => ab_i1 S fun z S => k nx L (vI (b_an z y) :: S) h
  | .ior => ab_i1 S fun y S => ab_i1 S fun z S => k nx L (vI (b_orr z y) :: S) h
  | .ixor => ab_i1 S fun y S => ab_i1 S fun z S => k nx L (vI (b_xr z y) :: S) h
  | .ishl => ab_i1 S fun y S => ab_i1 S fun z S => k nx L (vI (b_sl z y) :: S) h
  | .ishr => ab_i1 S fun y S => ab_i1 S fun z S => k nx L (vI (b_sr z y) :: S) h
  | .iushr => ab_i1 S fun y S => ab_i1 S fun z S => k nx L (vI (b_us z y) :: S) h
  | .lsub => ab_l1 S fun y S => ab_l1 S fun z S => k nx L (vL (w64 (z - y)) :: S) h
  | .land => ab_l1 S fun y S => ab_l1 S fun z S => k nx L (vL (d_an z y) :: S) h
  | .lor => ab_l1 S fun y S => ab_l1 S fun z S => k nx L (vL (d_orr z y) :: S) h
  | .lshl => ab_i1 S fun y S => ab_l1 S fun z S => k nx L (vL (d_sl z y) :: S) h
  | .lushr => ab_i1 S fun y S => ab_l1 S fun z S => k nx L (vL (d_us z y) :: S) h
  | .lcmp => ab_l1 S fun y S => ab_l1 S fun z S => k nx L (vI (d_cmp z y) :: S) h
  | .i2l => ab_i1 S fun y S => k nx L (vL y :: S) h
  | .l2i => ab_l1 S fun y S => k nx L (vI (w32 y) :: S) h
  | .i2b => ab_i1 S fun y S => k nx L (vI (w8 y) :: S) h
  | .i2s => ab_i1 S fun y S => k nx L (vI (w16 y) :: S) h
  | .dup => ab_c1 S fun v S => k nx L (v :: v :: S) h
  | .dup2 => ab_c1 S fun v S => ab_c1 S fun w S => k nx L (v :: w :: v :: w :: S) h
  | .pop => ab_c1 S fun _ S => k nx L S h
  | .pop2 => ab_l1 S fun _ S => k nx L S h
  | .goto _ => k a L S h
  | .ifCond c _ => ab_i1 S fun y S => ab_br c y 0 (k a L S h) (k nx L S h)
  | .if_icmp c _ => ab_i1 S fun y S => ab_i1 S fun z S => ab_br c z y (k a L S h) (k nx L S h)
  | .lookupswitch _ ps => ab_i1 S fun y S => ab_sw ps.toList y a fun p => k p L S h
  | .getfield _ => ab_r1 S fun t i S => match Nat.beq t a with
    | true => match x with
      | .ofNat 2 => k nx L (vL (h.2.2 t i b) :: S) h
      | .ofNat 3 => ab_rf (h.2.1 t i b) fun t' i' => k nx L (vR t' i' :: S) h
      | _ => k nx L (vI (h.2.2 t i b) :: S) h
    | false => none
  | .putfield _ => match x with
    | .ofNat 0 => ab_i1 S fun y S => ab_r1 S fun t i S => match Nat.beq t a with
      | true => k nx L S (h.1, h.2.1, u3 h.2.2 t i b y)
      | false => none
    | .ofNat 1 => ab_i1 S fun y S => ab_r1 S fun t i S => match Nat.beq t a with
      | true => if y = 0 ∨ y = 1 then k nx L S (h.1, h.2.1, u3 h.2.2 t i b y) else none
      | false => none
    | .ofNat 2 => ab_l1 S fun y S => ab_r1 S fun t i S => match Nat.beq t a with
      | true => k nx L S (h.1, h.2.1, u3 h.2.2 t i b y)
      | false => none
    | _ => ab_r1 S fun t' i' S => ab_r1 S fun t i S => match Nat.beq t a with
      | true => k nx L S (h.1, u3 h.2.1 t i b (some (t', i')), h.2.2)
      | false => none
  | .iaload => ab_i1 S fun y S => match S with
    | .inr (.inr (.inl q)) :: S => match Nat.beq (T q.1).1 1 with
      | true => if 0 ≤ y ∧ y < ((T q.1).2 : Int) then k nx L (vI (h.2.2 q.1 q.2 y.toNat) :: S) h else none
      | false => none
    | .inr (.inr (.inr (.inl j))) :: S => match Nat.beq j 1000 with
      | true => if 0 ≤ y ∧ y < (X.2.1 : Int) then k nx L (vI (X.2.2 y.toNat) :: S) h else none
      | false => none
    | _ => none
  | .baload => ab_i1 S fun y S => ab_r1 S fun t i S => match Nat.beq (T t).1 2 || Nat.beq (T t).1 3 with
    | true => if 0 ≤ y ∧ y < ((T t).2 : Int) then k nx L (vI (h.2.2 t i y.toNat) :: S) h else none
    | false => none
  | .laload => ab_i1 S fun y S => ab_r1 S fun t i S => match Nat.beq (T t).1 4 with
    | true => if 0 ≤ y ∧ y < ((T t).2 : Int) then k nx L (vL (h.2.2 t i y.toNat) :: S) h else none
    | false => none
  | .aaload => ab_i1 S fun y S => ab_r1 S fun t i S => match Nat.beq (T t).1 5 with
    | true => if 0 ≤ y ∧ y < ((T t).2 : Int) then ab_rf (h.2.1 t i y.toNat) fun t' i' => k nx L (vR t' i' :: S) h else none
    | false => none
  | .iastore => ab_i1 S fun z S => ab_i1 S fun y S => ab_r1 S fun t i S => match Nat.beq (T t).1 1 with
    | true => if 0 ≤ y ∧ y < ((T t).2 : Int) then k nx L S (h.1, h.2.1, u3 h.2.2 t i y.toNat z) else none
    | false => none
  | .bastore => ab_i1 S fun z S => ab_i1 S fun y S => ab_r1 S fun t i S => match (T t).1 with
    | 2 => if (0 ≤ y ∧ y < ((T t).2 : Int)) ∧ -128 ≤ z ∧ z < 128 then k nx L S (h.1, h.2.1, u3 h.2.2 t i y.toNat z) else none
    | 3 => if (0 ≤ y ∧ y < ((T t).2 : Int)) ∧ (z = 0 ∨ z = 1) then k nx L S (h.1, h.2.1, u3 h.2.2 t i y.toNat z) else none
    | _ => none
  | .lastore => ab_l1 S fun z S => ab_i1 S fun y S => ab_r1 S fun t i S => match Nat.beq (T t).1 4 with
    | true => if 0 ≤ y ∧ y < ((T t).2 : Int) then k nx L S (h.1, h.2.1, u3 h.2.2 t i y.toNat z) else none
    | false => none
  | .aastore => ab_r1 S fun t' i' S => ab_i1 S fun y S => ab_r1 S fun t i S => match Nat.beq t b && Nat.beq t' a with
    | true => if 0 ≤ y ∧ y < ((T t).2 : Int) then k nx L S (h.1, u3 h.2.1 t i y.toNat (some (t', i')), h.2.2) else none
    | false => none
  | .arraylength => match S with
    | .inr (.inr (.inl q)) :: S => match Nat.beq (T q.1).1 0 with
      | true => none
      | false => k nx L (vI ((T q.1).2 : Int) :: S) h
    | .inr (.inr (.inr (.inl j))) :: S => match Nat.beq j 1000 with
      | true => k nx L (vI (X.2.1 : Int) :: S) h
      | false => none
    | _ => none
  | .new _ => k nx L (vR a (ab_cnt h.1 a) :: S) (ab_new h a)
  | .newarray _ => ab_i1 S fun y S => if y = ((T a).2 : Int) then k nx L (vR a (ab_cnt h.1 a) :: S) (ab_new h a) else none
  | .anewarray _ => ab_i1 S fun y S => if y = ((T a).2 : Int) then k nx L (vR a (ab_cnt h.1 a) :: S) (ab_new h a) else none
  | .invokestatic _ => ab_pop b S [] fun as S => ab_ret x (cal a as h) k nx L S
  | .invokevirtual t => ab_pop b S [] fun as S => ab_hd as t (ab_ret x (cal a as h) k nx L S)
  | .invokespecial t => ab_pop b S [] fun as S => ab_hd as t (ab_ret x (cal a as h) k nx L S)
  | .caload => ab_i1 S fun n S => ab_i1 S fun dp S => ab_r1 S fun t2 i2 S => ab_i1 S fun sp S => ab_r1 S fun t i S => match Nat.beq (T t).1 1 && Nat.beq (T t2).1 1 with
    | true => if 0 ≤ sp ∧ 0 ≤ dp ∧ 0 ≤ n ∧ sp + n ≤ ((T t).2 : Int) ∧ dp + n ≤ ((T t2).2 : Int) then k nx L S (ab_cpy h t i sp t2 i2 dp n) else none
    | false => none
  | .castore => ab_s1 S fun j S => match Nat.blt j 1000 with
    | true => k nx L (vI ((X.1 j).length : Int) :: S) h
    | false => none
  | .d2f => ab_i1 S fun y S => ab_s1 S fun j S => match Nat.blt j 1000 with
    | true => if 0 ≤ y ∧ y < ((X.1 j).length : Int) then k nx L (vI (((X.1 j).getD y.toNat 0 : Nat) : Int) :: S) h else none
    | false => none
  | .d2i => k nx L (vS a :: S) h
  | .d2l => ab_r1 S fun _ _ S => k nx L S h
  | .ireturn => ab_i1 S fun y _ => match Nat.beq a 1 with
    | true => if y = 0 ∨ y = 1 then some (some (vI y), h) else none
    | false => some (some (vI y), h)
  | .lreturn => ab_l1 S fun y _ => some (some (vL y), h)
  | .return_ => some (none, h)
  | _ => none
def ab_lk : List (Nat × ab_E) → Nat → Option ab_E
  | [], _ => none
  | (p, e) :: r, pc => match Nat.beq p pc with
    | true => some e
    | false => ab_lk r pc
/-- the locals at a method's entry -/
def ab_ent : List ab_V → List ab_V
  | [] => []
  | .inr (.inl y) :: r => .inr (.inl y) :: vU :: ab_ent r
  | v :: r => v :: ab_ent r
def ab_pad (n : Nat) (L : List ab_V) : List ab_V := L ++ List.replicate (n - L.length) vU
/-- the run from a place on, so many steps -/
def ab_itr (T : ab_T) (X : ab_X) (cd : Nat → Option ab_E) (cal : ab_C) : Nat → ab_K
  | 0 => fun _ _ _ _ => none
  | n + 1 => fun pc L S h => match cd pc with
    | some e => ab_stp T X cal e L S h (ab_itr T X cd cal n)
    | none => none
end
end
section
section
/-- what comes behind is used once at most -/
def ab_Lin (f : ab_K → Option ab_R) : Prop := (∃ o, ∀ k, f k = o) ∨ ∃ (pc : Nat) (L S : List ab_V) (h : ab_H), ∀ k, f k = k pc L S h
theorem ab_Lin.c (o : Option ab_R) : ab_Lin (fun _ => o) := Or.inl ⟨o, fun _ => rfl⟩
theorem ab_Lin.k (pc : Nat) (L S : List ab_V) (h : ab_H) : ab_Lin (fun k => k pc L S h) := Or.inr ⟨pc, L, S, h, fun _ => rfl⟩
theorem ab_Lin.i1 {S : List ab_V} {f : Int → List ab_V → ab_K → Option ab_R} (hf : ∀ x S, ab_Lin (f x S)) : ab_Lin (fun k => ab_i1 S fun x S => f x S k) := by
  unfold ab_i1
  split
  · exact hf _ _
  · exact ab_Lin.c _
theorem ab_Lin.l1 {S : List ab_V} {f : Int → List ab_V → ab_K → Option ab_R} (hf : ∀ x S, ab_Lin (f x S)) : ab_Lin (fun k => ab_l1 S fun x S => f x S k) := by
  unfold ab_l1
  split
  · exact hf _ _
  · exact ab_Lin.c _
theorem ab_Lin.r1 {S : List ab_V} {f : Nat → Nat → List ab_V → ab_K → Option ab_R} (hf : ∀ t i S, ab_Lin (f t i S)) : ab_Lin (fun k => ab_r1 S fun t i S => f t i S k) := by
  unfold ab_r1
  split
  · exact hf _ _ _
  · exact ab_Lin.c _
theorem ab_Lin.s1 {S : List ab_V} {f : Nat → List ab_V → ab_K → Option ab_R} (hf : ∀ x S, ab_Lin (f x S)) : ab_Lin (fun k => ab_s1 S fun x S => f x S k) := by
  unfold ab_s1
  split
  · exact hf _ _
  · exact ab_Lin.c _
theorem ab_Lin.c1 {S : List ab_V} {f : ab_V → List ab_V → ab_K → Option ab_R} (hf : ∀ x S, ab_Lin (f x S)) : ab_Lin (fun k => ab_c1 S fun x S => f x S k) := by
  unfold ab_c1
  split
  · exact hf _ _
  · exact hf _ _
  · exact ab_Lin.c _
theorem ab_Lin.lo {L : List ab_V} {i : Nat} {f : ab_V → ab_K → Option ab_R} (hf : ∀ x, ab_Lin (f x)) : ab_Lin (fun k => ab_lo L i fun x => f x k) := by
  unfold ab_lo
  split
  · exact hf _
  · exact ab_Lin.c _
theorem ab_Lin.pop {f : List ab_V → List ab_V → ab_K → Option ab_R} (hf : ∀ a S, ab_Lin (f a S)) : ∀ (n : Nat) (S acc : List ab_V), ab_Lin (fun k => ab_pop n S acc fun a S => f a S k)
  | 0, S, acc => hf acc S
  | n + 1, [], acc => ab_Lin.c _
  | n + 1, v :: S, acc => ab_Lin.pop hf n S (v :: acc)
theorem ab_Lin.cv {r : Option ab_R} {f : ab_H → ab_K → Option ab_R} (hf : ∀ h, ab_Lin (f h)) : ab_Lin (fun k => ab_cv r fun h => f h k) := by
  unfold ab_cv
  split
  · exact hf _
  · exact ab_Lin.c _
theorem ab_Lin.ci {r : Option ab_R} {f : Int → ab_H → ab_K → Option ab_R} (hf : ∀ y h, ab_Lin (f y h)) : ab_Lin (fun k => ab_ci r fun y h => f y h k) := by
  unfold ab_ci
  split
  · exact hf _ _
  · exact ab_Lin.c _
theorem ab_Lin.cl {r : Option ab_R} {f : Int → ab_H → ab_K → Option ab_R} (hf : ∀ y h, ab_Lin (f y h)) : ab_Lin (fun k => ab_cl r fun y h => f y h k) := by
  unfold ab_cl
  split
  · exact hf _ _
  · exact ab_Lin.c _
theorem ab_Lin.rf {q : Option (Nat × Nat)} {f : Nat → Nat → ab_K → Option ab_R} (hf : ∀ t i, ab_Lin (f t i)) : ab_Lin (fun k => ab_rf q fun t i => f t i k) := by
  unfold ab_rf
  split
  · exact hf _ _
  · exact ab_Lin.c _
theorem ab_Lin.br {c : ClassFile.Cond} {x y : Int} {f g : ab_K → Option ab_R} (hf : ab_Lin f) (hg : ab_Lin g) : ab_Lin (fun k => ab_br c x y (f k) (g k)) := by
  cases c <;> simp only [ab_br] <;> split <;> assumption
theorem ab_Lin.ite {c : Prop} [Decidable c] {f g : ab_K → Option ab_R} (hf : ab_Lin f) (hg : ab_Lin g) : ab_Lin (fun k => if c then f k else g k) := by
  split <;> assumption
theorem ab_Lin.sw {y : Int} {d : Nat} {f : Nat → ab_K → Option ab_R} (hf : ∀ p, ab_Lin (f p)) : ∀ (ps : List (Int × Int)), ab_Lin (fun k => ab_sw ps y d fun p => f p k)
  | [] => hf _
  | (v, t) :: ps => by
    show ab_Lin (fun k => if y = v then f t.toNat k else ab_sw ps y d fun p => f p k)
    exact ab_Lin.ite (hf _) (ab_Lin.sw hf ps)
theorem ab_Lin.hd {as : List ab_V} {t : Nat} {f : ab_K → Option ab_R} (hf : ab_Lin f) : ab_Lin (fun k => ab_hd as t (f k)) := by
  unfold ab_hd
  split
  · split
    · exact hf
    · exact ab_Lin.c _
  · exact ab_Lin.c _
theorem ab_Lin.ret {x : Int} {r : Option ab_R} {nx : Nat} {L S : List ab_V} : ab_Lin (fun k => ab_ret x r k nx L S) := by
  unfold ab_ret
  split
  · exact ab_Lin.cv fun _ => ab_Lin.k _ _ _ _
  · exact ab_Lin.ci fun _ _ => ab_Lin.k _ _ _ _
  · exact ab_Lin.cl fun _ _ => ab_Lin.k _ _ _ _
set_option maxHeartbeats 4000000 in
theorem ab_stp_lin (T : ab_T) (X : ab_X) (cal : ab_C) (e : ab_E) (L S : List ab_V) (h : ab_H) : ab_Lin (ab_stp T X cal e L S h) := by
  obtain ⟨op, nx, a, b, x⟩ := e
  show ab_Lin (fun k => ab_stp T X cal (op, nx, a, b, x) L S h k)
  cases op <;> dsimp only [ab_stp] <;> repeat' first
    | exact ab_Lin.c _
    | exact ab_Lin.k _ _ _ _
    | (refine ab_Lin.i1 fun _ _ => ?_)
    | (refine ab_Lin.l1 fun _ _ => ?_)
    | (refine ab_Lin.r1 fun _ _ _ => ?_)
    | (refine ab_Lin.s1 fun _ _ => ?_)
    | (refine ab_Lin.c1 fun _ _ => ?_)
    | (refine ab_Lin.lo fun _ => ?_)
    | (refine ab_Lin.pop (fun _ _ => ?_) _ _ _)
    | exact ab_Lin.ret
    | (refine ab_Lin.hd ?_)
    | (refine ab_Lin.rf fun _ _ => ?_)
    | (refine ab_Lin.br ?_ ?_)
    | (refine ab_Lin.sw (fun _ => ?_) _)
    | (refine ab_Lin.ite ?_ ?_)
    | split
theorem ab_itr_mono (T : ab_T) (X : ab_X) (cd : Nat → Option ab_E) (cal : ab_C) : ∀ (n : Nat) (pc : Nat) (L S : List ab_V) (h : ab_H) (r : ab_R), ab_itr T X cd cal n pc L S h = some r → ab_itr T X cd cal (n + 1) pc L S h = some r := by
  intro n
  induction n with
  | zero => intro pc L S h r hr; cases hr
  | succ n ih =>
    intro pc L S h r hr
    unfold ab_itr at hr ⊢
    split at hr
    · rename_i e he
      rcases ab_stp_lin T X cal e L S h with ⟨o, ho⟩ | ⟨pc', L', S', h', ho⟩
      · rw [ho] at hr
        simp only [ho]
        exact hr
      · rw [ho] at hr
        simp only [ho]
        exact ih _ _ _ _ _ hr
    · cases hr
theorem ab_itr_le (T : ab_T) (X : ab_X) (cd : Nat → Option ab_E) (cal : ab_C) {n m : Nat} (hnm : n ≤ m) {pc : Nat} {L S : List ab_V} {h : ab_H} {r : ab_R} (hr : ab_itr T X cd cal n pc L S h = some r) : ab_itr T X cd cal m pc L S h = some r := by
  induction hnm with
  | refl => exact hr
  | step _ ih => exact ab_itr_mono T X cd cal _ _ _ _ _ _ ih
noncomputable def ab_lim (T : ab_T) (X : ab_X) (cd : Nat → Option ab_E) (cal : ab_C) : ab_K := fun pc L S h =>
  haveI := Classical.propDecidable (∃ n r, ab_itr T X cd cal n pc L S h = some r)
  if q : ∃ n r, ab_itr T X cd cal n pc L S h = some r then some q.choose_spec.choose else none
theorem ab_lim_of {T : ab_T} {X : ab_X} {cd : Nat → Option ab_E} {cal : ab_C} {n pc : Nat} {L S : List ab_V} {h : ab_H} {r : ab_R} (hr : ab_itr T X cd cal n pc L S h = some r) : ab_lim T X cd cal pc L S h = some r := by
  have q : ∃ n r, ab_itr T X cd cal n pc L S h = some r := ⟨n, r, hr⟩
  have e := q.choose_spec.choose_spec
  have e1 := ab_itr_le T X cd cal (Nat.le_max_left n q.choose) hr
  have e2 := ab_itr_le T X cd cal (Nat.le_max_right n q.choose) e
  unfold ab_lim
  rw [dif_pos q]
  rw [e1] at e2
  exact e2.symm
theorem ab_lim_to {T : ab_T} {X : ab_X} {cd : Nat → Option ab_E} {cal : ab_C} {pc : Nat} {L S : List ab_V} {h : ab_H} {r : ab_R} (hr : ab_lim T X cd cal pc L S h = some r) : ∃ n, ab_itr T X cd cal n pc L S h = some r := by
  unfold ab_lim at hr
  split at hr
  · rename_i q
    cases hr
    exact ⟨_, q.choose_spec.choose_spec⟩
  · cases hr
theorem ab_lim_eq (T : ab_T) (X : ab_X) (cd : Nat → Option ab_E) (cal : ab_C) (pc : Nat) (L S : List ab_V) (h : ab_H) {e : ab_E} (he : cd pc = some e) : ab_lim T X cd cal pc L S h = ab_stp T X cal e L S h (ab_lim T X cd cal) := by
  have key : ∀ n, ab_itr T X cd cal (n + 1) pc L S h = ab_stp T X cal e L S h (ab_itr T X cd cal n) := by
    intro n
    show (match cd pc with | some e => ab_stp T X cal e L S h (ab_itr T X cd cal n) | none => none) = _
    rw [he]
  rcases ab_stp_lin T X cal e L S h with ⟨o, ho⟩ | ⟨pc', L', S', h', ho⟩
  · rw [ho]
    cases o with
    | some r => exact ab_lim_of (n := 1) (by rw [key, ho])
    | none =>
      cases hq : ab_lim T X cd cal pc L S h with
      | none => rfl
      | some r =>
        obtain ⟨n, hn⟩ := ab_lim_to hq
        cases n with
        | zero => cases hn
        | succ n => rw [key, ho] at hn; cases hn
  · rw [ho]
    cases hq : ab_lim T X cd cal pc' L' S' h' with
    | some r =>
      obtain ⟨n, hn⟩ := ab_lim_to hq
      exact ab_lim_of (n := n + 1) (by rw [key, ho]; exact hn)
    | none =>
      cases hq2 : ab_lim T X cd cal pc L S h with
      | none => rfl
      | some r =>
        obtain ⟨n, hn⟩ := ab_lim_to hq2
        cases n with
        | zero => cases hn
        | succ n =>
          rw [key, ho] at hn
          rw [ab_lim_of hn] at hq
          cases hq
/-- the run with places at which it stops to be looked at -/
noncomputable def ab_run (T : ab_T) (X : ab_X) (cd : Nat → Option ab_E) (cal : ab_C) (cuts : List Nat) : Nat → ab_K
  | 0 => ab_lim T X cd cal
  | n + 1 => fun pc L S h => match cuts.elem pc with
    | true => ab_lim T X cd cal pc L S h
    | false => match cd pc with
      | some e => ab_stp T X cal e L S h (ab_run T X cd cal cuts n)
      | none => ab_lim T X cd cal pc L S h
theorem ab_run_eq (T : ab_T) (X : ab_X) (cd : Nat → Option ab_E) (cal : ab_C) (cuts : List Nat) : ∀ n, ab_run T X cd cal cuts n = ab_lim T X cd cal
  | 0 => rfl
  | n + 1 => by
    funext pc L S h
    show (match cuts.elem pc with | true => ab_lim T X cd cal pc L S h | false => match cd pc with | some e => ab_stp T X cal e L S h (ab_run T X cd cal cuts n) | none => ab_lim T X cd cal pc L S h) = _
    split
    · rfl
    · split
      · rename_i e he
        rw [ab_run_eq T X cd cal cuts n]
        exact (ab_lim_eq T X cd cal pc L S h he).symm
      · rfl
/-- methods by their numbers: code and locals; the depth of calls falls -/
noncomputable def ab_ev (T : ab_T) (X : ab_X) (cds : Nat → List (Nat × ab_E)) (nl : Nat → Nat) : Nat → ab_C
  | 0 => fun _ _ _ => none
  | d + 1 => fun m as h => ab_lim T X (ab_lk (cds m)) (ab_ev T X cds nl d) 0 (ab_pad (nl m) (ab_ent as)) [] h
end
end
section
section
def cd_N_init : List (Nat × ab_E) := [(0, (.aload 0, 1, 0, 0, 0)), (1, (.d2l, 4, 0, 0, 0)), (4, (.aload 0, 5, 0, 0, 0)), (5, (.new 0, 8, 7, 0, 0)), (8, (.dup, 9, 0, 0, 0)), (9, (.invokespecial 7, 12, 259, 1, 0)), (12, (.putfield 0, 15, 11, 0, 3)), (15, (.aload 0, 16, 0, 0, 0)), (16, (.new 0, 19, 10, 0, 0)), (19, (.dup, 20, 0, 0, 0)), (20, (.invokespecial 10, 23, 287, 1, 0)), (23, (.putfield 0, 26, 11, 1, 3)), (26, (.aload 0, 27, 0, 0, 0)), (27, (.aload 0, 28, 0, 0, 0)), (28, (.getfield 0, 31, 11, 1, 3)), (31, (.getfield 0, 34, 10, 0, 3)), (34, (.putfield 0, 37, 11, 2, 3)), (37, (.aload 0, 38, 0, 0, 0)), (38, (.aload 0, 39, 0, 0, 0)), (39, (.getfield 0, 42, 11, 1, 3)), (42, (.getfield 0, 45, 10, 1, 3)), (45, (.putfield 0, 48, 11, 3, 3)), (48, (.aload 0, 49, 0, 0, 0)), (49, (.aload 0, 50, 0, 0, 0)), (50, (.getfield 0, 53, 11, 1, 3)), (53, (.getfield 0, 56, 10, 2, 3)), (56, (.putfield 0, 59, 11, 4, 3)), (59, (.aload 0, 60, 0, 0, 0)), (60, (.iconst 0, 61, 0, 0, 2)), (61, (.anewarray 0, 64, 20, 0, 0)), (64, (.putfield 0, 67, 11, 5, 3)), (67, (.aload 0, 68, 0, 0, 0)), (68, (.iconst 0, 69, 0, 0, 4)), (69, (.anewarray 0, 72, 21, 0, 0)), (72, (.putfield 0, 75, 11, 6, 3)), (75, (.aload 0, 76, 0, 0, 0)), (76, (.new 0, 79, 2, 0, 0)), (79, (.dup, 80, 0, 0, 0)), (80, (.invokespecial 2, 83, 184, 1, 0)), (83, (.putfield 0, 86, 11, 7, 3)), (86, (.aload 0, 87, 0, 0, 0)), (87, (.new 0, 90, 4, 0, 0)), (90, (.dup, 91, 0, 0, 0)), (91, (.invokespecial 4, 94, 219, 1, 0)), (94, (.putfield 0, 97, 11, 8, 3)), (97, (.aload 0, 98, 0, 0, 0)), (98, (.new 0, 101, 9, 0, 0)), (101, (.dup, 102, 0, 0, 0)), (102, (.invokespecial 9, 105, 283, 1, 0)), (105, (.putfield 0, 108, 11, 9, 3)), (108, (.aload 0, 109, 0, 0, 0)), (109, (.new 0, 112, 1, 0, 0)), (112, (.dup, 113, 0, 0, 0)), (113, (.invokespecial 1, 116, 174, 1, 0)), (116, (.putfield 0, 119, 11, 10, 3)), (119, (.aload 0, 120, 0, 0, 0)), (120, (.new 0, 123, 0, 0, 0)), (123, (.dup, 124, 0, 0, 0)), (124, (.invokespecial 0, 127, 166, 1, 0)), (127, (.putfield 0, 130, 11, 11, 3)), (130, (.iconst 0, 131, 0, 0, 0)), (131, (.istore 0, 132, 1, 0, 0)), (132, (.iload 0, 133, 1, 0, 0)), (133, (.aload 0, 134, 0, 0, 0)), (134, (.getfield 0, 137, 11, 5, 3)), (137, (.arraylength, 138, 0, 0, 0)), (138, (.if_icmp .ge 0, 141, 160, 0, 0)), (141, (.aload 0, 142, 0, 0, 0)), (142, (.getfield 0, 145, 11, 5, 3)), (145, (.iload 0, 146, 1, 0, 0)), (146, (.new 0, 149, 10, 0, 0)), (149, (.dup, 150, 0, 0, 0)), (150, (.invokespecial 10, 153, 287, 1, 0)), (153, (.aastore, 154, 10, 20, 0)), (154, (.iinc 0 0, 157, 1, 0, 1)), (157, (.goto 0, 160, 132, 0, 0)), (160, (.iconst 0, 161, 0, 0, 0)), (161, (.istore 0, 162, 1, 0, 0)), (162, (.iload 0, 163, 1, 0, 0)), (163, (.aload 0, 164, 0, 0, 0)), (164, (.getfield 0, 167, 11, 6, 3)), (167, (.arraylength, 168, 0, 0, 0)), (168, (.if_icmp .ge 0, 171, 190, 0, 0)), (171, (.aload 0, 172, 0, 0, 0)), (172, (.getfield 0, 175, 11, 6, 3)), (175, (.iload 0, 176, 1, 0, 0)), (176, (.new 0, 179, 8, 0, 0)), (179, (.dup, 180, 0, 0, 0)), (180, (.invokespecial 8, 183, 279, 1, 0)), (183, (.aastore, 184, 8, 21, 0)), (184, (.iinc 0 0, 187, 1, 0, 1)), (187, (.goto 0, 190, 162, 0, 0)), (190, (.return_, 191, 0, 0, 0))]
def cd_N_feed : List (Nat × ab_E) := [(0, (.aload 0, 1, 0, 0, 0)), (1, (.getfield 0, 4, 11, 0, 3)), (4, (.getfield 0, 7, 7, 3, 0)), (7, (.iconst 0, 9, 0, 0, 20)), (9, (.iadd, 10, 0, 0, 0)), (10, (.iconst 0, 13, 0, 0, 500)), (13, (.if_icmp .le 0, 16, 19, 0, 0)), (16, (.iconst 0, 18, 0, 0, -5)), (18, (.ireturn, 19, 0, 0, 0)), (19, (.aload 0, 20, 0, 0, 0)), (20, (.getfield 0, 23, 11, 0, 3)), (23, (.iload 0, 24, 1, 0, 0)), (24, (.invokevirtual 7, 27, 260, 2, 0)), (27, (.aload 0, 28, 0, 0, 0)), (28, (.getfield 0, 31, 11, 0, 3)), (31, (.iload 0, 32, 2, 0, 0)), (32, (.invokevirtual 7, 35, 260, 2, 0)), (35, (.aload 0, 36, 0, 0, 0)), (36, (.getfield 0, 39, 11, 0, 3)), (39, (.iload 0, 40, 3, 0, 0)), (40, (.invokevirtual 7, 43, 260, 2, 0)), (43, (.aload 0, 44, 0, 0, 0)), (44, (.getfield 0, 47, 11, 0, 3)), (47, (.iload 0, 49, 4, 0, 0)), (49, (.invokevirtual 7, 52, 260, 2, 0)), (52, (.aload 0, 53, 0, 0, 0)), (53, (.getfield 0, 56, 11, 0, 3)), (56, (.iload 0, 58, 5, 0, 0)), (58, (.invokevirtual 7, 61, 260, 2, 0)), (61, (.aload 0, 62, 0, 0, 0)), (62, (.getfield 0, 65, 11, 0, 3)), (65, (.getfield 0, 68, 7, 3, 0)), (68, (.ireturn, 69, 0, 0, 0))]
def cd_N_lore : List (Nat × ab_E) := [(0, (.iload 0, 1, 1, 0, 0)), (1, (.ifCond .lt 0, 4, 15, 0, 0)), (4, (.iload 0, 5, 1, 0, 0)), (5, (.aload 0, 6, 0, 0, 0)), (6, (.getfield 0, 9, 11, 0, 3)), (9, (.getfield 0, 12, 7, 3, 0)), (12, (.if_icmp .le 0, 15, 18, 0, 0)), (15, (.iconst 0, 17, 0, 0, -3)), (17, (.ireturn, 18, 0, 0, 0)), (18, (.aload 0, 19, 0, 0, 0)), (19, (.getfield 0, 22, 11, 0, 3)), (22, (.iload 0, 23, 1, 0, 0)), (23, (.invokevirtual 7, 26, 261, 2, 1)), (26, (.ifCond .ne 0, 29, 40, 0, 0)), (29, (.iconst 0, 31, 0, 0, -30)), (31, (.aload 0, 32, 0, 0, 0)), (32, (.getfield 0, 35, 11, 0, 3)), (35, (.getfield 0, 38, 7, 1, 0)), (38, (.isub, 39, 0, 0, 0)), (39, (.ireturn, 40, 0, 0, 0)), (40, (.aload 0, 41, 0, 0, 0)), (41, (.getfield 0, 44, 11, 1, 3)), (44, (.aload 0, 45, 0, 0, 0)), (45, (.getfield 0, 48, 11, 0, 3)), (48, (.getfield 0, 51, 7, 0, 3)), (51, (.invokevirtual 10, 54, 288, 2, 0)), (54, (.aload 0, 55, 0, 0, 0)), (55, (.getfield 0, 58, 11, 2, 3)), (58, (.getfield 0, 61, 5, 2, 0)), (61, (.ireturn, 62, 0, 0, 0))]
def cd_N_fault : List (Nat × ab_E) := [(0, (.iload 0, 1, 1, 0, 0)), (1, (.lookupswitch 0 #[(0, 28), (1, 36)], 28, 44, 0, 0)), (28, (.aload 0, 29, 0, 0, 0)), (29, (.getfield 0, 32, 11, 0, 3)), (32, (.getfield 0, 35, 7, 1, 0)), (35, (.ireturn, 36, 0, 0, 0)), (36, (.aload 0, 37, 0, 0, 0)), (37, (.getfield 0, 40, 11, 0, 3)), (40, (.getfield 0, 43, 7, 2, 0)), (43, (.ireturn, 44, 0, 0, 0)), (44, (.iconst 0, 45, 0, 0, -1)), (45, (.ireturn, 46, 0, 0, 0))]
def cd_N_thing : List (Nat × ab_E) := [(0, (.aload 0, 1, 0, 0, 0)), (1, (.getfield 0, 4, 11, 2, 3)), (4, (.iload 0, 5, 1, 0, 0)), (5, (.i2l, 6, 0, 0, 0)), (6, (.invokevirtual 5, 9, 235, 2, 1)), (9, (.ifCond .ne 0, 12, 15, 0, 0)), (12, (.iconst 0, 14, 0, 0, -2)), (14, (.ireturn, 15, 0, 0, 0)), (15, (.iload 0, 16, 2, 0, 0)), (16, (.lookupswitch 0 #[(0, 44), (1, 54), (2, 64)], 44, 74, 0, 0)), (44, (.aload 0, 45, 0, 0, 0)), (45, (.getfield 0, 48, 11, 2, 3)), (48, (.getfield 0, 51, 5, 6, 3)), (51, (.iload 0, 52, 1, 0, 0)), (52, (.iaload, 53, 0, 0, 0)), (53, (.ireturn, 54, 0, 0, 0)), (54, (.aload 0, 55, 0, 0, 0)), (55, (.getfield 0, 58, 11, 2, 3)), (58, (.getfield 0, 61, 5, 4, 3)), (61, (.iload 0, 62, 1, 0, 0)), (62, (.iaload, 63, 0, 0, 0)), (63, (.ireturn, 64, 0, 0, 0)), (64, (.aload 0, 65, 0, 0, 0)), (65, (.getfield 0, 68, 11, 2, 3)), (68, (.getfield 0, 71, 5, 5, 3)), (71, (.iload 0, 72, 1, 0, 0)), (72, (.iaload, 73, 0, 0, 0)), (73, (.ireturn, 74, 0, 0, 0)), (74, (.iconst 0, 76, 0, 0, -2)), (76, (.ireturn, 77, 0, 0, 0))]
def cd_N_news : List (Nat × ab_E) := [(0, (.aload 0, 1, 0, 0, 0)), (1, (.getfield 0, 4, 11, 2, 3)), (4, (.iload 0, 5, 1, 0, 0)), (5, (.i2l, 6, 0, 0, 0)), (6, (.invokevirtual 5, 9, 236, 2, 1)), (9, (.ifCond .ne 0, 12, 15, 0, 0)), (12, (.iconst 0, 14, 0, 0, -2)), (14, (.ireturn, 15, 0, 0, 0)), (15, (.iload 0, 16, 2, 0, 0)), (16, (.iconst 0, 17, 0, 0, -1)), (17, (.if_icmp .ne 0, 20, 30, 0, 0)), (20, (.aload 0, 21, 0, 0, 0)), (21, (.getfield 0, 24, 11, 2, 3)), (24, (.getfield 0, 27, 5, 7, 3)), (27, (.iload 0, 28, 1, 0, 0)), (28, (.iaload, 29, 0, 0, 0)), (29, (.ireturn, 30, 0, 0, 0)), (30, (.iload 0, 31, 2, 0, 0)), (31, (.ifCond .lt 0, 34, 47, 0, 0)), (34, (.iload 0, 35, 2, 0, 0)), (35, (.aload 0, 36, 0, 0, 0)), (36, (.getfield 0, 39, 11, 2, 3)), (39, (.getfield 0, 42, 5, 7, 3)), (42, (.iload 0, 43, 1, 0, 0)), (43, (.iaload, 44, 0, 0, 0)), (44, (.if_icmp .lt 0, 47, 50, 0, 0)), (47, (.iconst 0, 49, 0, 0, -7)), (49, (.ireturn, 50, 0, 0, 0)), (50, (.aload 0, 51, 0, 0, 0)), (51, (.getfield 0, 54, 11, 2, 3)), (54, (.iload 0, 55, 1, 0, 0)), (55, (.iload 0, 56, 2, 0, 0)), (56, (.invokevirtual 5, 59, 239, 3, 1)), (59, (.ireturn, 60, 0, 0, 0))]
def cd_N_comes : List (Nat × ab_E) := [(0, (.aload 0, 1, 0, 0, 0)), (1, (.getfield 0, 4, 11, 3, 3)), (4, (.getfield 0, 7, 2, 1, 0)), (7, (.iconst 0, 9, 0, 0, 6)), (9, (.if_icmp .lt 0, 12, 15, 0, 0)), (12, (.iconst 0, 14, 0, 0, -4)), (14, (.ireturn, 15, 0, 0, 0)), (15, (.aload 0, 16, 0, 0, 0)), (16, (.getfield 0, 19, 11, 2, 3)), (19, (.getfield 0, 22, 5, 0, 0)), (22, (.ifCond .ne 0, 25, 28, 0, 0)), (25, (.iconst 0, 27, 0, 0, -5)), (27, (.ireturn, 28, 0, 0, 0)), (28, (.iload 0, 29, 1, 0, 0)), (29, (.iconst 0, 30, 0, 0, 1)), (30, (.if_icmp .lt 0, 33, 44, 0, 0)), (33, (.iload 0, 34, 1, 0, 0)), (34, (.aload 0, 35, 0, 0, 0)), (35, (.getfield 0, 38, 11, 2, 3)), (38, (.getfield 0, 41, 5, 1, 0)), (41, (.if_icmp .le 0, 44, 47, 0, 0)), (44, (.iconst 0, 46, 0, 0, -3)), (46, (.ireturn, 47, 0, 0, 0)), (47, (.aload 0, 48, 0, 0, 0)), (48, (.getfield 0, 51, 11, 3, 3)), (51, (.iload 0, 52, 1, 0, 0)), (52, (.invokevirtual 2, 55, 188, 2, 1)), (55, (.ireturn, 56, 0, 0, 0))]
def cd_N_of : List (Nat × ab_E) := [(0, (.aload 0, 1, 0, 0, 0)), (1, (.getfield 0, 4, 11, 3, 3)), (4, (.iload 0, 5, 1, 0, 0)), (5, (.i2l, 6, 0, 0, 0)), (6, (.invokevirtual 2, 9, 186, 2, 1)), (9, (.ifCond .ne 0, 12, 15, 0, 0)), (12, (.iconst 0, 14, 0, 0, -2)), (14, (.ireturn, 15, 0, 0, 0)), (15, (.aload 0, 16, 0, 0, 0)), (16, (.getfield 0, 19, 11, 3, 3)), (19, (.getfield 0, 22, 2, 0, 3)), (22, (.iload 0, 23, 1, 0, 0)), (23, (.aaload, 24, 0, 0, 0)), (24, (.astore 0, 25, 3, 0, 0)), (25, (.iload 0, 26, 2, 0, 0)), (26, (.lookupswitch 0 #[(0, 64), (1, 69), (2, 74), (3, 79), (4, 84), (5, 96)], 64, 101, 0, 0)), (64, (.aload 0, 65, 3, 0, 0)), (65, (.getfield 0, 68, 3, 0, 0)), (68, (.ireturn, 69, 0, 0, 0)), (69, (.aload 0, 70, 3, 0, 0)), (70, (.getfield 0, 73, 3, 1, 0)), (73, (.ireturn, 74, 0, 0, 0)), (74, (.aload 0, 75, 3, 0, 0)), (75, (.getfield 0, 78, 3, 2, 0)), (78, (.ireturn, 79, 0, 0, 0)), (79, (.aload 0, 80, 3, 0, 0)), (80, (.getfield 0, 83, 3, 3, 0)), (83, (.ireturn, 84, 0, 0, 0)), (84, (.aload 0, 85, 0, 0, 0)), (85, (.getfield 0, 88, 11, 2, 3)), (88, (.aload 0, 89, 3, 0, 0)), (89, (.getfield 0, 92, 3, 3, 0)), (92, (.invokevirtual 5, 95, 242, 2, 1)), (95, (.ireturn, 96, 0, 0, 0)), (96, (.aload 0, 97, 3, 0, 0)), (97, (.getfield 0, 100, 3, 5, 0)), (100, (.ireturn, 101, 0, 0, 0)), (101, (.iload 0, 102, 2, 0, 0)), (102, (.iconst 0, 104, 0, 0, 10)), (104, (.if_icmp .ge 0, 107, 110, 0, 0)), (107, (.iconst 0, 109, 0, 0, -2)), (109, (.ireturn, 110, 0, 0, 0)), (110, (.iload 0, 111, 2, 0, 0)), (111, (.iconst 0, 113, 0, 0, 10)), (113, (.isub, 114, 0, 0, 0)), (114, (.istore 0, 116, 4, 0, 0)), (116, (.iload 0, 118, 4, 0, 0)), (118, (.aload 0, 119, 3, 0, 0)), (119, (.getfield 0, 122, 3, 2, 0)), (122, (.if_icmp .ge 0, 125, 134, 0, 0)), (125, (.aload 0, 126, 3, 0, 0)), (126, (.iload 0, 128, 4, 0, 0)), (128, (.invokevirtual 3, 131, 209, 2, 1)), (131, (.goto 0, 134, 136, 0, 0)), (134, (.iconst 0, 136, 0, 0, -7)), (136, (.ireturn, 137, 0, 0, 0))]
def cd_N_lost : List (Nat × ab_E) := [(0, (.aload 0, 1, 0, 0, 0)), (1, (.getfield 0, 4, 11, 3, 3)), (4, (.iload 0, 5, 1, 0, 0)), (5, (.i2l, 6, 0, 0, 0)), (6, (.invokevirtual 2, 9, 186, 2, 1)), (9, (.ifCond .eq 0, 12, 24, 0, 0)), (12, (.aload 0, 13, 0, 0, 0)), (13, (.getfield 0, 16, 11, 2, 3)), (16, (.iload 0, 17, 2, 0, 0)), (17, (.i2l, 18, 0, 0, 0)), (18, (.invokevirtual 5, 21, 235, 2, 1)), (21, (.ifCond .ne 0, 24, 27, 0, 0)), (24, (.iconst 0, 26, 0, 0, -2)), (26, (.ireturn, 27, 0, 0, 0)), (27, (.aload 0, 28, 0, 0, 0)), (28, (.getfield 0, 31, 11, 3, 3)), (31, (.getfield 0, 34, 2, 0, 3)), (34, (.iload 0, 35, 1, 0, 0)), (35, (.aaload, 36, 0, 0, 0)), (36, (.getfield 0, 39, 3, 6, 3)), (39, (.iload 0, 40, 2, 0, 0)), (40, (.iaload, 41, 0, 0, 0)), (41, (.ireturn, 42, 0, 0, 0))]
def cd_N_hears : List (Nat × ab_E) := [(0, (.aload 0, 1, 0, 0, 0)), (1, (.getfield 0, 4, 11, 3, 3)), (4, (.iload 0, 5, 1, 0, 0)), (5, (.i2l, 6, 0, 0, 0)), (6, (.invokevirtual 2, 9, 186, 2, 1)), (9, (.ifCond .eq 0, 12, 24, 0, 0)), (12, (.aload 0, 13, 0, 0, 0)), (13, (.getfield 0, 16, 11, 2, 3)), (16, (.iload 0, 17, 2, 0, 0)), (17, (.i2l, 18, 0, 0, 0)), (18, (.invokevirtual 5, 21, 235, 2, 1)), (21, (.ifCond .ne 0, 24, 27, 0, 0)), (24, (.iconst 0, 26, 0, 0, -2)), (26, (.ireturn, 27, 0, 0, 0)), (27, (.aload 0, 28, 0, 0, 0)), (28, (.getfield 0, 31, 11, 3, 3)), (31, (.getfield 0, 34, 2, 0, 3)), (34, (.iload 0, 35, 1, 0, 0)), (35, (.aaload, 36, 0, 0, 0)), (36, (.iload 0, 37, 2, 0, 0)), (37, (.invokevirtual 3, 40, 211, 2, 1)), (40, (.ireturn, 41, 0, 0, 0))]
def cd_N_says : List (Nat × ab_E) := [(0, (.aload 0, 1, 0, 0, 0)), (1, (.getfield 0, 4, 11, 3, 3)), (4, (.iload 0, 5, 1, 0, 0)), (5, (.i2l, 6, 0, 0, 0)), (6, (.invokevirtual 2, 9, 186, 2, 1)), (9, (.ifCond .eq 0, 12, 24, 0, 0)), (12, (.aload 0, 13, 0, 0, 0)), (13, (.getfield 0, 16, 11, 2, 3)), (16, (.iload 0, 17, 2, 0, 0)), (17, (.i2l, 18, 0, 0, 0)), (18, (.invokevirtual 5, 21, 235, 2, 1)), (21, (.ifCond .ne 0, 24, 27, 0, 0)), (24, (.iconst 0, 26, 0, 0, -2)), (26, (.ireturn, 27, 0, 0, 0)), (27, (.aload 0, 28, 0, 0, 0)), (28, (.getfield 0, 31, 11, 3, 3)), (31, (.getfield 0, 34, 2, 0, 3)), (34, (.iload 0, 35, 1, 0, 0)), (35, (.aaload, 36, 0, 0, 0)), (36, (.astore 0, 37, 3, 0, 0)), (37, (.aload 0, 38, 3, 0, 0)), (38, (.iload 0, 39, 2, 0, 0)), (39, (.invokevirtual 3, 42, 208, 2, 1)), (42, (.ifCond .eq 0, 45, 57, 0, 0)), (45, (.aload 0, 46, 3, 0, 0)), (46, (.aload 0, 47, 0, 0, 0)), (47, (.getfield 0, 50, 11, 2, 3)), (50, (.iload 0, 51, 2, 0, 0)), (51, (.invokevirtual 3, 54, 214, 3, 1)), (54, (.goto 0, 57, 59, 0, 0)), (57, (.iconst 0, 59, 0, 0, -5)), (59, (.ireturn, 60, 0, 0, 0))]
def cd_N_tells : List (Nat × ab_E) := [(0, (.aload 0, 1, 0, 0, 0)), (1, (.getfield 0, 4, 11, 3, 3)), (4, (.iload 0, 5, 1, 0, 0)), (5, (.i2l, 6, 0, 0, 0)), (6, (.iload 0, 7, 2, 0, 0)), (7, (.i2l, 8, 0, 0, 0)), (8, (.invokevirtual 2, 11, 187, 3, 1)), (11, (.ifCond .eq 0, 14, 26, 0, 0)), (14, (.aload 0, 15, 0, 0, 0)), (15, (.getfield 0, 18, 11, 2, 3)), (18, (.iload 0, 19, 3, 0, 0)), (19, (.i2l, 20, 0, 0, 0)), (20, (.invokevirtual 5, 23, 235, 2, 1)), (23, (.ifCond .ne 0, 26, 29, 0, 0)), (26, (.iconst 0, 28, 0, 0, -2)), (28, (.ireturn, 29, 0, 0, 0)), (29, (.aload 0, 30, 0, 0, 0)), (30, (.getfield 0, 33, 11, 3, 3)), (33, (.getfield 0, 36, 2, 0, 3)), (36, (.iload 0, 37, 1, 0, 0)), (37, (.aaload, 38, 0, 0, 0)), (38, (.astore 0, 40, 4, 0, 0)), (40, (.aload 0, 41, 0, 0, 0)), (41, (.getfield 0, 44, 11, 3, 3)), (44, (.getfield 0, 47, 2, 0, 3)), (47, (.iload 0, 48, 2, 0, 0)), (48, (.aaload, 49, 0, 0, 0)), (49, (.astore 0, 51, 5, 0, 0)), (51, (.aload 0, 53, 4, 0, 0)), (53, (.iload 0, 54, 3, 0, 0)), (54, (.invokevirtual 3, 57, 208, 2, 1)), (57, (.ifCond .eq 0, 60, 73, 0, 0)), (60, (.aload 0, 62, 4, 0, 0)), (62, (.getfield 0, 65, 3, 1, 0)), (65, (.aload 0, 67, 5, 0, 0)), (67, (.getfield 0, 70, 3, 1, 0)), (70, (.if_icmp .eq 0, 73, 76, 0, 0)), (73, (.iconst 0, 75, 0, 0, -5)), (75, (.ireturn, 76, 0, 0, 0)), (76, (.aload 0, 78, 4, 0, 0)), (78, (.aload 0, 79, 0, 0, 0)), (79, (.getfield 0, 82, 11, 2, 3)), (82, (.iload 0, 83, 3, 0, 0)), (83, (.invokevirtual 3, 86, 214, 3, 1)), (86, (.istore 0, 88, 6, 0, 0)), (88, (.aload 0, 90, 5, 0, 0)), (90, (.iload 0, 91, 3, 0, 0)), (91, (.invokevirtual 3, 94, 211, 2, 1)), (94, (.iconst 0, 95, 0, 0, -1)), (95, (.if_icmp .ne 0, 98, 103, 0, 0)), (98, (.iload 0, 100, 6, 0, 0)), (100, (.goto 0, 103, 107, 0, 0)), (103, (.iload 0, 105, 6, 0, 0)), (105, (.iconst 0, 106, 0, 0, 1)), (106, (.iadd, 107, 0, 0, 0)), (107, (.ireturn, 108, 0, 0, 0))]
def cd_N_walks : List (Nat × ab_E) := [(0, (.aload 0, 1, 0, 0, 0)), (1, (.getfield 0, 4, 11, 3, 3)), (4, (.iload 0, 5, 1, 0, 0)), (5, (.i2l, 6, 0, 0, 0)), (6, (.invokevirtual 2, 9, 186, 2, 1)), (9, (.ifCond .eq 0, 12, 24, 0, 0)), (12, (.aload 0, 13, 0, 0, 0)), (13, (.getfield 0, 16, 11, 2, 3)), (16, (.iload 0, 17, 2, 0, 0)), (17, (.i2l, 18, 0, 0, 0)), (18, (.invokevirtual 5, 21, 236, 2, 1)), (21, (.ifCond .ne 0, 24, 27, 0, 0)), (24, (.iconst 0, 26, 0, 0, -2)), (26, (.ireturn, 27, 0, 0, 0)), (27, (.aload 0, 28, 0, 0, 0)), (28, (.getfield 0, 31, 11, 3, 3)), (31, (.getfield 0, 34, 2, 0, 3)), (34, (.iload 0, 35, 1, 0, 0)), (35, (.aaload, 36, 0, 0, 0)), (36, (.aload 0, 37, 0, 0, 0)), (37, (.getfield 0, 40, 11, 2, 3)), (40, (.iload 0, 41, 2, 0, 0)), (41, (.invokevirtual 3, 44, 215, 3, 1)), (44, (.ireturn, 45, 0, 0, 0))]
def cd_N_recites : List (Nat × ab_E) := [(0, (.aload 0, 1, 0, 0, 0)), (1, (.getfield 0, 4, 11, 3, 3)), (4, (.iload 0, 5, 1, 0, 0)), (5, (.i2l, 6, 0, 0, 0)), (6, (.invokevirtual 2, 9, 186, 2, 1)), (9, (.ifCond .ne 0, 12, 15, 0, 0)), (12, (.iconst 0, 14, 0, 0, -2)), (14, (.ireturn, 15, 0, 0, 0)), (15, (.aload 0, 16, 0, 0, 0)), (16, (.iload 0, 17, 2, 0, 0)), (17, (.invokevirtual 11, 20, 48, 2, 1)), (20, (.istore 0, 21, 3, 0, 0)), (21, (.iload 0, 22, 3, 0, 0)), (22, (.ifCond .eq 0, 25, 27, 0, 0)), (25, (.iload 0, 26, 3, 0, 0)), (26, (.ireturn, 27, 0, 0, 0)), (27, (.aload 0, 28, 0, 0, 0)), (28, (.getfield 0, 31, 11, 3, 3)), (31, (.getfield 0, 34, 2, 0, 3)), (34, (.iload 0, 35, 1, 0, 0)), (35, (.aaload, 36, 0, 0, 0)), (36, (.aload 0, 37, 0, 0, 0)), (37, (.getfield 0, 40, 11, 2, 3)), (40, (.aload 0, 41, 0, 0, 0)), (41, (.getfield 0, 44, 11, 6, 3)), (44, (.iload 0, 45, 2, 0, 0)), (45, (.aaload, 46, 0, 0, 0)), (46, (.invokevirtual 3, 49, 217, 3, 1)), (49, (.ireturn, 50, 0, 0, 0))]
def cd_N_delivers : List (Nat × ab_E) := [(0, (.aload 0, 1, 0, 0, 0)), (1, (.getfield 0, 4, 11, 3, 3)), (4, (.iload 0, 5, 1, 0, 0)), (5, (.i2l, 6, 0, 0, 0)), (6, (.invokevirtual 2, 9, 186, 2, 1)), (9, (.ifCond .ne 0, 12, 15, 0, 0)), (12, (.iconst 0, 14, 0, 0, -2)), (14, (.ireturn, 15, 0, 0, 0)), (15, (.aload 0, 16, 0, 0, 0)), (16, (.getfield 0, 19, 11, 3, 3)), (19, (.getfield 0, 22, 2, 0, 3)), (22, (.iload 0, 23, 1, 0, 0)), (23, (.aaload, 24, 0, 0, 0)), (24, (.aload 0, 25, 0, 0, 0)), (25, (.getfield 0, 28, 11, 2, 3)), (28, (.invokevirtual 3, 31, 218, 2, 1)), (31, (.ireturn, 32, 0, 0, 0))]
def cd_N_breach : List (Nat × ab_E) := [(0, (.iconst 0, 1, 0, 0, 0)), (1, (.istore 0, 2, 1, 0, 0)), (2, (.iload 0, 3, 1, 0, 0)), (3, (.aload 0, 4, 0, 0, 0)), (4, (.getfield 0, 7, 11, 3, 3)), (7, (.getfield 0, 10, 2, 1, 0)), (10, (.if_icmp .ge 0, 13, 52, 0, 0)), (13, (.aload 0, 14, 0, 0, 0)), (14, (.getfield 0, 17, 11, 2, 3)), (17, (.aload 0, 18, 0, 0, 0)), (18, (.getfield 0, 21, 11, 3, 3)), (21, (.getfield 0, 24, 2, 0, 3)), (24, (.iload 0, 25, 1, 0, 0)), (25, (.aaload, 26, 0, 0, 0)), (26, (.getfield 0, 29, 3, 3, 0)), (29, (.invokevirtual 5, 32, 243, 2, 1)), (32, (.istore 0, 33, 2, 0, 0)), (33, (.iload 0, 34, 2, 0, 0)), (34, (.iconst 0, 35, 0, 0, -1)), (35, (.if_icmp .eq 0, 38, 46, 0, 0)), (38, (.iconst 0, 41, 0, 0, 1000)), (41, (.iload 0, 42, 1, 0, 0)), (42, (.imul, 43, 0, 0, 0)), (43, (.iload 0, 44, 2, 0, 0)), (44, (.iadd, 45, 0, 0, 0)), (45, (.ireturn, 46, 0, 0, 0)), (46, (.iinc 0 0, 49, 1, 0, 1)), (49, (.goto 0, 52, 2, 0, 0)), (52, (.iconst 0, 53, 0, 0, -1)), (53, (.ireturn, 54, 0, 0, 0))]
def cd_N_risk : List (Nat × ab_E) := [(0, (.aload 0, 1, 0, 0, 0)), (1, (.getfield 0, 4, 11, 3, 3)), (4, (.iload 0, 5, 1, 0, 0)), (5, (.i2l, 6, 0, 0, 0)), (6, (.invokevirtual 2, 9, 186, 2, 1)), (9, (.ifCond .eq 0, 12, 24, 0, 0)), (12, (.aload 0, 13, 0, 0, 0)), (13, (.getfield 0, 16, 11, 2, 3)), (16, (.iload 0, 17, 2, 0, 0)), (17, (.i2l, 18, 0, 0, 0)), (18, (.invokevirtual 5, 21, 235, 2, 1)), (21, (.ifCond .ne 0, 24, 27, 0, 0)), (24, (.iconst 0, 26, 0, 0, -2)), (26, (.ireturn, 27, 0, 0, 0)), (27, (.aload 0, 28, 0, 0, 0)), (28, (.getfield 0, 31, 11, 7, 3)), (31, (.aload 0, 32, 0, 0, 0)), (32, (.getfield 0, 35, 11, 3, 3)), (35, (.invokevirtual 2, 38, 185, 2, 0)), (38, (.aload 0, 39, 0, 0, 0)), (39, (.getfield 0, 42, 11, 7, 3)), (42, (.getfield 0, 45, 2, 0, 3)), (45, (.iload 0, 46, 1, 0, 0)), (46, (.aaload, 47, 0, 0, 0)), (47, (.astore 0, 48, 3, 0, 0)), (48, (.aload 0, 49, 3, 0, 0)), (49, (.iload 0, 50, 2, 0, 0)), (50, (.invokevirtual 3, 53, 211, 2, 1)), (53, (.pop, 54, 0, 0, 0)), (54, (.aload 0, 55, 0, 0, 0)), (55, (.getfield 0, 58, 11, 2, 3)), (58, (.aload 0, 59, 3, 0, 0)), (59, (.getfield 0, 62, 3, 3, 0)), (62, (.invokevirtual 5, 65, 243, 2, 1)), (65, (.iconst 0, 66, 0, 0, -1)), (66, (.if_icmp .ne 0, 69, 73, 0, 0)), (69, (.iconst 0, 70, 0, 0, 0)), (70, (.goto 0, 73, 74, 0, 0)), (73, (.iconst 0, 74, 0, 0, 1)), (74, (.ireturn, 75, 0, 0, 0))]
def cd_N_loud : List (Nat × ab_E) := [(0, (.aload 0, 1, 0, 0, 0)), (1, (.getfield 0, 4, 11, 2, 3)), (4, (.iload 0, 5, 1, 0, 0)), (5, (.i2l, 6, 0, 0, 0)), (6, (.invokevirtual 5, 9, 236, 2, 1)), (9, (.ifCond .eq 0, 12, 24, 0, 0)), (12, (.aload 0, 13, 0, 0, 0)), (13, (.getfield 0, 16, 11, 2, 3)), (16, (.iload 0, 17, 2, 0, 0)), (17, (.i2l, 18, 0, 0, 0)), (18, (.invokevirtual 5, 21, 236, 2, 1)), (21, (.ifCond .ne 0, 24, 27, 0, 0)), (24, (.iconst 0, 26, 0, 0, -2)), (26, (.ireturn, 27, 0, 0, 0)), (27, (.aload 0, 28, 0, 0, 0)), (28, (.getfield 0, 31, 11, 2, 3)), (31, (.iload 0, 32, 1, 0, 0)), (32, (.iload 0, 33, 2, 0, 0)), (33, (.invokevirtual 5, 36, 241, 3, 1)), (36, (.invokestatic 0, 39, 291, 1, 1)), (39, (.ireturn, 40, 0, 0, 0))]
def cd_N_turned : List (Nat × ab_E) := [(0, (.aload 0, 1, 0, 0, 0)), (1, (.getfield 0, 4, 11, 3, 3)), (4, (.iload 0, 5, 1, 0, 0)), (5, (.i2l, 6, 0, 0, 0)), (6, (.invokevirtual 2, 9, 186, 2, 1)), (9, (.ifCond .eq 0, 12, 24, 0, 0)), (12, (.aload 0, 13, 0, 0, 0)), (13, (.getfield 0, 16, 11, 3, 3)), (16, (.iload 0, 17, 2, 0, 0)), (17, (.i2l, 18, 0, 0, 0)), (18, (.invokevirtual 2, 21, 186, 2, 1)), (21, (.ifCond .ne 0, 24, 27, 0, 0)), (24, (.iconst 0, 26, 0, 0, -2)), (26, (.ireturn, 27, 0, 0, 0)), (27, (.aload 0, 28, 0, 0, 0)), (28, (.getfield 0, 31, 11, 3, 3)), (31, (.aload 0, 32, 0, 0, 0)), (32, (.getfield 0, 35, 11, 3, 3)), (35, (.getfield 0, 38, 2, 0, 3)), (38, (.iload 0, 39, 1, 0, 0)), (39, (.aaload, 40, 0, 0, 0)), (40, (.aload 0, 41, 0, 0, 0)), (41, (.getfield 0, 44, 11, 3, 3)), (44, (.getfield 0, 47, 2, 0, 3)), (47, (.iload 0, 48, 2, 0, 0)), (48, (.aaload, 49, 0, 0, 0)), (49, (.invokevirtual 2, 52, 189, 3, 1)), (52, (.ireturn, 53, 0, 0, 0))]
def cd_N_judge : List (Nat × ab_E) := [(0, (.aload 0, 1, 0, 0, 0)), (1, (.getfield 0, 4, 11, 3, 3)), (4, (.iload 0, 5, 1, 0, 0)), (5, (.i2l, 6, 0, 0, 0)), (6, (.invokevirtual 2, 9, 186, 2, 1)), (9, (.ifCond .eq 0, 12, 21, 0, 0)), (12, (.iload 0, 13, 3, 0, 0)), (13, (.ifCond .lt 0, 16, 21, 0, 0)), (16, (.iload 0, 17, 3, 0, 0)), (17, (.iconst 0, 18, 0, 0, 3)), (18, (.if_icmp .le 0, 21, 24, 0, 0)), (21, (.iconst 0, 23, 0, 0, -2)), (23, (.ireturn, 24, 0, 0, 0)), (24, (.aload 0, 25, 0, 0, 0)), (25, (.iload 0, 26, 2, 0, 0)), (26, (.invokevirtual 11, 29, 48, 2, 1)), (29, (.istore 0, 31, 4, 0, 0)), (31, (.iload 0, 33, 4, 0, 0)), (33, (.ifCond .eq 0, 36, 39, 0, 0)), (36, (.iload 0, 38, 4, 0, 0)), (38, (.ireturn, 39, 0, 0, 0)), (39, (.aload 0, 40, 0, 0, 0)), (40, (.getfield 0, 43, 11, 7, 3)), (43, (.aload 0, 44, 0, 0, 0)), (44, (.getfield 0, 47, 11, 3, 3)), (47, (.invokevirtual 2, 50, 185, 2, 0)), (50, (.aload 0, 51, 0, 0, 0)), (51, (.getfield 0, 54, 11, 7, 3)), (54, (.aload 0, 55, 0, 0, 0)), (55, (.getfield 0, 58, 11, 2, 3)), (58, (.iload 0, 59, 1, 0, 0)), (59, (.aload 0, 60, 0, 0, 0)), (60, (.getfield 0, 63, 11, 6, 3)), (63, (.iload 0, 64, 2, 0, 0)), (64, (.aaload, 65, 0, 0, 0)), (65, (.invokevirtual 2, 68, 190, 4, 1)), (68, (.istore 0, 70, 5, 0, 0)), (70, (.aload 0, 71, 0, 0, 0)), (71, (.getfield 0, 74, 11, 7, 3)), (74, (.getfield 0, 77, 2, 0, 3)), (77, (.iload 0, 78, 1, 0, 0)), (78, (.aaload, 79, 0, 0, 0)), (79, (.astore 0, 81, 6, 0, 0)), (81, (.iload 0, 82, 3, 0, 0)), (82, (.lookupswitch 0 #[(0, 108), (1, 129), (2, 148)], 108, 154, 0, 0)), (108, (.iload 0, 110, 5, 0, 0)), (110, (.aload 0, 111, 0, 0, 0)), (111, (.getfield 0, 114, 11, 6, 3)), (114, (.iload 0, 115, 2, 0, 0)), (115, (.aaload, 116, 0, 0, 0)), (116, (.getfield 0, 119, 8, 1, 0)), (119, (.if_icmp .ge 0, 122, 127, 0, 0)), (122, (.iload 0, 124, 5, 0, 0)), (124, (.goto 0, 127, 128, 0, 0)), (127, (.iconst 0, 128, 0, 0, -1)), (128, (.ireturn, 129, 0, 0, 0)), (129, (.aload 0, 131, 6, 0, 0)), (131, (.getfield 0, 134, 3, 5, 0)), (134, (.aload 0, 135, 0, 0, 0)), (135, (.getfield 0, 138, 11, 3, 3)), (138, (.getfield 0, 141, 2, 0, 3)), (141, (.iload 0, 142, 1, 0, 0)), (142, (.aaload, 143, 0, 0, 0)), (143, (.getfield 0, 146, 3, 5, 0)), (146, (.isub, 147, 0, 0, 0)), (147, (.ireturn, 148, 0, 0, 0)), (148, (.aload 0, 150, 6, 0, 0)), (150, (.getfield 0, 153, 3, 3, 0)), (153, (.ireturn, 154, 0, 0, 0)), (154, (.aload 0, 155, 0, 0, 0)), (155, (.getfield 0, 158, 11, 7, 3)), (158, (.getfield 0, 161, 2, 2, 0)), (161, (.ireturn, 162, 0, 0, 0))]
def cd_N_perform : List (Nat × ab_E) := [(0, (.aload 0, 1, 0, 0, 0)), (1, (.getfield 0, 4, 11, 3, 3)), (4, (.iload 0, 5, 1, 0, 0)), (5, (.i2l, 6, 0, 0, 0)), (6, (.invokevirtual 2, 9, 186, 2, 1)), (9, (.ifCond .ne 0, 12, 15, 0, 0)), (12, (.iconst 0, 14, 0, 0, -2)), (14, (.ireturn, 15, 0, 0, 0)), (15, (.aload 0, 16, 0, 0, 0)), (16, (.iload 0, 17, 2, 0, 0)), (17, (.invokevirtual 11, 20, 48, 2, 1)), (20, (.istore 0, 21, 3, 0, 0)), (21, (.iload 0, 22, 3, 0, 0)), (22, (.ifCond .eq 0, 25, 27, 0, 0)), (25, (.iload 0, 26, 3, 0, 0)), (26, (.ireturn, 27, 0, 0, 0)), (27, (.aload 0, 28, 0, 0, 0)), (28, (.getfield 0, 31, 11, 3, 3)), (31, (.aload 0, 32, 0, 0, 0)), (32, (.getfield 0, 35, 11, 2, 3)), (35, (.iload 0, 36, 1, 0, 0)), (36, (.aload 0, 37, 0, 0, 0)), (37, (.getfield 0, 40, 11, 6, 3)), (40, (.iload 0, 41, 2, 0, 0)), (41, (.aaload, 42, 0, 0, 0)), (42, (.invokevirtual 2, 45, 190, 4, 1)), (45, (.ireturn, 46, 0, 0, 0))]
def cd_N_day : List (Nat × ab_E) := [(0, (.aload 0, 1, 0, 0, 0)), (1, (.getfield 0, 4, 11, 3, 3)), (4, (.getfield 0, 7, 2, 1, 0)), (7, (.ifCond .ne 0, 10, 13, 0, 0)), (10, (.iconst 0, 12, 0, 0, -5)), (12, (.ireturn, 13, 0, 0, 0)), (13, (.iload 0, 14, 2, 0, 0)), (14, (.iconst 0, 15, 0, 0, 1)), (15, (.if_icmp .lt 0, 18, 24, 0, 0)), (18, (.iload 0, 19, 2, 0, 0)), (19, (.iconst 0, 21, 0, 0, 40)), (21, (.if_icmp .le 0, 24, 27, 0, 0)), (24, (.iconst 0, 26, 0, 0, -3)), (26, (.ireturn, 27, 0, 0, 0)), (27, (.aload 0, 28, 0, 0, 0)), (28, (.getfield 0, 31, 11, 3, 3)), (31, (.aload 0, 32, 0, 0, 0)), (32, (.getfield 0, 35, 11, 2, 3)), (35, (.iload 0, 36, 1, 0, 0)), (36, (.iload 0, 37, 2, 0, 0)), (37, (.invokevirtual 2, 40, 196, 4, 1)), (40, (.ireturn, 41, 0, 0, 0))]
def cd_N_fresh : List (Nat × ab_E) := [(0, (.aload 0, 1, 0, 0, 0)), (1, (.iload 0, 2, 1, 0, 0)), (2, (.iload 0, 3, 2, 0, 0)), (3, (.iload 0, 4, 3, 0, 0)), (4, (.iconst 0, 5, 0, 0, 2)), (5, (.invokevirtual 11, 8, 49, 5, 1)), (8, (.istore 0, 10, 4, 0, 0)), (10, (.iload 0, 12, 4, 0, 0)), (12, (.ifCond .eq 0, 15, 20, 0, 0)), (15, (.iload 0, 17, 4, 0, 0)), (17, (.goto 0, 20, 29, 0, 0)), (20, (.aload 0, 21, 0, 0, 0)), (21, (.getfield 0, 24, 11, 8, 3)), (24, (.iload 0, 25, 2, 0, 0)), (25, (.iload 0, 26, 3, 0, 0)), (26, (.invokevirtual 4, 29, 222, 3, 1)), (29, (.ireturn, 30, 0, 0, 0))]
def cd_N_kept : List (Nat × ab_E) := [(0, (.aload 0, 1, 0, 0, 0)), (1, (.iload 0, 2, 1, 0, 0)), (2, (.iload 0, 3, 2, 0, 0)), (3, (.iload 0, 4, 3, 0, 0)), (4, (.iconst 0, 5, 0, 0, 1)), (5, (.invokevirtual 11, 8, 49, 5, 1)), (8, (.istore 0, 10, 4, 0, 0)), (10, (.iload 0, 12, 4, 0, 0)), (12, (.ifCond .eq 0, 15, 18, 0, 0)), (15, (.iload 0, 17, 4, 0, 0)), (17, (.ireturn, 18, 0, 0, 0)), (18, (.aload 0, 19, 0, 0, 0)), (19, (.getfield 0, 22, 11, 8, 3)), (22, (.iload 0, 23, 2, 0, 0)), (23, (.iload 0, 24, 3, 0, 0)), (24, (.invokevirtual 4, 27, 222, 3, 1)), (27, (.pop, 28, 0, 0, 0)), (28, (.aload 0, 29, 0, 0, 0)), (29, (.getfield 0, 32, 11, 8, 3)), (32, (.getfield 0, 35, 4, 1, 0)), (35, (.ireturn, 36, 0, 0, 0))]
def cd_N_less : List (Nat × ab_E) := [(0, (.aload 0, 1, 0, 0, 0)), (1, (.iload 0, 2, 1, 0, 0)), (2, (.iconst 0, 3, 0, 0, 1)), (3, (.iconst 0, 4, 0, 0, 1)), (4, (.iconst 0, 5, 0, 0, 1)), (5, (.invokevirtual 11, 8, 49, 5, 1)), (8, (.istore 0, 9, 2, 0, 0)), (9, (.iload 0, 10, 2, 0, 0)), (10, (.ifCond .eq 0, 13, 15, 0, 0)), (13, (.iload 0, 14, 2, 0, 0)), (14, (.ireturn, 15, 0, 0, 0)), (15, (.iconst 0, 16, 0, 0, 1)), (16, (.istore 0, 17, 3, 0, 0)), (17, (.iload 0, 18, 3, 0, 0)), (18, (.iconst 0, 20, 0, 0, 9)), (20, (.if_icmp .ge 0, 23, 54, 0, 0)), (23, (.aload 0, 24, 0, 0, 0)), (24, (.getfield 0, 27, 11, 8, 3)), (27, (.iload 0, 28, 3, 0, 0)), (28, (.iconst 0, 29, 0, 0, 1)), (29, (.invokevirtual 4, 32, 222, 3, 1)), (32, (.aload 0, 33, 0, 0, 0)), (33, (.getfield 0, 36, 11, 8, 3)), (36, (.iload 0, 37, 3, 0, 0)), (37, (.iconst 0, 38, 0, 0, 1)), (38, (.iadd, 39, 0, 0, 0)), (39, (.iconst 0, 40, 0, 0, 1)), (40, (.invokevirtual 4, 43, 222, 3, 1)), (43, (.if_icmp .ge 0, 46, 48, 0, 0)), (46, (.iload 0, 47, 3, 0, 0)), (47, (.ireturn, 48, 0, 0, 0)), (48, (.iinc 0 0, 51, 3, 0, 1)), (51, (.goto 0, 54, 17, 0, 0)), (54, (.iconst 0, 55, 0, 0, -1)), (55, (.ireturn, 56, 0, 0, 0))]
def cd_N_enough : List (Nat × ab_E) := [(0, (.aload 0, 1, 0, 0, 0)), (1, (.iload 0, 2, 1, 0, 0)), (2, (.iconst 0, 3, 0, 0, 1)), (3, (.iload 0, 4, 3, 0, 0)), (4, (.iconst 0, 5, 0, 0, 2)), (5, (.invokevirtual 11, 8, 49, 5, 1)), (8, (.istore 0, 10, 4, 0, 0)), (10, (.iload 0, 12, 4, 0, 0)), (12, (.ifCond .eq 0, 15, 18, 0, 0)), (15, (.iload 0, 17, 4, 0, 0)), (17, (.ireturn, 18, 0, 0, 0)), (18, (.iconst 0, 19, 0, 0, 1)), (19, (.istore 0, 21, 5, 0, 0)), (21, (.iload 0, 23, 5, 0, 0)), (23, (.iconst 0, 25, 0, 0, 9)), (25, (.if_icmp .gt 0, 28, 51, 0, 0)), (28, (.aload 0, 29, 0, 0, 0)), (29, (.getfield 0, 32, 11, 8, 3)), (32, (.iload 0, 34, 5, 0, 0)), (34, (.iload 0, 35, 3, 0, 0)), (35, (.invokevirtual 4, 38, 222, 3, 1)), (38, (.iload 0, 39, 2, 0, 0)), (39, (.if_icmp .gt 0, 42, 45, 0, 0)), (42, (.iload 0, 44, 5, 0, 0)), (44, (.ireturn, 45, 0, 0, 0)), (45, (.iinc 0 0, 48, 5, 0, 1)), (48, (.goto 0, 51, 21, 0, 0)), (51, (.iconst 0, 52, 0, 0, -1)), (52, (.ireturn, 53, 0, 0, 0))]
def cd_N_farBack : List (Nat × ab_E) := [(0, (.aload 0, 1, 0, 0, 0)), (1, (.iload 0, 2, 1, 0, 0)), (2, (.invokevirtual 11, 5, 48, 2, 1)), (5, (.istore 0, 6, 3, 0, 0)), (6, (.iload 0, 7, 3, 0, 0)), (7, (.ifCond .eq 0, 10, 12, 0, 0)), (10, (.iload 0, 11, 3, 0, 0)), (11, (.ireturn, 12, 0, 0, 0)), (12, (.iload 0, 13, 2, 0, 0)), (13, (.ifCond .lt 0, 16, 29, 0, 0)), (16, (.iload 0, 17, 2, 0, 0)), (17, (.aload 0, 18, 0, 0, 0)), (18, (.getfield 0, 21, 11, 6, 3)), (21, (.iload 0, 22, 1, 0, 0)), (22, (.aaload, 23, 0, 0, 0)), (23, (.getfield 0, 26, 8, 1, 0)), (26, (.if_icmp .lt 0, 29, 32, 0, 0)), (29, (.iconst 0, 31, 0, 0, -7)), (31, (.ireturn, 32, 0, 0, 0)), (32, (.aload 0, 33, 0, 0, 0)), (33, (.getfield 0, 36, 11, 8, 3)), (36, (.aload 0, 37, 0, 0, 0)), (37, (.getfield 0, 40, 11, 6, 3)), (40, (.iload 0, 41, 1, 0, 0)), (41, (.aaload, 42, 0, 0, 0)), (42, (.aload 0, 43, 0, 0, 0)), (43, (.getfield 0, 46, 11, 2, 3)), (46, (.invokevirtual 4, 49, 220, 3, 1)), (49, (.ifCond .eq 0, 52, 63, 0, 0)), (52, (.aload 0, 53, 0, 0, 0)), (53, (.getfield 0, 56, 11, 8, 3)), (56, (.iload 0, 57, 2, 0, 0)), (57, (.invokevirtual 4, 60, 226, 2, 1)), (60, (.goto 0, 63, 65, 0, 0)), (63, (.iconst 0, 65, 0, 0, -3)), (65, (.ireturn, 66, 0, 0, 0))]
def cd_N_through : List (Nat × ab_E) := [(0, (.aload 0, 1, 0, 0, 0)), (1, (.getfield 0, 4, 11, 2, 3)), (4, (.iload 0, 5, 3, 0, 0)), (5, (.i2l, 6, 0, 0, 0)), (6, (.invokevirtual 5, 9, 236, 2, 1)), (9, (.ifCond .ne 0, 12, 15, 0, 0)), (12, (.iconst 0, 14, 0, 0, -2)), (14, (.ireturn, 15, 0, 0, 0)), (15, (.aload 0, 16, 0, 0, 0)), (16, (.iload 0, 17, 1, 0, 0)), (17, (.iload 0, 18, 2, 0, 0)), (18, (.iconst 0, 19, 0, 0, 0)), (19, (.iconst 0, 20, 0, 0, 0)), (20, (.invokevirtual 11, 23, 49, 5, 1)), (23, (.istore 0, 25, 4, 0, 0)), (25, (.iload 0, 27, 4, 0, 0)), (27, (.ifCond .eq 0, 30, 35, 0, 0)), (30, (.iload 0, 32, 4, 0, 0)), (32, (.goto 0, 35, 48, 0, 0)), (35, (.aload 0, 36, 0, 0, 0)), (36, (.getfield 0, 39, 11, 8, 3)), (39, (.aload 0, 40, 0, 0, 0)), (40, (.getfield 0, 43, 11, 2, 3)), (43, (.iload 0, 44, 2, 0, 0)), (44, (.iload 0, 45, 3, 0, 0)), (45, (.invokevirtual 4, 48, 227, 4, 1)), (48, (.ireturn, 49, 0, 0, 0))]
def cd_N_sizeFor : List (Nat × ab_E) := [(0, (.aload 0, 1, 0, 0, 0)), (1, (.getfield 0, 4, 11, 2, 3)), (4, (.iload 0, 5, 2, 0, 0)), (5, (.i2l, 6, 0, 0, 0)), (6, (.invokevirtual 5, 9, 236, 2, 1)), (9, (.ifCond .ne 0, 12, 15, 0, 0)), (12, (.iconst 0, 14, 0, 0, -2)), (14, (.ireturn, 15, 0, 0, 0)), (15, (.aload 0, 16, 0, 0, 0)), (16, (.iload 0, 17, 1, 0, 0)), (17, (.iconst 0, 18, 0, 0, 1)), (18, (.iconst 0, 19, 0, 0, 0)), (19, (.iconst 0, 20, 0, 0, 0)), (20, (.invokevirtual 11, 23, 49, 5, 1)), (23, (.istore 0, 24, 3, 0, 0)), (24, (.iload 0, 25, 3, 0, 0)), (25, (.ifCond .eq 0, 28, 30, 0, 0)), (28, (.iload 0, 29, 3, 0, 0)), (29, (.ireturn, 30, 0, 0, 0)), (30, (.aload 0, 31, 0, 0, 0)), (31, (.getfield 0, 34, 11, 8, 3)), (34, (.invokevirtual 4, 37, 221, 1, 1)), (37, (.istore 0, 39, 4, 0, 0)), (39, (.iconst 0, 40, 0, 0, 1)), (40, (.istore 0, 42, 5, 0, 0)), (42, (.iload 0, 44, 5, 0, 0)), (44, (.iconst 0, 46, 0, 0, 9)), (46, (.if_icmp .gt 0, 49, 80, 0, 0)), (49, (.iload 0, 51, 4, 0, 0)), (51, (.aload 0, 52, 0, 0, 0)), (52, (.getfield 0, 55, 11, 8, 3)), (55, (.aload 0, 56, 0, 0, 0)), (56, (.getfield 0, 59, 11, 2, 3)), (59, (.iload 0, 61, 5, 0, 0)), (61, (.iload 0, 62, 2, 0, 0)), (62, (.invokevirtual 4, 65, 227, 4, 1)), (65, (.iconst 0, 66, 0, 0, -1)), (66, (.ixor, 67, 0, 0, 0)), (67, (.iand, 68, 0, 0, 0)), (68, (.ifCond .ne 0, 71, 74, 0, 0)), (71, (.iload 0, 73, 5, 0, 0)), (73, (.ireturn, 74, 0, 0, 0)), (74, (.iinc 0 0, 77, 5, 0, 1)), (77, (.goto 0, 80, 42, 0, 0)), (80, (.iconst 0, 81, 0, 0, -1)), (81, (.ireturn, 82, 0, 0, 0))]
def cd_N_told : List (Nat × ab_E) := [(0, (.aload 0, 1, 0, 0, 0)), (1, (.getfield 0, 4, 11, 2, 3)), (4, (.iload 0, 5, 3, 0, 0)), (5, (.i2l, 6, 0, 0, 0)), (6, (.invokevirtual 5, 9, 236, 2, 1)), (9, (.ifCond .eq 0, 12, 22, 0, 0)), (12, (.iload 0, 14, 4, 0, 0)), (14, (.iconst 0, 16, 0, 0, 6)), (16, (.invokestatic 0, 19, 52, 2, 1)), (19, (.ifCond .ne 0, 22, 25, 0, 0)), (22, (.iconst 0, 24, 0, 0, -2)), (24, (.ireturn, 25, 0, 0, 0)), (25, (.aload 0, 26, 0, 0, 0)), (26, (.getfield 0, 29, 11, 2, 3)), (29, (.iload 0, 30, 1, 0, 0)), (30, (.invokevirtual 5, 33, 237, 2, 1)), (33, (.ifCond .eq 0, 36, 52, 0, 0)), (36, (.iload 0, 37, 1, 0, 0)), (37, (.invokestatic 0, 40, 291, 1, 1)), (40, (.iconst 0, 42, 0, 0, 6)), (42, (.if_icmp .gt 0, 45, 52, 0, 0)), (45, (.iload 0, 46, 2, 0, 0)), (46, (.invokestatic 0, 49, 51, 1, 1)), (49, (.ifCond .ne 0, 52, 55, 0, 0)), (52, (.iconst 0, 54, 0, 0, -3)), (54, (.ireturn, 55, 0, 0, 0)), (55, (.aload 0, 56, 0, 0, 0)), (56, (.getfield 0, 59, 11, 8, 3)), (59, (.aload 0, 60, 0, 0, 0)), (60, (.getfield 0, 63, 11, 2, 3)), (63, (.iload 0, 64, 1, 0, 0)), (64, (.iload 0, 65, 2, 0, 0)), (65, (.iload 0, 66, 3, 0, 0)), (66, (.invokevirtual 4, 69, 228, 5, 0)), (69, (.aload 0, 70, 0, 0, 0)), (70, (.getfield 0, 73, 11, 8, 3)), (73, (.iload 0, 75, 4, 0, 0)), (75, (.invokevirtual 4, 78, 231, 2, 1)), (78, (.ireturn, 79, 0, 0, 0))]
def cd_N_back : List (Nat × ab_E) := [(0, (.aload 0, 1, 0, 0, 0)), (1, (.getfield 0, 4, 11, 2, 3)), (4, (.iload 0, 5, 1, 0, 0)), (5, (.invokevirtual 5, 8, 237, 2, 1)), (8, (.ifCond .eq 0, 11, 22, 0, 0)), (11, (.aload 0, 12, 0, 0, 0)), (12, (.getfield 0, 15, 11, 2, 3)), (15, (.iload 0, 16, 1, 0, 0)), (16, (.invokevirtual 5, 19, 244, 2, 1)), (19, (.goto 0, 22, 24, 0, 0)), (22, (.iconst 0, 24, 0, 0, -3)), (24, (.ireturn, 25, 0, 0, 0))]
def cd_N_seeds : List (Nat × ab_E) := [(0, (.aload 0, 1, 0, 0, 0)), (1, (.getfield 0, 4, 11, 2, 3)), (4, (.iload 0, 5, 1, 0, 0)), (5, (.invokevirtual 5, 8, 237, 2, 1)), (8, (.ifCond .eq 0, 11, 26, 0, 0)), (11, (.aload 0, 12, 0, 0, 0)), (12, (.getfield 0, 15, 11, 9, 3)), (15, (.aload 0, 16, 0, 0, 0)), (16, (.getfield 0, 19, 11, 2, 3)), (19, (.iload 0, 20, 1, 0, 0)), (20, (.invokevirtual 9, 23, 284, 3, 1)), (23, (.goto 0, 26, 28, 0, 0)), (26, (.iconst 0, 28, 0, 0, -3)), (28, (.ireturn, 29, 0, 0, 0))]
def cd_N_men : List (Nat × ab_E) := [(0, (.aload 0, 1, 0, 0, 0)), (1, (.iload 0, 2, 1, 0, 0)), (2, (.iload 0, 3, 2, 0, 0)), (3, (.iload 0, 4, 3, 0, 0)), (4, (.invokevirtual 11, 7, 50, 4, 1)), (7, (.istore 0, 9, 4, 0, 0)), (9, (.iload 0, 11, 4, 0, 0)), (11, (.ifCond .eq 0, 14, 19, 0, 0)), (14, (.iload 0, 16, 4, 0, 0)), (16, (.goto 0, 19, 33, 0, 0)), (19, (.aload 0, 20, 0, 0, 0)), (20, (.getfield 0, 23, 11, 10, 3)), (23, (.aload 0, 24, 0, 0, 0)), (24, (.getfield 0, 27, 11, 2, 3)), (27, (.iload 0, 28, 1, 0, 0)), (28, (.iload 0, 29, 2, 0, 0)), (29, (.iload 0, 30, 3, 0, 0)), (30, (.invokevirtual 1, 33, 175, 5, 1)), (33, (.ireturn, 34, 0, 0, 0))]
def cd_N_load : List (Nat × ab_E) := [(0, (.aload 0, 1, 0, 0, 0)), (1, (.iload 0, 2, 1, 0, 0)), (2, (.iload 0, 3, 2, 0, 0)), (3, (.iload 0, 4, 3, 0, 0)), (4, (.invokevirtual 11, 7, 50, 4, 1)), (7, (.istore 0, 9, 5, 0, 0)), (9, (.iload 0, 11, 5, 0, 0)), (11, (.ifCond .eq 0, 14, 17, 0, 0)), (14, (.iload 0, 16, 5, 0, 0)), (16, (.ireturn, 17, 0, 0, 0)), (17, (.aload 0, 18, 0, 0, 0)), (18, (.getfield 0, 21, 11, 10, 3)), (21, (.aload 0, 22, 0, 0, 0)), (22, (.getfield 0, 25, 11, 2, 3)), (25, (.iload 0, 26, 1, 0, 0)), (26, (.iload 0, 27, 2, 0, 0)), (27, (.iload 0, 28, 3, 0, 0)), (28, (.invokevirtual 1, 31, 175, 5, 1)), (31, (.istore 0, 33, 6, 0, 0)), (33, (.iload 0, 35, 4, 0, 0)), (35, (.ifCond .lt 0, 38, 45, 0, 0)), (38, (.iload 0, 40, 4, 0, 0)), (40, (.iload 0, 42, 6, 0, 0)), (42, (.if_icmp .lt 0, 45, 49, 0, 0)), (45, (.iconst 0, 46, 0, 0, -1)), (46, (.goto 0, 49, 60, 0, 0)), (49, (.aload 0, 50, 0, 0, 0)), (50, (.getfield 0, 53, 11, 10, 3)), (53, (.iload 0, 55, 4, 0, 0)), (55, (.iload 0, 57, 6, 0, 0)), (57, (.invokevirtual 1, 60, 176, 3, 1)), (60, (.ireturn, 61, 0, 0, 0))]
def cd_N_road : List (Nat × ab_E) := [(0, (.aload 0, 1, 0, 0, 0)), (1, (.getfield 0, 4, 11, 3, 3)), (4, (.iload 0, 5, 1, 0, 0)), (5, (.i2l, 6, 0, 0, 0)), (6, (.invokevirtual 2, 9, 186, 2, 1)), (9, (.ifCond .eq 0, 12, 32, 0, 0)), (12, (.aload 0, 13, 0, 0, 0)), (13, (.getfield 0, 16, 11, 2, 3)), (16, (.iload 0, 17, 2, 0, 0)), (17, (.i2l, 18, 0, 0, 0)), (18, (.invokevirtual 5, 21, 236, 2, 1)), (21, (.ifCond .eq 0, 24, 32, 0, 0)), (24, (.iload 0, 25, 3, 0, 0)), (25, (.iconst 0, 26, 0, 0, 3)), (26, (.invokestatic 0, 29, 52, 2, 1)), (29, (.ifCond .ne 0, 32, 35, 0, 0)), (32, (.iconst 0, 34, 0, 0, -2)), (34, (.ireturn, 35, 0, 0, 0)), (35, (.aload 0, 36, 0, 0, 0)), (36, (.getfield 0, 39, 11, 11, 3)), (39, (.aload 0, 40, 0, 0, 0)), (40, (.getfield 0, 43, 11, 2, 3)), (43, (.aload 0, 44, 0, 0, 0)), (44, (.getfield 0, 47, 11, 3, 3)), (47, (.getfield 0, 50, 2, 0, 3)), (50, (.iload 0, 51, 1, 0, 0)), (51, (.aaload, 52, 0, 0, 0)), (52, (.iload 0, 53, 2, 0, 0)), (53, (.invokevirtual 0, 56, 167, 4, 0)), (56, (.aload 0, 57, 0, 0, 0)), (57, (.getfield 0, 60, 11, 11, 3)), (60, (.iload 0, 61, 3, 0, 0)), (61, (.invokevirtual 0, 64, 173, 2, 1)), (64, (.ireturn, 65, 0, 0, 0))]
def cd_N_questions : List (Nat × ab_E) := [(0, (.aload 0, 1, 0, 0, 0)), (1, (.getfield 0, 4, 11, 3, 3)), (4, (.iload 0, 5, 1, 0, 0)), (5, (.i2l, 6, 0, 0, 0)), (6, (.iload 0, 7, 2, 0, 0)), (7, (.i2l, 8, 0, 0, 0)), (8, (.invokevirtual 2, 11, 187, 3, 1)), (11, (.ifCond .eq 0, 14, 23, 0, 0)), (14, (.iload 0, 16, 4, 0, 0)), (16, (.iconst 0, 17, 0, 0, 3)), (17, (.invokestatic 0, 20, 52, 2, 1)), (20, (.ifCond .ne 0, 23, 26, 0, 0)), (23, (.iconst 0, 25, 0, 0, -2)), (25, (.ireturn, 26, 0, 0, 0)), (26, (.iload 0, 27, 3, 0, 0)), (27, (.ifCond .lt 0, 30, 35, 0, 0)), (30, (.iload 0, 31, 3, 0, 0)), (31, (.iconst 0, 32, 0, 0, 3)), (32, (.if_icmp .le 0, 35, 38, 0, 0)), (35, (.iconst 0, 37, 0, 0, -3)), (37, (.ireturn, 38, 0, 0, 0)), (38, (.aload 0, 39, 0, 0, 0)), (39, (.getfield 0, 42, 11, 11, 3)), (42, (.aload 0, 43, 0, 0, 0)), (43, (.getfield 0, 46, 11, 2, 3)), (46, (.aload 0, 47, 0, 0, 0)), (47, (.getfield 0, 50, 11, 3, 3)), (50, (.getfield 0, 53, 2, 0, 3)), (53, (.iload 0, 54, 1, 0, 0)), (54, (.aaload, 55, 0, 0, 0)), (55, (.aload 0, 56, 0, 0, 0)), (56, (.getfield 0, 59, 11, 3, 3)), (59, (.getfield 0, 62, 2, 0, 3)), (62, (.iload 0, 63, 2, 0, 0)), (63, (.aaload, 64, 0, 0, 0)), (64, (.getfield 0, 67, 3, 3, 0)), (67, (.iload 0, 68, 3, 0, 0)), (68, (.invokevirtual 0, 71, 168, 5, 0)), (71, (.aload 0, 72, 0, 0, 0)), (72, (.getfield 0, 75, 11, 11, 3)), (75, (.iload 0, 77, 4, 0, 0)), (77, (.invokevirtual 0, 80, 173, 2, 1)), (80, (.ireturn, 81, 0, 0, 0))]
def cd_N_asked : List (Nat × ab_E) := [(0, (.aload 0, 1, 0, 0, 0)), (1, (.getfield 0, 4, 11, 2, 3)), (4, (.iload 0, 5, 1, 0, 0)), (5, (.invokevirtual 5, 8, 237, 2, 1)), (8, (.ifCond .eq 0, 11, 22, 0, 0)), (11, (.aload 0, 12, 0, 0, 0)), (12, (.getfield 0, 15, 11, 3, 3)), (15, (.iload 0, 16, 1, 0, 0)), (16, (.invokevirtual 2, 19, 202, 2, 1)), (19, (.goto 0, 22, 24, 0, 0)), (22, (.iconst 0, 24, 0, 0, -3)), (24, (.ireturn, 25, 0, 0, 0))]
def cd_N_broken : List (Nat × ab_E) := [(0, (.aload 0, 1, 0, 0, 0)), (1, (.getfield 0, 4, 11, 3, 3)), (4, (.iload 0, 5, 1, 0, 0)), (5, (.i2l, 6, 0, 0, 0)), (6, (.invokevirtual 2, 9, 186, 2, 1)), (9, (.ifCond .ne 0, 12, 15, 0, 0)), (12, (.iconst 0, 14, 0, 0, -2)), (14, (.ireturn, 15, 0, 0, 0)), (15, (.aload 0, 16, 0, 0, 0)), (16, (.getfield 0, 19, 11, 2, 3)), (19, (.iload 0, 20, 2, 0, 0)), (20, (.invokevirtual 5, 23, 237, 2, 1)), (23, (.ifCond .eq 0, 26, 39, 0, 0)), (26, (.iload 0, 27, 2, 0, 0)), (27, (.aload 0, 28, 0, 0, 0)), (28, (.getfield 0, 31, 11, 3, 3)), (31, (.iload 0, 32, 1, 0, 0)), (32, (.invokevirtual 2, 35, 200, 2, 1)), (35, (.iand, 36, 0, 0, 0)), (36, (.goto 0, 39, 41, 0, 0)), (39, (.iconst 0, 41, 0, 0, -3)), (41, (.ireturn, 42, 0, 0, 0))]
def cd_N_piece : List (Nat × ab_E) := [(0, (.aload 0, 1, 0, 0, 0)), (1, (.iload 0, 2, 1, 0, 0)), (2, (.invokevirtual 11, 5, 48, 2, 1)), (5, (.istore 0, 6, 2, 0, 0)), (6, (.iload 0, 7, 2, 0, 0)), (7, (.ifCond .eq 0, 10, 12, 0, 0)), (10, (.iload 0, 11, 2, 0, 0)), (11, (.ireturn, 12, 0, 0, 0)), (12, (.aload 0, 13, 0, 0, 0)), (13, (.getfield 0, 16, 11, 4, 3)), (16, (.getfield 0, 19, 6, 0, 0)), (19, (.iconst 0, 21, 0, 0, 6)), (21, (.if_icmp .lt 0, 24, 27, 0, 0)), (24, (.iconst 0, 26, 0, 0, -4)), (26, (.ireturn, 27, 0, 0, 0)), (27, (.aload 0, 28, 0, 0, 0)), (28, (.getfield 0, 31, 11, 6, 3)), (31, (.iload 0, 32, 1, 0, 0)), (32, (.aaload, 33, 0, 0, 0)), (33, (.getfield 0, 36, 8, 1, 0)), (36, (.istore 0, 37, 3, 0, 0)), (37, (.iload 0, 38, 3, 0, 0)), (38, (.iconst 0, 39, 0, 0, 1)), (39, (.if_icmp .lt 0, 42, 68, 0, 0)), (42, (.iload 0, 43, 3, 0, 0)), (43, (.iconst 0, 45, 0, 0, 8)), (45, (.if_icmp .gt 0, 48, 68, 0, 0)), (48, (.aload 0, 49, 0, 0, 0)), (49, (.getfield 0, 52, 11, 8, 3)), (52, (.aload 0, 53, 0, 0, 0)), (53, (.getfield 0, 56, 11, 6, 3)), (56, (.iload 0, 57, 1, 0, 0)), (57, (.aaload, 58, 0, 0, 0)), (58, (.aload 0, 59, 0, 0, 0)), (59, (.getfield 0, 62, 11, 2, 3)), (62, (.invokevirtual 4, 65, 220, 3, 1)), (65, (.ifCond .ne 0, 68, 71, 0, 0)), (68, (.iconst 0, 70, 0, 0, -3)), (70, (.ireturn, 71, 0, 0, 0)), (71, (.aload 0, 72, 0, 0, 0)), (72, (.getfield 0, 75, 11, 4, 3)), (75, (.aload 0, 76, 0, 0, 0)), (76, (.getfield 0, 79, 11, 8, 3)), (79, (.getfield 0, 82, 4, 0, 3)), (82, (.iload 0, 83, 3, 0, 0)), (83, (.invokevirtual 6, 86, 247, 3, 1)), (86, (.ireturn, 87, 0, 0, 0))]
def cd_N_joined : List (Nat × ab_E) := [(0, (.iload 0, 1, 1, 0, 0)), (1, (.iconst 0, 2, 0, 0, -1)), (2, (.if_icmp .ge 0, 5, 8, 0, 0)), (5, (.iconst 0, 7, 0, 0, -3)), (7, (.ireturn, 8, 0, 0, 0)), (8, (.aload 0, 9, 0, 0, 0)), (9, (.getfield 0, 12, 11, 4, 3)), (12, (.invokevirtual 6, 15, 253, 1, 0)), (15, (.iload 0, 16, 1, 0, 0)), (16, (.iconst 0, 17, 0, 0, -1)), (17, (.if_icmp .ne 0, 20, 28, 0, 0)), (20, (.aload 0, 21, 0, 0, 0)), (21, (.getfield 0, 24, 11, 4, 3)), (24, (.getfield 0, 27, 6, 6, 0)), (27, (.ireturn, 28, 0, 0, 0)), (28, (.iload 0, 29, 1, 0, 0)), (29, (.aload 0, 30, 0, 0, 0)), (30, (.getfield 0, 33, 11, 4, 3)), (33, (.getfield 0, 36, 6, 6, 0)), (36, (.if_icmp .ge 0, 39, 51, 0, 0)), (39, (.aload 0, 40, 0, 0, 0)), (40, (.getfield 0, 43, 11, 4, 3)), (43, (.getfield 0, 46, 6, 5, 3)), (46, (.iload 0, 47, 1, 0, 0)), (47, (.iaload, 48, 0, 0, 0)), (48, (.goto 0, 51, 52, 0, 0)), (51, (.iconst 0, 52, 0, 0, -1)), (52, (.ireturn, 53, 0, 0, 0))]
def cd_N_unfit : List (Nat × ab_E) := [(0, (.iconst 0, 1, 0, 0, 0)), (1, (.istore 0, 2, 1, 0, 0)), (2, (.iload 0, 3, 1, 0, 0)), (3, (.aload 0, 4, 0, 0, 0)), (4, (.getfield 0, 7, 11, 4, 3)), (7, (.getfield 0, 10, 6, 0, 0)), (10, (.if_icmp .ge 0, 13, 59, 0, 0)), (13, (.iload 0, 14, 1, 0, 0)), (14, (.iconst 0, 15, 0, 0, 1)), (15, (.iadd, 16, 0, 0, 0)), (16, (.istore 0, 17, 2, 0, 0)), (17, (.iload 0, 18, 2, 0, 0)), (18, (.aload 0, 19, 0, 0, 0)), (19, (.getfield 0, 22, 11, 4, 3)), (22, (.getfield 0, 25, 6, 0, 0)), (25, (.if_icmp .ge 0, 28, 53, 0, 0)), (28, (.aload 0, 29, 0, 0, 0)), (29, (.getfield 0, 32, 11, 4, 3)), (32, (.iload 0, 33, 1, 0, 0)), (33, (.iload 0, 34, 2, 0, 0)), (34, (.invokevirtual 6, 37, 250, 3, 1)), (37, (.ifCond .eq 0, 40, 47, 0, 0)), (40, (.iconst 0, 42, 0, 0, 10)), (42, (.iload 0, 43, 1, 0, 0)), (43, (.imul, 44, 0, 0, 0)), (44, (.iload 0, 45, 2, 0, 0)), (45, (.iadd, 46, 0, 0, 0)), (46, (.ireturn, 47, 0, 0, 0)), (47, (.iinc 0 0, 50, 2, 0, 1)), (50, (.goto 0, 53, 17, 0, 0)), (53, (.iinc 0 0, 56, 1, 0, 1)), (56, (.goto 0, 59, 2, 0, 0)), (59, (.iconst 0, 60, 0, 0, -1)), (60, (.ireturn, 61, 0, 0, 0))]
def cd_N_gaps : List (Nat × ab_E) := [(0, (.aload 0, 1, 0, 0, 0)), (1, (.getfield 0, 4, 11, 2, 3)), (4, (.invokevirtual 5, 7, 238, 1, 1)), (7, (.aload 0, 8, 0, 0, 0)), (8, (.getfield 0, 11, 11, 4, 3)), (11, (.invokevirtual 6, 14, 249, 1, 1)), (14, (.iconst 0, 15, 0, 0, -1)), (15, (.ixor, 16, 0, 0, 0)), (16, (.iand, 17, 0, 0, 0)), (17, (.ireturn, 18, 0, 0, 0))]
def cd_N_numbers : List (Nat × ab_E) := [(0, (.iload 0, 1, 1, 0, 0)), (1, (.ifCond .lt 0, 4, 22, 0, 0)), (4, (.iload 0, 5, 1, 0, 0)), (5, (.aload 0, 6, 0, 0, 0)), (6, (.getfield 0, 9, 11, 6, 3)), (9, (.arraylength, 10, 0, 0, 0)), (10, (.if_icmp .ge 0, 13, 22, 0, 0)), (13, (.iload 0, 14, 2, 0, 0)), (14, (.ifCond .lt 0, 17, 22, 0, 0)), (17, (.iload 0, 18, 2, 0, 0)), (18, (.iconst 0, 19, 0, 0, 3)), (19, (.if_icmp .le 0, 22, 25, 0, 0)), (22, (.iconst 0, 24, 0, 0, -2)), (24, (.ireturn, 25, 0, 0, 0)), (25, (.iload 0, 26, 3, 0, 0)), (26, (.ifCond .lt 0, 29, 35, 0, 0)), (29, (.iload 0, 30, 3, 0, 0)), (30, (.iconst 0, 32, 0, 0, 40)), (32, (.if_icmp .le 0, 35, 38, 0, 0)), (35, (.iconst 0, 37, 0, 0, -3)), (37, (.ireturn, 38, 0, 0, 0)), (38, (.aload 0, 39, 0, 0, 0)), (39, (.getfield 0, 42, 11, 6, 3)), (42, (.iload 0, 43, 1, 0, 0)), (43, (.aaload, 44, 0, 0, 0)), (44, (.iload 0, 45, 2, 0, 0)), (45, (.iload 0, 46, 3, 0, 0)), (46, (.invokevirtual 8, 49, 280, 3, 0)), (49, (.iconst 0, 50, 0, 0, 0)), (50, (.ireturn, 51, 0, 0, 0))]
def cd_N_write : List (Nat × ab_E) := [(0, (.aload 0, 1, 0, 0, 0)), (1, (.iload 0, 2, 1, 0, 0)), (2, (.invokevirtual 11, 5, 48, 2, 1)), (5, (.istore 0, 7, 5, 0, 0)), (7, (.iload 0, 9, 5, 0, 0)), (9, (.ifCond .eq 0, 12, 16, 0, 0)), (12, (.iload 0, 14, 5, 0, 0)), (14, (.i2l, 15, 0, 0, 0)), (15, (.lreturn, 16, 0, 0, 0)), (16, (.iload 0, 17, 2, 0, 0)), (17, (.ifCond .lt 0, 20, 33, 0, 0)), (20, (.iload 0, 21, 2, 0, 0)), (21, (.aload 0, 22, 0, 0, 0)), (22, (.getfield 0, 25, 11, 6, 3)), (25, (.iload 0, 26, 1, 0, 0)), (26, (.aaload, 27, 0, 0, 0)), (27, (.getfield 0, 30, 8, 1, 0)), (30, (.if_icmp .lt 0, 33, 37, 0, 0)), (33, (.ldc2_w 0, 36, 0, 0, -7)), (36, (.lreturn, 37, 0, 0, 0)), (37, (.aload 0, 38, 0, 0, 0)), (38, (.getfield 0, 41, 11, 6, 3)), (41, (.iload 0, 42, 1, 0, 0)), (42, (.aaload, 43, 0, 0, 0)), (43, (.iload 0, 44, 2, 0, 0)), (44, (.lload 0, 45, 3, 0, 0)), (45, (.invokevirtual 8, 48, 281, 3, 2)), (48, (.lreturn, 49, 0, 0, 0))]
def cd_N_copy : List (Nat × ab_E) := [(0, (.aload 0, 1, 0, 0, 0)), (1, (.getfield 0, 4, 11, 3, 3)), (4, (.iload 0, 5, 1, 0, 0)), (5, (.i2l, 6, 0, 0, 0)), (6, (.invokevirtual 2, 9, 186, 2, 1)), (9, (.ifCond .ne 0, 12, 15, 0, 0)), (12, (.iconst 0, 14, 0, 0, -2)), (14, (.ireturn, 15, 0, 0, 0)), (15, (.aload 0, 16, 0, 0, 0)), (16, (.iload 0, 17, 2, 0, 0)), (17, (.invokevirtual 11, 20, 48, 2, 1)), (20, (.istore 0, 21, 3, 0, 0)), (21, (.iload 0, 22, 3, 0, 0)), (22, (.ifCond .eq 0, 25, 27, 0, 0)), (25, (.iload 0, 26, 3, 0, 0)), (26, (.ireturn, 27, 0, 0, 0)), (27, (.aload 0, 28, 0, 0, 0)), (28, (.getfield 0, 31, 11, 3, 3)), (31, (.getfield 0, 34, 2, 0, 3)), (34, (.iload 0, 35, 1, 0, 0)), (35, (.aaload, 36, 0, 0, 0)), (36, (.astore 0, 38, 4, 0, 0)), (38, (.aload 0, 40, 4, 0, 0)), (40, (.getfield 0, 43, 3, 2, 0)), (43, (.aload 0, 44, 0, 0, 0)), (44, (.getfield 0, 47, 11, 6, 3)), (47, (.iload 0, 48, 2, 0, 0)), (48, (.aaload, 49, 0, 0, 0)), (49, (.getfield 0, 52, 8, 1, 0)), (52, (.if_icmp .le 0, 55, 58, 0, 0)), (55, (.iconst 0, 57, 0, 0, -7)), (57, (.ireturn, 58, 0, 0, 0)), (58, (.iconst 0, 59, 0, 0, 0)), (59, (.istore 0, 61, 5, 0, 0)), (61, (.iload 0, 63, 5, 0, 0)), (63, (.aload 0, 65, 4, 0, 0)), (65, (.getfield 0, 68, 3, 2, 0)), (68, (.if_icmp .ge 0, 71, 97, 0, 0)), (71, (.aload 0, 72, 0, 0, 0)), (72, (.getfield 0, 75, 11, 6, 3)), (75, (.iload 0, 76, 2, 0, 0)), (76, (.aaload, 77, 0, 0, 0)), (77, (.iload 0, 79, 5, 0, 0)), (79, (.aload 0, 81, 4, 0, 0)), (81, (.iload 0, 83, 5, 0, 0)), (83, (.invokevirtual 3, 86, 209, 2, 1)), (86, (.i2l, 87, 0, 0, 0)), (87, (.invokevirtual 8, 90, 281, 3, 2)), (90, (.pop2, 91, 0, 0, 0)), (91, (.iinc 0 0, 94, 5, 0, 1)), (94, (.goto 0, 97, 61, 0, 0)), (97, (.aload 0, 99, 4, 0, 0)), (99, (.getfield 0, 102, 3, 2, 0)), (102, (.ireturn, 103, 0, 0, 0))]
def cd_N_image : List (Nat × ab_E) := [(0, (.iload 0, 1, 1, 0, 0)), (1, (.ifCond .lt 0, 4, 13, 0, 0)), (4, (.iload 0, 5, 1, 0, 0)), (5, (.aload 0, 6, 0, 0, 0)), (6, (.getfield 0, 9, 11, 5, 3)), (9, (.arraylength, 10, 0, 0, 0)), (10, (.if_icmp .lt 0, 13, 16, 0, 0)), (13, (.iconst 0, 15, 0, 0, -2)), (15, (.ireturn, 16, 0, 0, 0)), (16, (.aload 0, 17, 0, 0, 0)), (17, (.getfield 0, 20, 11, 5, 3)), (20, (.iload 0, 21, 1, 0, 0)), (21, (.aaload, 22, 0, 0, 0)), (22, (.aload 0, 23, 0, 0, 0)), (23, (.getfield 0, 26, 11, 1, 3)), (26, (.invokevirtual 10, 29, 289, 2, 0)), (29, (.aload 0, 30, 0, 0, 0)), (30, (.getfield 0, 33, 11, 5, 3)), (33, (.iload 0, 34, 1, 0, 0)), (34, (.aaload, 35, 0, 0, 0)), (35, (.iconst 0, 36, 0, 0, 1)), (36, (.putfield 0, 39, 10, 3, 1)), (39, (.iconst 0, 40, 0, 0, 0)), (40, (.ireturn, 41, 0, 0, 0))]
def cd_N_restore : List (Nat × ab_E) := [(0, (.iload 0, 1, 1, 0, 0)), (1, (.ifCond .lt 0, 4, 13, 0, 0)), (4, (.iload 0, 5, 1, 0, 0)), (5, (.aload 0, 6, 0, 0, 0)), (6, (.getfield 0, 9, 11, 5, 3)), (9, (.arraylength, 10, 0, 0, 0)), (10, (.if_icmp .lt 0, 13, 16, 0, 0)), (13, (.iconst 0, 15, 0, 0, -2)), (15, (.ireturn, 16, 0, 0, 0)), (16, (.aload 0, 17, 0, 0, 0)), (17, (.getfield 0, 20, 11, 5, 3)), (20, (.iload 0, 21, 1, 0, 0)), (21, (.aaload, 22, 0, 0, 0)), (22, (.getfield 0, 25, 10, 3, 1)), (25, (.ifCond .ne 0, 28, 31, 0, 0)), (28, (.iconst 0, 30, 0, 0, -5)), (30, (.ireturn, 31, 0, 0, 0)), (31, (.aload 0, 32, 0, 0, 0)), (32, (.getfield 0, 35, 11, 1, 3)), (35, (.aload 0, 36, 0, 0, 0)), (36, (.getfield 0, 39, 11, 5, 3)), (39, (.iload 0, 40, 1, 0, 0)), (40, (.aaload, 41, 0, 0, 0)), (41, (.invokevirtual 10, 44, 289, 2, 0)), (44, (.iconst 0, 45, 0, 0, 0)), (45, (.ireturn, 46, 0, 0, 0))]
def cd_N_count : List (Nat × ab_E) := [(0, (.iload 0, 1, 1, 0, 0)), (1, (.lookupswitch 0 #[(0, 44), (1, 52), (2, 60), (3, 68), (4, 76), (5, 84), (6, 92)], 44, 100, 0, 0)), (44, (.aload 0, 45, 0, 0, 0)), (45, (.getfield 0, 48, 11, 2, 3)), (48, (.getfield 0, 51, 5, 0, 0)), (51, (.ireturn, 52, 0, 0, 0)), (52, (.aload 0, 53, 0, 0, 0)), (53, (.getfield 0, 56, 11, 2, 3)), (56, (.getfield 0, 59, 5, 1, 0)), (59, (.ireturn, 60, 0, 0, 0)), (60, (.aload 0, 61, 0, 0, 0)), (61, (.getfield 0, 64, 11, 2, 3)), (64, (.getfield 0, 67, 5, 3, 0)), (67, (.ireturn, 68, 0, 0, 0)), (68, (.aload 0, 69, 0, 0, 0)), (69, (.getfield 0, 72, 11, 3, 3)), (72, (.getfield 0, 75, 2, 1, 0)), (75, (.ireturn, 76, 0, 0, 0)), (76, (.aload 0, 77, 0, 0, 0)), (77, (.getfield 0, 80, 11, 4, 3)), (80, (.getfield 0, 83, 6, 0, 0)), (83, (.ireturn, 84, 0, 0, 0)), (84, (.aload 0, 85, 0, 0, 0)), (85, (.getfield 0, 88, 11, 2, 3)), (88, (.getfield 0, 91, 5, 2, 0)), (91, (.ireturn, 92, 0, 0, 0)), (92, (.aload 0, 93, 0, 0, 0)), (93, (.getfield 0, 96, 11, 0, 3)), (96, (.getfield 0, 99, 7, 3, 0)), (99, (.ireturn, 100, 0, 0, 0)), (100, (.iconst 0, 101, 0, 0, -1)), (101, (.ireturn, 102, 0, 0, 0))]
def cd_N_refusalOfRow : List (Nat × ab_E) := [(0, (.iload 0, 1, 1, 0, 0)), (1, (.ifCond .lt 0, 4, 13, 0, 0)), (4, (.iload 0, 5, 1, 0, 0)), (5, (.aload 0, 6, 0, 0, 0)), (6, (.getfield 0, 9, 11, 6, 3)), (9, (.arraylength, 10, 0, 0, 0)), (10, (.if_icmp .lt 0, 13, 16, 0, 0)), (13, (.iconst 0, 15, 0, 0, -2)), (15, (.ireturn, 16, 0, 0, 0)), (16, (.aload 0, 17, 0, 0, 0)), (17, (.getfield 0, 20, 11, 6, 3)), (20, (.iload 0, 21, 1, 0, 0)), (21, (.aaload, 22, 0, 0, 0)), (22, (.getfield 0, 25, 8, 2, 1)), (25, (.ifCond .eq 0, 28, 32, 0, 0)), (28, (.iconst 0, 29, 0, 0, 0)), (29, (.goto 0, 32, 34, 0, 0)), (32, (.iconst 0, 34, 0, 0, -6)), (34, (.ireturn, 35, 0, 0, 0))]
def cd_N_refusalOfHearings : List (Nat × ab_E) := [(0, (.iload 0, 1, 3, 0, 0)), (1, (.ifCond .lt 0, 4, 10, 0, 0)), (4, (.iload 0, 5, 3, 0, 0)), (5, (.iload 0, 7, 4, 0, 0)), (7, (.if_icmp .le 0, 10, 13, 0, 0)), (10, (.iconst 0, 12, 0, 0, -2)), (12, (.ireturn, 13, 0, 0, 0)), (13, (.aload 0, 14, 0, 0, 0)), (14, (.iload 0, 15, 1, 0, 0)), (15, (.invokevirtual 11, 18, 48, 2, 1)), (18, (.istore 0, 20, 5, 0, 0)), (20, (.iload 0, 22, 5, 0, 0)), (22, (.ifCond .eq 0, 25, 28, 0, 0)), (25, (.iload 0, 27, 5, 0, 0)), (27, (.ireturn, 28, 0, 0, 0)), (28, (.iload 0, 29, 2, 0, 0)), (29, (.invokestatic 0, 32, 51, 1, 1)), (32, (.ifCond .eq 0, 35, 59, 0, 0)), (35, (.aload 0, 36, 0, 0, 0)), (36, (.getfield 0, 39, 11, 8, 3)), (39, (.aload 0, 40, 0, 0, 0)), (40, (.getfield 0, 43, 11, 6, 3)), (43, (.iload 0, 44, 1, 0, 0)), (44, (.aaload, 45, 0, 0, 0)), (45, (.aload 0, 46, 0, 0, 0)), (46, (.getfield 0, 49, 11, 2, 3)), (49, (.invokevirtual 4, 52, 220, 3, 1)), (52, (.ifCond .eq 0, 55, 59, 0, 0)), (55, (.iconst 0, 56, 0, 0, 0)), (56, (.goto 0, 59, 61, 0, 0)), (59, (.iconst 0, 61, 0, 0, -3)), (61, (.ireturn, 62, 0, 0, 0))]
def cd_N_refusalOfMen : List (Nat × ab_E) := [(0, (.aload 0, 1, 0, 0, 0)), (1, (.getfield 0, 4, 11, 2, 3)), (4, (.iload 0, 5, 1, 0, 0)), (5, (.invokevirtual 5, 8, 237, 2, 1)), (8, (.ifCond .eq 0, 11, 18, 0, 0)), (11, (.iload 0, 12, 2, 0, 0)), (12, (.invokestatic 0, 15, 51, 1, 1)), (15, (.ifCond .ne 0, 18, 21, 0, 0)), (18, (.iconst 0, 20, 0, 0, -3)), (20, (.ireturn, 21, 0, 0, 0)), (21, (.iload 0, 22, 3, 0, 0)), (22, (.ifCond .eq 0, 25, 39, 0, 0)), (25, (.iload 0, 26, 1, 0, 0)), (26, (.invokestatic 0, 29, 291, 1, 1)), (29, (.iconst 0, 31, 0, 0, 8)), (31, (.if_icmp .le 0, 34, 39, 0, 0)), (34, (.iconst 0, 36, 0, 0, -4)), (36, (.goto 0, 39, 40, 0, 0)), (39, (.iconst 0, 40, 0, 0, 0)), (40, (.ireturn, 41, 0, 0, 0))]
def cd_N_isSize : List (Nat × ab_E) := [(0, (.iload 0, 1, 0, 0, 0)), (1, (.iconst 0, 2, 0, 0, 1)), (2, (.if_icmp .lt 0, 5, 15, 0, 0)), (5, (.iload 0, 6, 0, 0, 0)), (6, (.iconst 0, 8, 0, 0, 9)), (8, (.if_icmp .gt 0, 11, 15, 0, 0)), (11, (.iconst 0, 12, 0, 0, 1)), (12, (.goto 0, 15, 16, 0, 0)), (15, (.iconst 0, 16, 0, 0, 0)), (16, (.ireturn, 17, 1, 0, 0))]
def cd_N_isAnswerOrPlace : List (Nat × ab_E) := [(0, (.iload 0, 1, 0, 0, 0)), (1, (.ifCond .eq 0, 4, 23, 0, 0)), (4, (.iload 0, 5, 0, 0, 0)), (5, (.iconst 0, 6, 0, 0, 1)), (6, (.if_icmp .eq 0, 9, 23, 0, 0)), (9, (.iload 0, 10, 0, 0, 0)), (10, (.iconst 0, 12, 0, 0, 10)), (12, (.if_icmp .lt 0, 15, 27, 0, 0)), (15, (.iload 0, 16, 0, 0, 0)), (16, (.iconst 0, 18, 0, 0, 10)), (18, (.iload 0, 19, 1, 0, 0)), (19, (.iadd, 20, 0, 0, 0)), (20, (.if_icmp .ge 0, 23, 27, 0, 0)), (23, (.iconst 0, 24, 0, 0, 1)), (24, (.goto 0, 27, 28, 0, 0)), (27, (.iconst 0, 28, 0, 0, 0)), (28, (.ireturn, 29, 1, 0, 0))]
def cd_M_within : List (Nat × ab_E) := [(0, (.lload 0, 1, 0, 0, 0)), (1, (.lload 0, 2, 2, 0, 0)), (2, (.lcmp, 3, 0, 0, 0)), (3, (.ifCond .lt 0, 6, 17, 0, 0)), (6, (.lload 0, 7, 0, 0, 0)), (7, (.lload 0, 9, 4, 0, 0)), (9, (.lcmp, 10, 0, 0, 0)), (10, (.ifCond .gt 0, 13, 17, 0, 0)), (13, (.iconst 0, 14, 0, 0, 1)), (14, (.goto 0, 17, 18, 0, 0)), (17, (.iconst 0, 18, 0, 0, 0)), (18, (.ireturn, 19, 1, 0, 0))]
def cd_M_init : List (Nat × ab_E) := [(0, (.aload 0, 1, 0, 0, 0)), (1, (.d2l, 4, 0, 0, 0)), (4, (.aload 0, 5, 0, 0, 0)), (5, (.iconst 0, 8, 0, 0, 1233)), (8, (.newarray .int, 10, 22, 0, 0)), (10, (.putfield 0, 13, 12, 1, 3)), (13, (.aload 0, 14, 0, 0, 0)), (14, (.iconst 0, 15, 0, 0, 2)), (15, (.newarray .int, 17, 23, 0, 0)), (17, (.putfield 0, 20, 12, 2, 3)), (20, (.aload 0, 21, 0, 0, 0)), (21, (.iconst 0, 24, 0, 0, 500)), (24, (.newarray .int, 26, 24, 0, 0)), (26, (.putfield 0, 29, 12, 3, 3)), (29, (.aload 0, 30, 0, 0, 0)), (30, (.iconst 0, 33, 0, 0, 152)), (33, (.newarray .int, 35, 25, 0, 0)), (35, (.putfield 0, 38, 12, 4, 3)), (38, (.aload 0, 39, 0, 0, 0)), (39, (.iconst 0, 40, 0, 0, -1)), (40, (.putfield 0, 43, 12, 14, 0)), (43, (.aload 0, 44, 0, 0, 0)), (44, (.iconst 0, 46, 0, 0, 9)), (46, (.newarray .int, 48, 26, 0, 0)), (48, (.putfield 0, 51, 12, 15, 3)), (51, (.aload 0, 52, 0, 0, 0)), (52, (.iconst 0, 55, 0, 0, 204)), (55, (.newarray .int, 57, 27, 0, 0)), (57, (.putfield 0, 60, 12, 16, 3)), (60, (.aload 0, 61, 0, 0, 0)), (61, (.iconst 0, 63, 0, 0, 16)), (63, (.newarray .int, 65, 28, 0, 0)), (65, (.putfield 0, 68, 12, 19, 3)), (68, (.aload 0, 69, 0, 0, 0)), (69, (.iconst 0, 71, 0, 0, 16)), (71, (.newarray .int, 73, 29, 0, 0)), (73, (.putfield 0, 76, 12, 20, 3)), (76, (.aload 0, 77, 0, 0, 0)), (77, (.iconst 0, 79, 0, 0, 40)), (79, (.newarray .int, 81, 30, 0, 0)), (81, (.putfield 0, 84, 12, 22, 3)), (84, (.aload 0, 85, 0, 0, 0)), (85, (.iconst 0, 87, 0, 0, 6)), (87, (.newarray .int, 89, 31, 0, 0)), (89, (.putfield 0, 92, 12, 23, 3)), (92, (.aload 0, 93, 0, 0, 0)), (93, (.iconst 0, 95, 0, 0, 65536)), (95, (.newarray .int, 97, 32, 0, 0)), (97, (.putfield 0, 100, 12, 26, 3)), (100, (.aload 0, 101, 0, 0, 0)), (101, (.iconst 0, 103, 0, 0, 16)), (103, (.newarray .int, 105, 33, 0, 0)), (105, (.putfield 0, 108, 12, 28, 3)), (108, (.aload 0, 109, 0, 0, 0)), (109, (.iconst 0, 111, 0, 0, 16)), (111, (.newarray .int, 113, 34, 0, 0)), (113, (.putfield 0, 116, 12, 29, 3)), (116, (.aload 0, 117, 0, 0, 0)), (117, (.iconst 0, 119, 0, 0, 65536)), (119, (.newarray .int, 121, 35, 0, 0)), (121, (.putfield 0, 124, 12, 30, 3)), (124, (.aload 0, 125, 0, 0, 0)), (125, (.iconst 0, 126, 0, 0, 3)), (126, (.newarray .int, 128, 36, 0, 0)), (128, (.putfield 0, 131, 12, 31, 3)), (131, (.aload 0, 132, 0, 0, 0)), (132, (.iconst 0, 133, 0, 0, 3)), (133, (.newarray .int, 135, 37, 0, 0)), (135, (.putfield 0, 138, 12, 32, 3)), (138, (.aload 0, 139, 0, 0, 0)), (139, (.iconst 0, 141, 0, 0, 48)), (141, (.newarray .int, 143, 38, 0, 0)), (143, (.putfield 0, 146, 12, 34, 3)), (146, (.aload 0, 147, 0, 0, 0)), (147, (.iconst 0, 149, 0, 0, 48)), (149, (.newarray .int, 151, 39, 0, 0)), (151, (.putfield 0, 154, 12, 35, 3)), (154, (.aload 0, 155, 0, 0, 0)), (155, (.iconst 0, 156, 0, 0, 4)), (156, (.newarray .int, 158, 40, 0, 0)), (158, (.dup, 159, 0, 0, 0)), (159, (.iconst 0, 160, 0, 0, 0)), (160, (.iconst 0, 161, 0, 0, -1)), (161, (.iastore, 162, 0, 0, 0)), (162, (.dup, 163, 0, 0, 0)), (163, (.iconst 0, 164, 0, 0, 1)), (164, (.iconst 0, 165, 0, 0, -1)), (165, (.iastore, 166, 0, 0, 0)), (166, (.dup, 167, 0, 0, 0)), (167, (.iconst 0, 168, 0, 0, 2)), (168, (.iconst 0, 169, 0, 0, -1)), (169, (.iastore, 170, 0, 0, 0)), (170, (.dup, 171, 0, 0, 0)), (171, (.iconst 0, 172, 0, 0, 3)), (172, (.iconst 0, 173, 0, 0, -1)), (173, (.iastore, 174, 0, 0, 0)), (174, (.putfield 0, 177, 12, 37, 3)), (177, (.aload 0, 178, 0, 0, 0)), (178, (.iconst 0, 179, 0, 0, 4)), (179, (.newarray .int, 181, 41, 0, 0)), (181, (.putfield 0, 184, 12, 38, 3)), (184, (.aload 0, 185, 0, 0, 0)), (185, (.iconst 0, 188, 0, 0, 160)), (188, (.newarray .int, 190, 42, 0, 0)), (190, (.putfield 0, 193, 12, 39, 3)), (193, (.aload 0, 194, 0, 0, 0)), (194, (.getfield 0, 197, 12, 1, 3)), (197, (.iconst 0, 198, 0, 0, 1)), (198, (.iconst 0, 200, 0, 0, 9)), (200, (.iastore, 201, 0, 0, 0)), (201, (.return_, 202, 0, 0, 0))]
def cd_M_feed : List (Nat × ab_E) := [(0, (.aload 0, 1, 0, 0, 0)), (1, (.iconst 0, 2, 0, 0, 0)), (2, (.putfield 0, 5, 12, 0, 0)), (5, (.aload 0, 6, 0, 0, 0)), (6, (.getfield 0, 9, 12, 5, 0)), (9, (.iconst 0, 11, 0, 0, 20)), (11, (.iadd, 12, 0, 0, 0)), (12, (.iconst 0, 15, 0, 0, 500)), (15, (.if_icmp .le 0, 18, 21, 0, 0)), (18, (.iconst 0, 20, 0, 0, -5)), (20, (.ireturn, 21, 0, 0, 0)), (21, (.iconst 0, 22, 0, 0, 0)), (22, (.istore 0, 24, 6, 0, 0)), (24, (.iload 0, 26, 6, 0, 0)), (26, (.iconst 0, 28, 0, 0, 20)), (28, (.if_icmp .ge 0, 31, 121, 0, 0)), (31, (.iload 0, 33, 6, 0, 0)), (33, (.iconst 0, 34, 0, 0, 4)), (34, (.if_icmp .ge 0, 37, 41, 0, 0)), (37, (.iload 0, 38, 1, 0, 0)), (38, (.goto 0, 41, 77, 0, 0)), (41, (.iload 0, 43, 6, 0, 0)), (43, (.iconst 0, 45, 0, 0, 8)), (45, (.if_icmp .ge 0, 48, 52, 0, 0)), (48, (.iload 0, 49, 2, 0, 0)), (49, (.goto 0, 52, 77, 0, 0)), (52, (.iload 0, 54, 6, 0, 0)), (54, (.iconst 0, 56, 0, 0, 12)), (56, (.if_icmp .ge 0, 59, 63, 0, 0)), (59, (.iload 0, 60, 3, 0, 0)), (60, (.goto 0, 63, 77, 0, 0)), (63, (.iload 0, 65, 6, 0, 0)), (65, (.iconst 0, 67, 0, 0, 16)), (67, (.if_icmp .ge 0, 70, 75, 0, 0)), (70, (.iload 0, 72, 4, 0, 0)), (72, (.goto 0, 75, 77, 0, 0)), (75, (.iload 0, 77, 5, 0, 0)), (77, (.istore 0, 79, 7, 0, 0)), (79, (.aload 0, 80, 0, 0, 0)), (80, (.getfield 0, 83, 12, 3, 3)), (83, (.aload 0, 84, 0, 0, 0)), (84, (.getfield 0, 87, 12, 5, 0)), (87, (.iload 0, 89, 7, 0, 0)), (89, (.iconst 0, 91, 0, 0, 24)), (91, (.iconst 0, 93, 0, 0, 8)), (93, (.iload 0, 95, 6, 0, 0)), (95, (.iconst 0, 96, 0, 0, 4)), (96, (.irem, 97, 0, 0, 0)), (97, (.imul, 98, 0, 0, 0)), (98, (.isub, 99, 0, 0, 0)), (99, (.ishr, 100, 0, 0, 0)), (100, (.iconst 0, 103, 0, 0, 255)), (103, (.iand, 104, 0, 0, 0)), (104, (.iastore, 105, 0, 0, 0)), (105, (.aload 0, 106, 0, 0, 0)), (106, (.dup, 107, 0, 0, 0)), (107, (.getfield 0, 110, 12, 5, 0)), (110, (.iconst 0, 111, 0, 0, 1)), (111, (.iadd, 112, 0, 0, 0)), (112, (.putfield 0, 115, 12, 5, 0)), (115, (.iinc 0 0, 118, 6, 0, 1)), (118, (.goto 0, 121, 24, 0, 0)), (121, (.aload 0, 122, 0, 0, 0)), (122, (.getfield 0, 125, 12, 5, 0)), (125, (.ireturn, 126, 0, 0, 0))]
def cd_M_see : List (Nat × ab_E) := [(0, (.iload 0, 1, 1, 0, 0)), (1, (.aload 0, 2, 0, 0, 0)), (2, (.getfield 0, 5, 12, 8, 0)), (5, (.if_icmp .ge 0, 8, 17, 0, 0)), (8, (.aload 0, 9, 0, 0, 0)), (9, (.getfield 0, 12, 12, 3, 3)), (12, (.iload 0, 13, 1, 0, 0)), (13, (.iaload, 14, 0, 0, 0)), (14, (.goto 0, 17, 18, 0, 0)), (17, (.iconst 0, 18, 0, 0, -1)), (18, (.ireturn, 19, 0, 0, 0))]
def cd_M_isSmall : List (Nat × ab_E) := [(0, (.iload 0, 1, 0, 0, 0)), (1, (.iconst 0, 3, 0, 0, 97)), (3, (.if_icmp .lt 0, 6, 16, 0, 0)), (6, (.iload 0, 7, 0, 0, 0)), (7, (.iconst 0, 9, 0, 0, 122)), (9, (.if_icmp .gt 0, 12, 16, 0, 0)), (12, (.iconst 0, 13, 0, 0, 1)), (13, (.goto 0, 16, 17, 0, 0)), (16, (.iconst 0, 17, 0, 0, 0)), (17, (.ireturn, 18, 1, 0, 0))]
def cd_M_isDigit : List (Nat × ab_E) := [(0, (.iload 0, 1, 0, 0, 0)), (1, (.iconst 0, 3, 0, 0, 48)), (3, (.if_icmp .lt 0, 6, 16, 0, 0)), (6, (.iload 0, 7, 0, 0, 0)), (7, (.iconst 0, 9, 0, 0, 57)), (9, (.if_icmp .gt 0, 12, 16, 0, 0)), (12, (.iconst 0, 13, 0, 0, 1)), (13, (.goto 0, 16, 17, 0, 0)), (16, (.iconst 0, 17, 0, 0, 0)), (17, (.ireturn, 18, 1, 0, 0))]
def cd_M_keyAt : List (Nat × ab_E) := [(0, (.iconst 0, 1, 0, 0, 0)), (1, (.istore 0, 2, 1, 0, 0)), (2, (.iconst 0, 3, 0, 0, 1)), (3, (.istore 0, 4, 2, 0, 0)), (4, (.iload 0, 5, 2, 0, 0)), (5, (.d2i, 7, 0, 0, 0)), (7, (.castore, 10, 0, 0, 0)), (10, (.if_icmp .ge 0, 13, 123, 0, 0)), (13, (.iconst 0, 14, 0, 0, 0)), (14, (.istore 0, 15, 3, 0, 0)), (15, (.d2i, 17, 0, 0, 0)), (17, (.iload 0, 18, 2, 0, 0)), (18, (.iload 0, 19, 3, 0, 0)), (19, (.iadd, 20, 0, 0, 0)), (20, (.d2f, 23, 0, 0, 0)), (23, (.iconst 0, 25, 0, 0, 32)), (25, (.if_icmp .eq 0, 28, 69, 0, 0)), (28, (.aload 0, 29, 0, 0, 0)), (29, (.getfield 0, 32, 12, 6, 0)), (32, (.iload 0, 33, 3, 0, 0)), (33, (.iadd, 34, 0, 0, 0)), (34, (.aload 0, 35, 0, 0, 0)), (35, (.getfield 0, 38, 12, 7, 0)), (38, (.if_icmp .ge 0, 41, 69, 0, 0)), (41, (.aload 0, 42, 0, 0, 0)), (42, (.getfield 0, 45, 12, 3, 3)), (45, (.aload 0, 46, 0, 0, 0)), (46, (.getfield 0, 49, 12, 6, 0)), (49, (.iload 0, 50, 3, 0, 0)), (50, (.iadd, 51, 0, 0, 0)), (51, (.iaload, 52, 0, 0, 0)), (52, (.d2i, 54, 0, 0, 0)), (54, (.iload 0, 55, 2, 0, 0)), (55, (.iload 0, 56, 3, 0, 0)), (56, (.iadd, 57, 0, 0, 0)), (57, (.d2f, 60, 0, 0, 0)), (60, (.if_icmp .ne 0, 63, 69, 0, 0)), (63, (.iinc 0 0, 66, 3, 0, 1)), (66, (.goto 0, 69, 15, 0, 0)), (69, (.d2i, 71, 0, 0, 0)), (71, (.iload 0, 72, 2, 0, 0)), (72, (.iload 0, 73, 3, 0, 0)), (73, (.iadd, 74, 0, 0, 0)), (74, (.d2f, 77, 0, 0, 0)), (77, (.iconst 0, 79, 0, 0, 32)), (79, (.if_icmp .ne 0, 82, 97, 0, 0)), (82, (.aload 0, 83, 0, 0, 0)), (83, (.getfield 0, 86, 12, 6, 0)), (86, (.iload 0, 87, 3, 0, 0)), (87, (.iadd, 88, 0, 0, 0)), (88, (.aload 0, 89, 0, 0, 0)), (89, (.getfield 0, 92, 12, 7, 0)), (92, (.if_icmp .ne 0, 95, 97, 0, 0)), (95, (.iload 0, 96, 1, 0, 0)), (96, (.ireturn, 97, 0, 0, 0)), (97, (.d2i, 99, 0, 0, 0)), (99, (.iload 0, 100, 2, 0, 0)), (100, (.d2f, 103, 0, 0, 0)), (103, (.iconst 0, 105, 0, 0, 32)), (105, (.if_icmp .eq 0, 108, 114, 0, 0)), (108, (.iinc 0 0, 111, 2, 0, 1)), (111, (.goto 0, 114, 97, 0, 0)), (114, (.iinc 0 0, 117, 2, 0, 1)), (117, (.iinc 0 0, 120, 1, 0, 1)), (120, (.goto 0, 123, 4, 0, 0)), (123, (.iconst 0, 125, 0, 0, 6)), (125, (.ireturn, 126, 0, 0, 0))]
def cd_M_next : List (Nat × ab_E) := [(0, (.aload 0, 1, 0, 0, 0)), (1, (.aload 0, 2, 0, 0, 0)), (2, (.getfield 0, 5, 12, 7, 0)), (5, (.putfield 0, 8, 12, 6, 0)), (8, (.aload 0, 9, 0, 0, 0)), (9, (.aload 0, 10, 0, 0, 0)), (10, (.getfield 0, 13, 12, 6, 0)), (13, (.invokevirtual 12, 16, 56, 2, 1)), (16, (.iconst 0, 18, 0, 0, 10)), (18, (.if_icmp .eq 0, 21, 34, 0, 0)), (21, (.aload 0, 22, 0, 0, 0)), (22, (.aload 0, 23, 0, 0, 0)), (23, (.getfield 0, 26, 12, 6, 0)), (26, (.invokevirtual 12, 29, 56, 2, 1)), (29, (.iconst 0, 31, 0, 0, 32)), (31, (.if_icmp .ne 0, 34, 47, 0, 0)), (34, (.aload 0, 35, 0, 0, 0)), (35, (.dup, 36, 0, 0, 0)), (36, (.getfield 0, 39, 12, 6, 0)), (39, (.iconst 0, 40, 0, 0, 1)), (40, (.iadd, 41, 0, 0, 0)), (41, (.putfield 0, 44, 12, 6, 0)), (44, (.goto 0, 47, 8, 0, 0)), (47, (.aload 0, 48, 0, 0, 0)), (48, (.aload 0, 49, 0, 0, 0)), (49, (.getfield 0, 52, 12, 6, 0)), (52, (.putfield 0, 55, 12, 7, 0)), (55, (.aload 0, 56, 0, 0, 0)), (56, (.getfield 0, 59, 12, 6, 0)), (59, (.aload 0, 60, 0, 0, 0)), (60, (.getfield 0, 63, 12, 8, 0)), (63, (.if_icmp .lt 0, 66, 75, 0, 0)), (66, (.aload 0, 67, 0, 0, 0)), (67, (.iconst 0, 69, 0, 0, 9)), (69, (.putfield 0, 72, 12, 9, 0)), (72, (.goto 0, 75, 270, 0, 0)), (75, (.aload 0, 76, 0, 0, 0)), (76, (.aload 0, 77, 0, 0, 0)), (77, (.getfield 0, 80, 12, 6, 0)), (80, (.invokevirtual 12, 83, 56, 2, 1)), (83, (.invokestatic 0, 86, 57, 1, 1)), (86, (.ifCond .eq 0, 89, 127, 0, 0)), (89, (.aload 0, 90, 0, 0, 0)), (90, (.aload 0, 91, 0, 0, 0)), (91, (.getfield 0, 94, 12, 7, 0)), (94, (.invokevirtual 12, 97, 56, 2, 1)), (97, (.invokestatic 0, 100, 57, 1, 1)), (100, (.ifCond .eq 0, 103, 116, 0, 0)), (103, (.aload 0, 104, 0, 0, 0)), (104, (.dup, 105, 0, 0, 0)), (105, (.getfield 0, 108, 12, 7, 0)), (108, (.iconst 0, 109, 0, 0, 1)), (109, (.iadd, 110, 0, 0, 0)), (110, (.putfield 0, 113, 12, 7, 0)), (113, (.goto 0, 116, 89, 0, 0)), (116, (.aload 0, 117, 0, 0, 0)), (117, (.aload 0, 118, 0, 0, 0)), (118, (.invokevirtual 12, 121, 59, 1, 1)), (121, (.putfield 0, 124, 12, 9, 0)), (124, (.goto 0, 127, 270, 0, 0)), (127, (.aload 0, 128, 0, 0, 0)), (128, (.aload 0, 129, 0, 0, 0)), (129, (.getfield 0, 132, 12, 6, 0)), (132, (.invokevirtual 12, 135, 56, 2, 1)), (135, (.invokestatic 0, 138, 58, 1, 1)), (138, (.ifCond .eq 0, 141, 236, 0, 0)), (141, (.aload 0, 142, 0, 0, 0)), (142, (.iconst 0, 143, 0, 0, 0)), (143, (.putfield 0, 146, 12, 10, 0)), (146, (.aload 0, 147, 0, 0, 0)), (147, (.aload 0, 148, 0, 0, 0)), (148, (.getfield 0, 151, 12, 7, 0)), (151, (.invokevirtual 12, 154, 56, 2, 1)), (154, (.invokestatic 0, 157, 58, 1, 1)), (157, (.ifCond .eq 0, 160, 209, 0, 0)), (160, (.aload 0, 161, 0, 0, 0)), (161, (.getfield 0, 164, 12, 7, 0)), (164, (.aload 0, 165, 0, 0, 0)), (165, (.getfield 0, 168, 12, 6, 0)), (168, (.isub, 169, 0, 0, 0)), (169, (.iconst 0, 170, 0, 0, 3)), (170, (.if_icmp .ge 0, 173, 196, 0, 0)), (173, (.aload 0, 174, 0, 0, 0)), (174, (.iconst 0, 176, 0, 0, 10)), (176, (.aload 0, 177, 0, 0, 0)), (177, (.getfield 0, 180, 12, 10, 0)), (180, (.imul, 181, 0, 0, 0)), (181, (.aload 0, 182, 0, 0, 0)), (182, (.aload 0, 183, 0, 0, 0)), (183, (.getfield 0, 186, 12, 7, 0)), (186, (.invokevirtual 12, 189, 56, 2, 1)), (189, (.iadd, 190, 0, 0, 0)), (190, (.iconst 0, 192, 0, 0, 48)), (192, (.isub, 193, 0, 0, 0)), (193, (.putfield 0, 196, 12, 10, 0)), (196, (.aload 0, 197, 0, 0, 0)), (197, (.dup, 198, 0, 0, 0)), (198, (.getfield 0, 201, 12, 7, 0)), (201, (.iconst 0, 202, 0, 0, 1)), (202, (.iadd, 203, 0, 0, 0)), (203, (.putfield 0, 206, 12, 7, 0)), (206, (.goto 0, 209, 146, 0, 0)), (209, (.aload 0, 210, 0, 0, 0)), (210, (.aload 0, 211, 0, 0, 0)), (211, (.getfield 0, 214, 12, 7, 0)), (214, (.aload 0, 215, 0, 0, 0)), (215, (.getfield 0, 218, 12, 6, 0)), (218, (.isub, 219, 0, 0, 0)), (219, (.iconst 0, 220, 0, 0, 3)), (220, (.if_icmp .le 0, 223, 228, 0, 0)), (223, (.iconst 0, 225, 0, 0, 10)), (225, (.goto 0, 228, 230, 0, 0)), (228, (.iconst 0, 230, 0, 0, 7)), (230, (.putfield 0, 233, 12, 9, 0)), (233, (.goto 0, 236, 270, 0, 0)), (236, (.aload 0, 237, 0, 0, 0)), (237, (.dup, 238, 0, 0, 0)), (238, (.getfield 0, 241, 12, 7, 0)), (241, (.iconst 0, 242, 0, 0, 1)), (242, (.iadd, 243, 0, 0, 0)), (243, (.putfield 0, 246, 12, 7, 0)), (246, (.aload 0, 247, 0, 0, 0)), (247, (.aload 0, 248, 0, 0, 0)), (248, (.aload 0, 249, 0, 0, 0)), (249, (.getfield 0, 252, 12, 6, 0)), (252, (.invokevirtual 12, 255, 56, 2, 1)), (255, (.iconst 0, 257, 0, 0, 59)), (257, (.if_icmp .ne 0, 260, 265, 0, 0)), (260, (.iconst 0, 262, 0, 0, 8)), (262, (.goto 0, 265, 267, 0, 0)), (265, (.iconst 0, 267, 0, 0, 10)), (267, (.putfield 0, 270, 12, 9, 0)), (270, (.return_, 271, 0, 0, 0))]
def cd_M_fails : List (Nat × ab_E) := [(0, (.aload 0, 1, 0, 0, 0)), (1, (.getfield 0, 4, 12, 11, 0)), (4, (.ifCond .eq 0, 7, 8, 0, 0)), (7, (.return_, 8, 0, 0, 0)), (8, (.aload 0, 9, 0, 0, 0)), (9, (.aload 0, 10, 0, 0, 0)), (10, (.getfield 0, 13, 12, 9, 0)), (13, (.iconst 0, 15, 0, 0, 10)), (15, (.if_icmp .ne 0, 18, 22, 0, 0)), (18, (.iconst 0, 19, 0, 0, 1)), (19, (.goto 0, 22, 23, 0, 0)), (22, (.iload 0, 23, 1, 0, 0)), (23, (.putfield 0, 26, 12, 11, 0)), (26, (.aload 0, 27, 0, 0, 0)), (27, (.aload 0, 28, 0, 0, 0)), (28, (.getfield 0, 31, 12, 6, 0)), (31, (.putfield 0, 34, 12, 12, 0)), (34, (.return_, 35, 0, 0, 0))]
def cd_M_is : List (Nat × ab_E) := [(0, (.aload 0, 1, 0, 0, 0)), (1, (.getfield 0, 4, 12, 11, 0)), (4, (.ifCond .ne 0, 7, 19, 0, 0)), (7, (.aload 0, 8, 0, 0, 0)), (8, (.getfield 0, 11, 12, 9, 0)), (11, (.iload 0, 12, 1, 0, 0)), (12, (.if_icmp .ne 0, 15, 19, 0, 0)), (15, (.iconst 0, 16, 0, 0, 1)), (16, (.goto 0, 19, 20, 0, 0)), (19, (.iconst 0, 20, 0, 0, 0)), (20, (.ireturn, 21, 1, 0, 0))]
def cd_M_eats : List (Nat × ab_E) := [(0, (.aload 0, 1, 0, 0, 0)), (1, (.iload 0, 2, 1, 0, 0)), (2, (.invokevirtual 12, 5, 62, 2, 1)), (5, (.ifCond .ne 0, 8, 10, 0, 0)), (8, (.iconst 0, 9, 0, 0, 0)), (9, (.ireturn, 10, 1, 0, 0)), (10, (.aload 0, 11, 0, 0, 0)), (11, (.invokevirtual 12, 14, 60, 1, 0)), (14, (.iconst 0, 15, 0, 0, 1)), (15, (.ireturn, 16, 1, 0, 0))]
def cd_M_takes : List (Nat × ab_E) := [(0, (.aload 0, 1, 0, 0, 0)), (1, (.iconst 0, 3, 0, 0, 7)), (3, (.invokevirtual 12, 6, 62, 2, 1)), (6, (.ifCond .ne 0, 9, 17, 0, 0)), (9, (.aload 0, 10, 0, 0, 0)), (10, (.iconst 0, 11, 0, 0, 2)), (11, (.invokevirtual 12, 14, 61, 2, 0)), (14, (.goto 0, 17, 37, 0, 0)), (17, (.aload 0, 18, 0, 0, 0)), (18, (.getfield 0, 21, 12, 10, 0)), (21, (.i2l, 22, 0, 0, 0)), (22, (.iload 0, 23, 1, 0, 0)), (23, (.i2l, 24, 0, 0, 0)), (24, (.iload 0, 25, 2, 0, 0)), (25, (.i2l, 26, 0, 0, 0)), (26, (.invokestatic 0, 29, 53, 3, 1)), (29, (.ifCond .ne 0, 32, 37, 0, 0)), (32, (.aload 0, 33, 0, 0, 0)), (33, (.iconst 0, 34, 0, 0, 3)), (34, (.invokevirtual 12, 37, 61, 2, 0)), (37, (.aload 0, 38, 0, 0, 0)), (38, (.getfield 0, 41, 12, 10, 0)), (41, (.istore 0, 42, 3, 0, 0)), (42, (.aload 0, 43, 0, 0, 0)), (43, (.getfield 0, 46, 12, 11, 0)), (46, (.ifCond .ne 0, 49, 53, 0, 0)), (49, (.aload 0, 50, 0, 0, 0)), (50, (.invokevirtual 12, 53, 60, 1, 0)), (53, (.iload 0, 54, 3, 0, 0)), (54, (.ireturn, 55, 0, 0, 0))]
def cd_M_takesThing : List (Nat × ab_E) := [(0, (.aload 0, 1, 0, 0, 0)), (1, (.iconst 0, 2, 0, 0, 0)), (2, (.aload 0, 3, 0, 0, 0)), (3, (.getfield 0, 6, 12, 4, 3)), (6, (.iconst 0, 7, 0, 0, 0)), (7, (.iaload, 8, 0, 0, 0)), (8, (.iconst 0, 9, 0, 0, 1)), (9, (.isub, 10, 0, 0, 0)), (10, (.invokevirtual 12, 13, 64, 3, 1)), (13, (.ireturn, 14, 0, 0, 0))]
def cd_M_readThings : List (Nat × ab_E) := [(0, (.aload 0, 1, 0, 0, 0)), (1, (.getfield 0, 4, 12, 4, 3)), (4, (.iconst 0, 5, 0, 0, 0)), (5, (.iaload, 6, 0, 0, 0)), (6, (.ifCond .le 0, 9, 14, 0, 0)), (9, (.aload 0, 10, 0, 0, 0)), (10, (.iconst 0, 11, 0, 0, 4)), (11, (.invokevirtual 12, 14, 61, 2, 0)), (14, (.aload 0, 15, 0, 0, 0)), (15, (.getfield 0, 18, 12, 11, 0)), (18, (.ifCond .eq 0, 21, 22, 0, 0)), (21, (.return_, 22, 0, 0, 0)), (22, (.aload 0, 23, 0, 0, 0)), (23, (.invokevirtual 12, 26, 60, 1, 0)), (26, (.aload 0, 27, 0, 0, 0)), (27, (.getfield 0, 30, 12, 4, 3)), (30, (.iconst 0, 31, 0, 0, 0)), (31, (.aload 0, 32, 0, 0, 0)), (32, (.iconst 0, 33, 0, 0, 1)), (33, (.iconst 0, 35, 0, 0, 16)), (35, (.invokevirtual 12, 38, 64, 3, 1)), (38, (.iastore, 39, 0, 0, 0)), (39, (.iconst 0, 40, 0, 0, 0)), (40, (.istore 0, 41, 1, 0, 0)), (41, (.iload 0, 42, 1, 0, 0)), (42, (.iconst 0, 44, 0, 0, 16)), (44, (.if_icmp .ge 0, 47, 63, 0, 0)), (47, (.aload 0, 48, 0, 0, 0)), (48, (.getfield 0, 51, 12, 4, 3)), (51, (.iconst 0, 53, 0, 0, 34)), (53, (.iload 0, 54, 1, 0, 0)), (54, (.iadd, 55, 0, 0, 0)), (55, (.iconst 0, 56, 0, 0, 1)), (56, (.iastore, 57, 0, 0, 0)), (57, (.iinc 0 0, 60, 1, 0, 1)), (60, (.goto 0, 63, 41, 0, 0)), (63, (.return_, 64, 0, 0, 0))]
def cd_M_readTwo : List (Nat × ab_E) := [(0, (.aload 0, 1, 0, 0, 0)), (1, (.invokevirtual 12, 4, 65, 1, 1)), (4, (.istore 0, 5, 2, 0, 0)), (5, (.aload 0, 6, 0, 0, 0)), (6, (.iconst 0, 8, 0, 0, 7)), (8, (.invokevirtual 12, 11, 62, 2, 1)), (11, (.ifCond .eq 0, 14, 27, 0, 0)), (14, (.aload 0, 15, 0, 0, 0)), (15, (.getfield 0, 18, 12, 10, 0)), (18, (.iload 0, 19, 2, 0, 0)), (19, (.if_icmp .ne 0, 22, 27, 0, 0)), (22, (.aload 0, 23, 0, 0, 0)), (23, (.iconst 0, 24, 0, 0, 3)), (24, (.invokevirtual 12, 27, 61, 2, 0)), (27, (.aload 0, 28, 0, 0, 0)), (28, (.invokevirtual 12, 31, 65, 1, 1)), (31, (.istore 0, 32, 3, 0, 0)), (32, (.aload 0, 33, 0, 0, 0)), (33, (.getfield 0, 36, 12, 11, 0)), (36, (.ifCond .eq 0, 39, 40, 0, 0)), (39, (.return_, 40, 0, 0, 0)), (40, (.aload 0, 41, 0, 0, 0)), (41, (.getfield 0, 44, 12, 4, 3)), (44, (.iload 0, 45, 1, 0, 0)), (45, (.ifCond .eq 0, 48, 52, 0, 0)), (48, (.iconst 0, 49, 0, 0, 2)), (49, (.goto 0, 52, 54, 0, 0)), (52, (.iconst 0, 54, 0, 0, 18)), (54, (.iload 0, 55, 2, 0, 0)), (55, (.iadd, 56, 0, 0, 0)), (56, (.dup2, 57, 0, 0, 0)), (57, (.iaload, 58, 0, 0, 0)), (58, (.iconst 0, 59, 0, 0, 1)), (59, (.iload 0, 60, 3, 0, 0)), (60, (.ishl, 61, 0, 0, 0)), (61, (.ior, 62, 0, 0, 0)), (62, (.iastore, 63, 0, 0, 0)), (63, (.iload 0, 64, 1, 0, 0)), (64, (.ifCond .ne 0, 67, 82, 0, 0)), (67, (.aload 0, 68, 0, 0, 0)), (68, (.getfield 0, 71, 12, 4, 3)), (71, (.iconst 0, 73, 0, 0, 18)), (73, (.iload 0, 74, 3, 0, 0)), (74, (.iadd, 75, 0, 0, 0)), (75, (.dup2, 76, 0, 0, 0)), (76, (.iaload, 77, 0, 0, 0)), (77, (.iconst 0, 78, 0, 0, 1)), (78, (.iload 0, 79, 2, 0, 0)), (79, (.ishl, 80, 0, 0, 0)), (80, (.ior, 81, 0, 0, 0)), (81, (.iastore, 82, 0, 0, 0)), (82, (.return_, 83, 0, 0, 0))]
def cd_M_readWorth : List (Nat × ab_E) := [(0, (.aload 0, 1, 0, 0, 0)), (1, (.invokevirtual 12, 4, 65, 1, 1)), (4, (.istore 0, 5, 1, 0, 0)), (5, (.aload 0, 6, 0, 0, 0)), (6, (.iconst 0, 7, 0, 0, 0)), (7, (.iconst 0, 9, 0, 0, 99)), (9, (.invokevirtual 12, 12, 64, 3, 1)), (12, (.istore 0, 13, 2, 0, 0)), (13, (.aload 0, 14, 0, 0, 0)), (14, (.getfield 0, 17, 12, 11, 0)), (17, (.ifCond .ne 0, 20, 30, 0, 0)), (20, (.aload 0, 21, 0, 0, 0)), (21, (.getfield 0, 24, 12, 4, 3)), (24, (.iconst 0, 26, 0, 0, 34)), (26, (.iload 0, 27, 1, 0, 0)), (27, (.iadd, 28, 0, 0, 0)), (28, (.iload 0, 29, 2, 0, 0)), (29, (.iastore, 30, 0, 0, 0)), (30, (.return_, 31, 0, 0, 0))]
def cd_M_readInn : List (Nat × ab_E) := [(0, (.aload 0, 1, 0, 0, 0)), (1, (.getfield 0, 4, 12, 4, 3)), (4, (.iconst 0, 6, 0, 0, 50)), (6, (.iaload, 7, 0, 0, 0)), (7, (.istore 0, 8, 1, 0, 0)), (8, (.iload 0, 9, 1, 0, 0)), (9, (.iconst 0, 11, 0, 0, 10)), (11, (.if_icmp .ne 0, 14, 19, 0, 0)), (14, (.aload 0, 15, 0, 0, 0)), (15, (.iconst 0, 16, 0, 0, 4)), (16, (.invokevirtual 12, 19, 61, 2, 0)), (19, (.aload 0, 20, 0, 0, 0)), (20, (.getfield 0, 23, 12, 11, 0)), (23, (.ifCond .eq 0, 26, 27, 0, 0)), (26, (.return_, 27, 0, 0, 0)), (27, (.aload 0, 28, 0, 0, 0)), (28, (.invokevirtual 12, 31, 60, 1, 0)), (31, (.iconst 0, 32, 0, 0, 0)), (32, (.istore 0, 33, 2, 0, 0)), (33, (.aload 0, 34, 0, 0, 0)), (34, (.iconst 0, 36, 0, 0, 7)), (36, (.invokevirtual 12, 39, 62, 2, 1)), (39, (.ifCond .eq 0, 42, 100, 0, 0)), (42, (.iload 0, 43, 2, 0, 0)), (43, (.iconst 0, 45, 0, 0, 9)), (45, (.if_icmp .ne 0, 48, 66, 0, 0)), (48, (.aload 0, 49, 0, 0, 0)), (49, (.getfield 0, 52, 12, 10, 0)), (52, (.aload 0, 53, 0, 0, 0)), (53, (.getfield 0, 56, 12, 4, 3)), (56, (.iconst 0, 57, 0, 0, 0)), (57, (.iaload, 58, 0, 0, 0)), (58, (.if_icmp .ge 0, 61, 66, 0, 0)), (61, (.aload 0, 62, 0, 0, 0)), (62, (.iconst 0, 63, 0, 0, 4)), (63, (.invokevirtual 12, 66, 61, 2, 0)), (66, (.aload 0, 67, 0, 0, 0)), (67, (.invokevirtual 12, 70, 65, 1, 1)), (70, (.istore 0, 71, 3, 0, 0)), (71, (.aload 0, 72, 0, 0, 0)), (72, (.getfield 0, 75, 12, 11, 0)), (75, (.ifCond .eq 0, 78, 79, 0, 0)), (78, (.return_, 79, 0, 0, 0)), (79, (.aload 0, 80, 0, 0, 0)), (80, (.getfield 0, 83, 12, 4, 3)), (83, (.iconst 0, 85, 0, 0, 61)), (85, (.iconst 0, 87, 0, 0, 9)), (87, (.iload 0, 88, 1, 0, 0)), (88, (.imul, 89, 0, 0, 0)), (89, (.iadd, 90, 0, 0, 0)), (90, (.iload 0, 91, 2, 0, 0)), (91, (.iadd, 92, 0, 0, 0)), (92, (.iload 0, 93, 3, 0, 0)), (93, (.iastore, 94, 0, 0, 0)), (94, (.iinc 0 0, 97, 2, 0, 1)), (97, (.goto 0, 100, 33, 0, 0)), (100, (.aload 0, 101, 0, 0, 0)), (101, (.getfield 0, 104, 12, 4, 3)), (104, (.iconst 0, 106, 0, 0, 51)), (106, (.iload 0, 107, 1, 0, 0)), (107, (.iadd, 108, 0, 0, 0)), (108, (.iload 0, 109, 2, 0, 0)), (109, (.iastore, 110, 0, 0, 0)), (110, (.aload 0, 111, 0, 0, 0)), (111, (.getfield 0, 114, 12, 4, 3)), (114, (.iconst 0, 116, 0, 0, 50)), (116, (.dup2, 117, 0, 0, 0)), (117, (.iaload, 118, 0, 0, 0)), (118, (.iconst 0, 119, 0, 0, 1)), (119, (.iadd, 120, 0, 0, 0)), (120, (.iastore, 121, 0, 0, 0)), (121, (.return_, 122, 0, 0, 0))]
def cd_M_readLine : List (Nat × ab_E) := [(0, (.aload 0, 1, 0, 0, 0)), (1, (.iconst 0, 2, 0, 0, 0)), (2, (.invokevirtual 12, 5, 62, 2, 1)), (5, (.ifCond .eq 0, 8, 15, 0, 0)), (8, (.aload 0, 9, 0, 0, 0)), (9, (.invokevirtual 12, 12, 66, 1, 0)), (12, (.goto 0, 15, 123, 0, 0)), (15, (.aload 0, 16, 0, 0, 0)), (16, (.getfield 0, 19, 12, 4, 3)), (19, (.iconst 0, 20, 0, 0, 0)), (20, (.iaload, 21, 0, 0, 0)), (21, (.ifCond .ne 0, 24, 32, 0, 0)), (24, (.aload 0, 25, 0, 0, 0)), (25, (.iconst 0, 26, 0, 0, 2)), (26, (.invokevirtual 12, 29, 61, 2, 0)), (29, (.goto 0, 32, 123, 0, 0)), (32, (.aload 0, 33, 0, 0, 0)), (33, (.iconst 0, 34, 0, 0, 5)), (34, (.invokevirtual 12, 37, 62, 2, 1)), (37, (.ifCond .eq 0, 40, 47, 0, 0)), (40, (.aload 0, 41, 0, 0, 0)), (41, (.invokevirtual 12, 44, 69, 1, 0)), (44, (.goto 0, 47, 123, 0, 0)), (47, (.aload 0, 48, 0, 0, 0)), (48, (.iconst 0, 49, 0, 0, 1)), (49, (.invokevirtual 12, 52, 63, 2, 1)), (52, (.ifCond .eq 0, 55, 71, 0, 0)), (55, (.aload 0, 56, 0, 0, 0)), (56, (.getfield 0, 59, 12, 4, 3)), (59, (.iconst 0, 60, 0, 0, 1)), (60, (.aload 0, 61, 0, 0, 0)), (61, (.iconst 0, 62, 0, 0, 1)), (62, (.iconst 0, 64, 0, 0, 9)), (64, (.invokevirtual 12, 67, 64, 3, 1)), (67, (.iastore, 68, 0, 0, 0)), (68, (.goto 0, 71, 123, 0, 0)), (71, (.aload 0, 72, 0, 0, 0)), (72, (.iconst 0, 73, 0, 0, 2)), (73, (.invokevirtual 12, 76, 63, 2, 1)), (76, (.ifCond .eq 0, 79, 87, 0, 0)), (79, (.aload 0, 80, 0, 0, 0)), (80, (.iconst 0, 81, 0, 0, 1)), (81, (.invokevirtual 12, 84, 67, 2, 0)), (84, (.goto 0, 87, 123, 0, 0)), (87, (.aload 0, 88, 0, 0, 0)), (88, (.iconst 0, 89, 0, 0, 3)), (89, (.invokevirtual 12, 92, 63, 2, 1)), (92, (.ifCond .eq 0, 95, 103, 0, 0)), (95, (.aload 0, 96, 0, 0, 0)), (96, (.iconst 0, 97, 0, 0, 0)), (97, (.invokevirtual 12, 100, 67, 2, 0)), (100, (.goto 0, 103, 123, 0, 0)), (103, (.aload 0, 104, 0, 0, 0)), (104, (.iconst 0, 105, 0, 0, 4)), (105, (.invokevirtual 12, 108, 63, 2, 1)), (108, (.ifCond .eq 0, 111, 118, 0, 0)), (111, (.aload 0, 112, 0, 0, 0)), (112, (.invokevirtual 12, 115, 68, 1, 0)), (115, (.goto 0, 118, 123, 0, 0)), (118, (.aload 0, 119, 0, 0, 0)), (119, (.iconst 0, 120, 0, 0, 2)), (120, (.invokevirtual 12, 123, 61, 2, 0)), (123, (.aload 0, 124, 0, 0, 0)), (124, (.iconst 0, 126, 0, 0, 8)), (126, (.invokevirtual 12, 129, 63, 2, 1)), (129, (.ifCond .ne 0, 132, 137, 0, 0)), (132, (.aload 0, 133, 0, 0, 0)), (133, (.iconst 0, 134, 0, 0, 2)), (134, (.invokevirtual 12, 137, 61, 2, 0)), (137, (.aload 0, 138, 0, 0, 0)), (138, (.getfield 0, 141, 12, 4, 3)), (141, (.iconst 0, 144, 0, 0, 151)), (144, (.dup2, 145, 0, 0, 0)), (145, (.iaload, 146, 0, 0, 0)), (146, (.iconst 0, 147, 0, 0, 1)), (147, (.iadd, 148, 0, 0, 0)), (148, (.iastore, 149, 0, 0, 0)), (149, (.return_, 150, 0, 0, 0))]
def cd_M_lore : List (Nat × ab_E) := [(0, (.aload 0, 1, 0, 0, 0)), (1, (.iconst 0, 2, 0, 0, 0)), (2, (.putfield 0, 5, 12, 0, 0)), (5, (.iload 0, 6, 1, 0, 0)), (6, (.i2l, 7, 0, 0, 0)), (7, (.ldc2_w 0, 8, 0, 0, 0)), (8, (.aload 0, 9, 0, 0, 0)), (9, (.getfield 0, 12, 12, 5, 0)), (12, (.i2l, 13, 0, 0, 0)), (13, (.invokestatic 0, 16, 53, 3, 1)), (16, (.ifCond .ne 0, 19, 22, 0, 0)), (19, (.iconst 0, 21, 0, 0, -3)), (21, (.ireturn, 22, 0, 0, 0)), (22, (.aload 0, 23, 0, 0, 0)), (23, (.iload 0, 24, 1, 0, 0)), (24, (.putfield 0, 27, 12, 8, 0)), (27, (.aload 0, 28, 0, 0, 0)), (28, (.iconst 0, 29, 0, 0, 0)), (29, (.putfield 0, 32, 12, 5, 0)), (32, (.aload 0, 33, 0, 0, 0)), (33, (.iconst 0, 34, 0, 0, 0)), (34, (.putfield 0, 37, 12, 7, 0)), (37, (.aload 0, 38, 0, 0, 0)), (38, (.iconst 0, 39, 0, 0, 0)), (39, (.putfield 0, 42, 12, 11, 0)), (42, (.iconst 0, 43, 0, 0, 0)), (43, (.istore 0, 44, 2, 0, 0)), (44, (.iload 0, 45, 2, 0, 0)), (45, (.iconst 0, 48, 0, 0, 152)), (48, (.if_icmp .ge 0, 51, 74, 0, 0)), (51, (.aload 0, 52, 0, 0, 0)), (52, (.getfield 0, 55, 12, 4, 3)), (55, (.iload 0, 56, 2, 0, 0)), (56, (.iload 0, 57, 2, 0, 0)), (57, (.iconst 0, 58, 0, 0, 1)), (58, (.if_icmp .ne 0, 61, 66, 0, 0)), (61, (.iconst 0, 63, 0, 0, 9)), (63, (.goto 0, 66, 67, 0, 0)), (66, (.iconst 0, 67, 0, 0, 0)), (67, (.iastore, 68, 0, 0, 0)), (68, (.iinc 0 0, 71, 2, 0, 1)), (71, (.goto 0, 74, 44, 0, 0)), (74, (.aload 0, 75, 0, 0, 0)), (75, (.invokevirtual 12, 78, 60, 1, 0)), (78, (.aload 0, 79, 0, 0, 0)), (79, (.getfield 0, 82, 12, 11, 0)), (82, (.ifCond .ne 0, 85, 101, 0, 0)), (85, (.aload 0, 86, 0, 0, 0)), (86, (.getfield 0, 89, 12, 9, 0)), (89, (.iconst 0, 91, 0, 0, 9)), (91, (.if_icmp .eq 0, 94, 101, 0, 0)), (94, (.aload 0, 95, 0, 0, 0)), (95, (.invokevirtual 12, 98, 70, 1, 0)), (98, (.goto 0, 101, 78, 0, 0)), (101, (.aload 0, 102, 0, 0, 0)), (102, (.aload 0, 103, 0, 0, 0)), (103, (.getfield 0, 106, 12, 11, 0)), (106, (.putfield 0, 109, 12, 13, 0)), (109, (.aload 0, 110, 0, 0, 0)), (110, (.aload 0, 111, 0, 0, 0)), (111, (.getfield 0, 114, 12, 11, 0)), (114, (.ifCond .ne 0, 117, 121, 0, 0)), (117, (.iconst 0, 118, 0, 0, -1)), (118, (.goto 0, 121, 125, 0, 0)), (121, (.aload 0, 122, 0, 0, 0)), (122, (.getfield 0, 125, 12, 12, 0)), (125, (.putfield 0, 128, 12, 14, 0)), (128, (.aload 0, 129, 0, 0, 0)), (129, (.getfield 0, 132, 12, 11, 0)), (132, (.ifCond .eq 0, 135, 143, 0, 0)), (135, (.iconst 0, 137, 0, 0, -30)), (137, (.aload 0, 138, 0, 0, 0)), (138, (.getfield 0, 141, 12, 11, 0)), (141, (.isub, 142, 0, 0, 0)), (142, (.ireturn, 143, 0, 0, 0)), (143, (.iconst 0, 144, 0, 0, 0)), (144, (.istore 0, 145, 2, 0, 0)), (145, (.iload 0, 146, 2, 0, 0)), (146, (.iconst 0, 149, 0, 0, 411)), (149, (.if_icmp .ge 0, 152, 181, 0, 0)), (152, (.aload 0, 153, 0, 0, 0)), (153, (.getfield 0, 156, 12, 1, 3)), (156, (.iload 0, 157, 2, 0, 0)), (157, (.iload 0, 158, 2, 0, 0)), (158, (.iconst 0, 161, 0, 0, 152)), (161, (.if_icmp .ge 0, 164, 173, 0, 0)), (164, (.aload 0, 165, 0, 0, 0)), (165, (.getfield 0, 168, 12, 4, 3)), (168, (.iload 0, 169, 2, 0, 0)), (169, (.iaload, 170, 0, 0, 0)), (170, (.goto 0, 173, 174, 0, 0)), (173, (.iconst 0, 174, 0, 0, 0)), (174, (.iastore, 175, 0, 0, 0)), (175, (.iinc 0 0, 178, 2, 0, 1)), (178, (.goto 0, 181, 145, 0, 0)), (181, (.aload 0, 182, 0, 0, 0)), (182, (.getfield 0, 185, 12, 1, 3)), (185, (.iconst 0, 188, 0, 0, 151)), (188, (.iaload, 189, 0, 0, 0)), (189, (.ireturn, 190, 0, 0, 0))]
def cd_M_fault : List (Nat × ab_E) := [(0, (.aload 0, 1, 0, 0, 0)), (1, (.iconst 0, 2, 0, 0, 0)), (2, (.putfield 0, 5, 12, 0, 0)), (5, (.iload 0, 6, 1, 0, 0)), (6, (.ifCond .ne 0, 9, 16, 0, 0)), (9, (.aload 0, 10, 0, 0, 0)), (10, (.getfield 0, 13, 12, 13, 0)), (13, (.goto 0, 16, 29, 0, 0)), (16, (.iload 0, 17, 1, 0, 0)), (17, (.iconst 0, 18, 0, 0, 1)), (18, (.if_icmp .ne 0, 21, 28, 0, 0)), (21, (.aload 0, 22, 0, 0, 0)), (22, (.getfield 0, 25, 12, 14, 0)), (25, (.goto 0, 28, 29, 0, 0)), (28, (.iconst 0, 29, 0, 0, -1)), (29, (.ireturn, 30, 0, 0, 0))]
def cd_M_isThing : List (Nat × ab_E) := [(0, (.lload 0, 1, 1, 0, 0)), (1, (.ldc2_w 0, 2, 0, 0, 0)), (2, (.aload 0, 3, 0, 0, 0)), (3, (.getfield 0, 6, 12, 1, 3)), (6, (.iconst 0, 7, 0, 0, 0)), (7, (.iaload, 8, 0, 0, 0)), (8, (.iconst 0, 9, 0, 0, 1)), (9, (.isub, 10, 0, 0, 0)), (10, (.i2l, 11, 0, 0, 0)), (11, (.invokestatic 0, 14, 53, 3, 1)), (14, (.ireturn, 15, 1, 0, 0))]
def cd_M_isInn : List (Nat × ab_E) := [(0, (.lload 0, 1, 1, 0, 0)), (1, (.ldc2_w 0, 2, 0, 0, 0)), (2, (.aload 0, 3, 0, 0, 0)), (3, (.getfield 0, 6, 12, 1, 3)), (6, (.iconst 0, 8, 0, 0, 50)), (8, (.iaload, 9, 0, 0, 0)), (9, (.iconst 0, 10, 0, 0, 1)), (10, (.isub, 11, 0, 0, 0)), (11, (.i2l, 12, 0, 0, 0)), (12, (.invokestatic 0, 15, 53, 3, 1)), (15, (.ireturn, 16, 1, 0, 0))]
def cd_M_isMan : List (Nat × ab_E) := [(0, (.lload 0, 1, 1, 0, 0)), (1, (.ldc2_w 0, 2, 0, 0, 0)), (2, (.aload 0, 3, 0, 0, 0)), (3, (.getfield 0, 6, 12, 1, 3)), (6, (.iconst 0, 9, 0, 0, 152)), (9, (.iaload, 10, 0, 0, 0)), (10, (.iconst 0, 11, 0, 0, 1)), (11, (.isub, 12, 0, 0, 0)), (12, (.i2l, 13, 0, 0, 0)), (13, (.invokestatic 0, 16, 53, 3, 1)), (16, (.ireturn, 17, 1, 0, 0))]
def cd_M_isSet : List (Nat × ab_E) := [(0, (.iload 0, 1, 1, 0, 0)), (1, (.i2l, 2, 0, 0, 0)), (2, (.ldc2_w 0, 3, 0, 0, 0)), (3, (.iconst 0, 4, 0, 0, 1)), (4, (.aload 0, 5, 0, 0, 0)), (5, (.getfield 0, 8, 12, 1, 3)), (8, (.iconst 0, 9, 0, 0, 0)), (9, (.iaload, 10, 0, 0, 0)), (10, (.ishl, 11, 0, 0, 0)), (11, (.iconst 0, 12, 0, 0, 1)), (12, (.isub, 13, 0, 0, 0)), (13, (.i2l, 14, 0, 0, 0)), (14, (.invokestatic 0, 17, 53, 3, 1)), (17, (.ireturn, 18, 1, 0, 0))]
def cd_M_thing : List (Nat × ab_E) := [(0, (.aload 0, 1, 0, 0, 0)), (1, (.iconst 0, 2, 0, 0, 0)), (2, (.putfield 0, 5, 12, 0, 0)), (5, (.aload 0, 6, 0, 0, 0)), (6, (.iload 0, 7, 1, 0, 0)), (7, (.i2l, 8, 0, 0, 0)), (8, (.invokevirtual 12, 11, 73, 2, 1)), (11, (.ifCond .eq 0, 14, 26, 0, 0)), (14, (.iload 0, 15, 2, 0, 0)), (15, (.i2l, 16, 0, 0, 0)), (16, (.ldc2_w 0, 17, 0, 0, 0)), (17, (.ldc2_w 0, 20, 0, 0, 2)), (20, (.invokestatic 0, 23, 53, 3, 1)), (23, (.ifCond .ne 0, 26, 29, 0, 0)), (26, (.iconst 0, 28, 0, 0, -2)), (28, (.ireturn, 29, 0, 0, 0)), (29, (.aload 0, 30, 0, 0, 0)), (30, (.getfield 0, 33, 12, 1, 3)), (33, (.iload 0, 34, 2, 0, 0)), (34, (.ifCond .ne 0, 37, 42, 0, 0)), (37, (.iconst 0, 39, 0, 0, 34)), (39, (.goto 0, 42, 53, 0, 0)), (42, (.iload 0, 43, 2, 0, 0)), (43, (.iconst 0, 44, 0, 0, 1)), (44, (.if_icmp .ne 0, 47, 51, 0, 0)), (47, (.iconst 0, 48, 0, 0, 2)), (48, (.goto 0, 51, 53, 0, 0)), (51, (.iconst 0, 53, 0, 0, 18)), (53, (.iload 0, 54, 1, 0, 0)), (54, (.iadd, 55, 0, 0, 0)), (55, (.iaload, 56, 0, 0, 0)), (56, (.ireturn, 57, 0, 0, 0))]
def cd_M_news : List (Nat × ab_E) := [(0, (.aload 0, 1, 0, 0, 0)), (1, (.iconst 0, 2, 0, 0, 0)), (2, (.putfield 0, 5, 12, 0, 0)), (5, (.aload 0, 6, 0, 0, 0)), (6, (.iload 0, 7, 1, 0, 0)), (7, (.i2l, 8, 0, 0, 0)), (8, (.invokevirtual 12, 11, 74, 2, 1)), (11, (.ifCond .ne 0, 14, 17, 0, 0)), (14, (.iconst 0, 16, 0, 0, -2)), (16, (.ireturn, 17, 0, 0, 0)), (17, (.iload 0, 18, 2, 0, 0)), (18, (.iconst 0, 19, 0, 0, -1)), (19, (.if_icmp .ne 0, 22, 32, 0, 0)), (22, (.aload 0, 23, 0, 0, 0)), (23, (.getfield 0, 26, 12, 1, 3)), (26, (.iconst 0, 28, 0, 0, 51)), (28, (.iload 0, 29, 1, 0, 0)), (29, (.iadd, 30, 0, 0, 0)), (30, (.iaload, 31, 0, 0, 0)), (31, (.ireturn, 32, 0, 0, 0)), (32, (.iload 0, 33, 2, 0, 0)), (33, (.i2l, 34, 0, 0, 0)), (34, (.ldc2_w 0, 35, 0, 0, 0)), (35, (.aload 0, 36, 0, 0, 0)), (36, (.getfield 0, 39, 12, 1, 3)), (39, (.iconst 0, 41, 0, 0, 51)), (41, (.iload 0, 42, 1, 0, 0)), (42, (.iadd, 43, 0, 0, 0)), (43, (.iaload, 44, 0, 0, 0)), (44, (.iconst 0, 45, 0, 0, 1)), (45, (.isub, 46, 0, 0, 0)), (46, (.i2l, 47, 0, 0, 0)), (47, (.invokestatic 0, 50, 53, 3, 1)), (50, (.ifCond .eq 0, 53, 70, 0, 0)), (53, (.aload 0, 54, 0, 0, 0)), (54, (.getfield 0, 57, 12, 1, 3)), (57, (.iconst 0, 59, 0, 0, 61)), (59, (.iconst 0, 61, 0, 0, 9)), (61, (.iload 0, 62, 1, 0, 0)), (62, (.imul, 63, 0, 0, 0)), (63, (.iadd, 64, 0, 0, 0)), (64, (.iload 0, 65, 2, 0, 0)), (65, (.iadd, 66, 0, 0, 0)), (66, (.iaload, 67, 0, 0, 0)), (67, (.goto 0, 70, 72, 0, 0)), (70, (.iconst 0, 72, 0, 0, -7)), (72, (.ireturn, 73, 0, 0, 0))]
def cd_M_manAt : List (Nat × ab_E) := [(0, (.iconst 0, 3, 0, 0, 153)), (3, (.iconst 0, 5, 0, 0, 29)), (5, (.iload 0, 6, 0, 0, 0)), (6, (.imul, 7, 0, 0, 0)), (7, (.iadd, 8, 0, 0, 0)), (8, (.ireturn, 9, 0, 0, 0))]
def cd_M_many : List (Nat × ab_E) := [(0, (.aload 0, 1, 0, 0, 0)), (1, (.getfield 0, 4, 12, 1, 3)), (4, (.iload 0, 5, 1, 0, 0)), (5, (.invokestatic 0, 8, 79, 1, 1)), (8, (.iconst 0, 9, 0, 0, 2)), (9, (.iadd, 10, 0, 0, 0)), (10, (.iaload, 11, 0, 0, 0)), (11, (.ireturn, 12, 0, 0, 0))]
def cd_M_thingAt : List (Nat × ab_E) := [(0, (.aload 0, 1, 0, 0, 0)), (1, (.getfield 0, 4, 12, 1, 3)), (4, (.iload 0, 5, 1, 0, 0)), (5, (.invokestatic 0, 8, 79, 1, 1)), (8, (.iconst 0, 9, 0, 0, 4)), (9, (.iadd, 10, 0, 0, 0)), (10, (.iload 0, 11, 2, 0, 0)), (11, (.iadd, 12, 0, 0, 0)), (12, (.iaload, 13, 0, 0, 0)), (13, (.ireturn, 14, 0, 0, 0))]
end
end
section
section
def cd_M_placeOf : List (Nat × ab_E) := [(0, (.iconst 0, 1, 0, 0, 0)), (1, (.istore 0, 2, 3, 0, 0)), (2, (.iload 0, 3, 3, 0, 0)), (3, (.aload 0, 4, 0, 0, 0)), (4, (.iload 0, 5, 1, 0, 0)), (5, (.invokevirtual 12, 8, 80, 2, 1)), (8, (.if_icmp .ge 0, 11, 29, 0, 0)), (11, (.aload 0, 12, 0, 0, 0)), (12, (.iload 0, 13, 1, 0, 0)), (13, (.iload 0, 14, 3, 0, 0)), (14, (.invokevirtual 12, 17, 81, 3, 1)), (17, (.iload 0, 18, 2, 0, 0)), (18, (.if_icmp .ne 0, 21, 23, 0, 0)), (21, (.iload 0, 22, 3, 0, 0)), (22, (.ireturn, 23, 0, 0, 0)), (23, (.iinc 0 0, 26, 3, 0, 1)), (26, (.goto 0, 29, 2, 0, 0)), (29, (.iconst 0, 30, 0, 0, -1)), (30, (.ireturn, 31, 0, 0, 0))]
def cd_M_has : List (Nat × ab_E) := [(0, (.aload 0, 1, 0, 0, 0)), (1, (.iload 0, 2, 1, 0, 0)), (2, (.iload 0, 3, 2, 0, 0)), (3, (.invokevirtual 12, 6, 82, 3, 1)), (6, (.iconst 0, 7, 0, 0, -1)), (7, (.if_icmp .eq 0, 10, 14, 0, 0)), (10, (.iconst 0, 11, 0, 0, 1)), (11, (.goto 0, 14, 15, 0, 0)), (14, (.iconst 0, 15, 0, 0, 0)), (15, (.ireturn, 16, 1, 0, 0))]
def cd_M_bitsIn : List (Nat × ab_E) := [(0, (.iconst 0, 1, 0, 0, 0)), (1, (.istore 0, 2, 2, 0, 0)), (2, (.iconst 0, 3, 0, 0, 0)), (3, (.istore 0, 4, 3, 0, 0)), (4, (.iload 0, 5, 3, 0, 0)), (5, (.aload 0, 6, 0, 0, 0)), (6, (.iload 0, 7, 1, 0, 0)), (7, (.invokevirtual 12, 10, 80, 2, 1)), (10, (.if_icmp .ge 0, 13, 30, 0, 0)), (13, (.iload 0, 14, 2, 0, 0)), (14, (.iconst 0, 15, 0, 0, 1)), (15, (.aload 0, 16, 0, 0, 0)), (16, (.iload 0, 17, 1, 0, 0)), (17, (.iload 0, 18, 3, 0, 0)), (18, (.invokevirtual 12, 21, 81, 3, 1)), (21, (.ishl, 22, 0, 0, 0)), (22, (.ior, 23, 0, 0, 0)), (23, (.istore 0, 24, 2, 0, 0)), (24, (.iinc 0 0, 27, 3, 0, 1)), (27, (.goto 0, 30, 4, 0, 0)), (30, (.iload 0, 31, 2, 0, 0)), (31, (.ireturn, 32, 0, 0, 0))]
def cd_M_worthOf : List (Nat × ab_E) := [(0, (.iconst 0, 1, 0, 0, 0)), (1, (.istore 0, 2, 2, 0, 0)), (2, (.iconst 0, 3, 0, 0, 0)), (3, (.istore 0, 4, 3, 0, 0)), (4, (.iload 0, 5, 3, 0, 0)), (5, (.aload 0, 6, 0, 0, 0)), (6, (.getfield 0, 9, 12, 1, 3)), (9, (.iconst 0, 10, 0, 0, 0)), (10, (.iaload, 11, 0, 0, 0)), (11, (.if_icmp .ge 0, 14, 45, 0, 0)), (14, (.iload 0, 15, 2, 0, 0)), (15, (.iload 0, 16, 1, 0, 0)), (16, (.iload 0, 17, 3, 0, 0)), (17, (.ishr, 18, 0, 0, 0)), (18, (.iconst 0, 19, 0, 0, 1)), (19, (.iand, 20, 0, 0, 0)), (20, (.iconst 0, 21, 0, 0, 1)), (21, (.if_icmp .ne 0, 24, 36, 0, 0)), (24, (.aload 0, 25, 0, 0, 0)), (25, (.getfield 0, 28, 12, 1, 3)), (28, (.iconst 0, 30, 0, 0, 34)), (30, (.iload 0, 31, 3, 0, 0)), (31, (.iadd, 32, 0, 0, 0)), (32, (.iaload, 33, 0, 0, 0)), (33, (.goto 0, 36, 37, 0, 0)), (36, (.iconst 0, 37, 0, 0, 0)), (37, (.iadd, 38, 0, 0, 0)), (38, (.istore 0, 39, 2, 0, 0)), (39, (.iinc 0 0, 42, 3, 0, 1)), (42, (.goto 0, 45, 4, 0, 0)), (45, (.iload 0, 46, 2, 0, 0)), (46, (.ireturn, 47, 0, 0, 0))]
def cd_M_empties : List (Nat × ab_E) := [(0, (.iload 0, 1, 1, 0, 0)), (1, (.invokestatic 0, 4, 79, 1, 1)), (4, (.istore 0, 5, 3, 0, 0)), (5, (.iconst 0, 6, 0, 0, 0)), (6, (.istore 0, 8, 4, 0, 0)), (8, (.iload 0, 10, 4, 0, 0)), (10, (.iconst 0, 12, 0, 0, 29)), (12, (.if_icmp .ge 0, 15, 42, 0, 0)), (15, (.aload 0, 16, 0, 0, 0)), (16, (.getfield 0, 19, 12, 1, 3)), (19, (.iload 0, 20, 3, 0, 0)), (20, (.iload 0, 22, 4, 0, 0)), (22, (.iadd, 23, 0, 0, 0)), (23, (.iload 0, 25, 4, 0, 0)), (25, (.iconst 0, 27, 0, 0, 13)), (27, (.if_icmp .ge 0, 30, 34, 0, 0)), (30, (.iconst 0, 31, 0, 0, 0)), (31, (.goto 0, 34, 35, 0, 0)), (34, (.iconst 0, 35, 0, 0, -1)), (35, (.iastore, 36, 0, 0, 0)), (36, (.iinc 0 0, 39, 4, 0, 1)), (39, (.goto 0, 42, 8, 0, 0)), (42, (.aload 0, 43, 0, 0, 0)), (43, (.getfield 0, 46, 12, 1, 3)), (46, (.iload 0, 47, 3, 0, 0)), (47, (.iconst 0, 48, 0, 0, 0)), (48, (.iadd, 49, 0, 0, 0)), (49, (.iload 0, 50, 2, 0, 0)), (50, (.iastore, 51, 0, 0, 0)), (51, (.return_, 52, 0, 0, 0))]
def cd_M_hear : List (Nat × ab_E) := [(0, (.iload 0, 1, 1, 0, 0)), (1, (.invokestatic 0, 4, 79, 1, 1)), (4, (.istore 0, 5, 3, 0, 0)), (5, (.aload 0, 6, 0, 0, 0)), (6, (.iload 0, 7, 1, 0, 0)), (7, (.iload 0, 8, 2, 0, 0)), (8, (.invokevirtual 12, 11, 82, 3, 1)), (11, (.istore 0, 13, 4, 0, 0)), (13, (.iconst 0, 14, 0, 0, -1)), (14, (.istore 0, 16, 5, 0, 0)), (16, (.iload 0, 18, 4, 0, 0)), (18, (.iconst 0, 19, 0, 0, -1)), (19, (.if_icmp .ne 0, 22, 101, 0, 0)), (22, (.aload 0, 23, 0, 0, 0)), (23, (.iload 0, 24, 1, 0, 0)), (24, (.invokevirtual 12, 27, 80, 2, 1)), (27, (.istore 0, 29, 4, 0, 0)), (29, (.iload 0, 31, 4, 0, 0)), (31, (.aload 0, 32, 0, 0, 0)), (32, (.getfield 0, 35, 12, 1, 3)), (35, (.iload 0, 36, 3, 0, 0)), (36, (.iconst 0, 37, 0, 0, 0)), (37, (.iadd, 38, 0, 0, 0)), (38, (.iaload, 39, 0, 0, 0)), (39, (.if_icmp .ne 0, 42, 89, 0, 0)), (42, (.iinc 0 0, 45, 4, 0, -1)), (45, (.aload 0, 46, 0, 0, 0)), (46, (.iload 0, 47, 1, 0, 0)), (47, (.iload 0, 49, 4, 0, 0)), (49, (.invokevirtual 12, 52, 81, 3, 1)), (52, (.istore 0, 54, 5, 0, 0)), (54, (.aload 0, 55, 0, 0, 0)), (55, (.getfield 0, 58, 12, 1, 3)), (58, (.iload 0, 59, 3, 0, 0)), (59, (.iconst 0, 60, 0, 0, 3)), (60, (.iadd, 61, 0, 0, 0)), (61, (.dup2, 62, 0, 0, 0)), (62, (.iaload, 63, 0, 0, 0)), (63, (.iconst 0, 64, 0, 0, 1)), (64, (.iadd, 65, 0, 0, 0)), (65, (.iastore, 66, 0, 0, 0)), (66, (.aload 0, 67, 0, 0, 0)), (67, (.getfield 0, 70, 12, 1, 3)), (70, (.iload 0, 71, 3, 0, 0)), (71, (.iconst 0, 73, 0, 0, 13)), (73, (.iadd, 74, 0, 0, 0)), (74, (.iload 0, 76, 5, 0, 0)), (76, (.iadd, 77, 0, 0, 0)), (77, (.aload 0, 78, 0, 0, 0)), (78, (.getfield 0, 81, 12, 1, 3)), (81, (.iload 0, 82, 3, 0, 0)), (82, (.iconst 0, 83, 0, 0, 1)), (83, (.iadd, 84, 0, 0, 0)), (84, (.iaload, 85, 0, 0, 0)), (85, (.iastore, 86, 0, 0, 0)), (86, (.goto 0, 89, 101, 0, 0)), (89, (.aload 0, 90, 0, 0, 0)), (90, (.getfield 0, 93, 12, 1, 3)), (93, (.iload 0, 94, 3, 0, 0)), (94, (.iconst 0, 95, 0, 0, 2)), (95, (.iadd, 96, 0, 0, 0)), (96, (.dup2, 97, 0, 0, 0)), (97, (.iaload, 98, 0, 0, 0)), (98, (.iconst 0, 99, 0, 0, 1)), (99, (.iadd, 100, 0, 0, 0)), (100, (.iastore, 101, 0, 0, 0)), (101, (.iload 0, 103, 4, 0, 0)), (103, (.istore 0, 105, 6, 0, 0)), (105, (.iload 0, 107, 6, 0, 0)), (107, (.ifCond .le 0, 110, 140, 0, 0)), (110, (.aload 0, 111, 0, 0, 0)), (111, (.getfield 0, 114, 12, 1, 3)), (114, (.iload 0, 115, 3, 0, 0)), (115, (.iconst 0, 116, 0, 0, 4)), (116, (.iadd, 117, 0, 0, 0)), (117, (.iload 0, 119, 6, 0, 0)), (119, (.iadd, 120, 0, 0, 0)), (120, (.aload 0, 121, 0, 0, 0)), (121, (.getfield 0, 124, 12, 1, 3)), (124, (.iload 0, 125, 3, 0, 0)), (125, (.iconst 0, 126, 0, 0, 4)), (126, (.iadd, 127, 0, 0, 0)), (127, (.iload 0, 129, 6, 0, 0)), (129, (.iadd, 130, 0, 0, 0)), (130, (.iconst 0, 131, 0, 0, 1)), (131, (.isub, 132, 0, 0, 0)), (132, (.iaload, 133, 0, 0, 0)), (133, (.iastore, 134, 0, 0, 0)), (134, (.iinc 0 0, 137, 6, 0, -1)), (137, (.goto 0, 140, 105, 0, 0)), (140, (.aload 0, 141, 0, 0, 0)), (141, (.getfield 0, 144, 12, 1, 3)), (144, (.iload 0, 145, 3, 0, 0)), (145, (.iconst 0, 146, 0, 0, 4)), (146, (.iadd, 147, 0, 0, 0)), (147, (.iload 0, 148, 2, 0, 0)), (148, (.iastore, 149, 0, 0, 0)), (149, (.iload 0, 151, 5, 0, 0)), (151, (.ireturn, 152, 0, 0, 0))]
def cd_M_say : List (Nat × ab_E) := [(0, (.aload 0, 1, 0, 0, 0)), (1, (.iload 0, 2, 1, 0, 0)), (2, (.iload 0, 3, 2, 0, 0)), (3, (.invokevirtual 12, 6, 87, 3, 1)), (6, (.pop, 7, 0, 0, 0)), (7, (.iconst 0, 8, 0, 0, 0)), (8, (.istore 0, 9, 3, 0, 0)), (9, (.iconst 0, 10, 0, 0, 0)), (10, (.istore 0, 12, 4, 0, 0)), (12, (.iload 0, 14, 4, 0, 0)), (14, (.aload 0, 15, 0, 0, 0)), (15, (.getfield 0, 18, 12, 1, 3)), (18, (.iconst 0, 19, 0, 0, 0)), (19, (.iaload, 20, 0, 0, 0)), (20, (.if_icmp .ge 0, 23, 65, 0, 0)), (23, (.aload 0, 24, 0, 0, 0)), (24, (.getfield 0, 27, 12, 1, 3)), (27, (.iconst 0, 28, 0, 0, 2)), (28, (.iload 0, 29, 2, 0, 0)), (29, (.iadd, 30, 0, 0, 0)), (30, (.iaload, 31, 0, 0, 0)), (31, (.iload 0, 33, 4, 0, 0)), (33, (.ishr, 34, 0, 0, 0)), (34, (.iconst 0, 35, 0, 0, 1)), (35, (.iand, 36, 0, 0, 0)), (36, (.iconst 0, 37, 0, 0, 1)), (37, (.if_icmp .ne 0, 40, 59, 0, 0)), (40, (.iload 0, 41, 3, 0, 0)), (41, (.aload 0, 42, 0, 0, 0)), (42, (.iload 0, 43, 1, 0, 0)), (43, (.iload 0, 45, 4, 0, 0)), (45, (.invokevirtual 12, 48, 87, 3, 1)), (48, (.iconst 0, 49, 0, 0, -1)), (49, (.if_icmp .ne 0, 52, 56, 0, 0)), (52, (.iconst 0, 53, 0, 0, 0)), (53, (.goto 0, 56, 57, 0, 0)), (56, (.iconst 0, 57, 0, 0, 1)), (57, (.iadd, 58, 0, 0, 0)), (58, (.istore 0, 59, 3, 0, 0)), (59, (.iinc 0 0, 62, 4, 0, 1)), (62, (.goto 0, 65, 12, 0, 0)), (65, (.iload 0, 66, 3, 0, 0)), (66, (.ireturn, 67, 0, 0, 0))]
def cd_M_walk : List (Nat × ab_E) := [(0, (.iconst 0, 1, 0, 0, 0)), (1, (.istore 0, 2, 3, 0, 0)), (2, (.iload 0, 3, 1, 0, 0)), (3, (.invokestatic 0, 6, 79, 1, 1)), (6, (.istore 0, 8, 4, 0, 0)), (8, (.aload 0, 9, 0, 0, 0)), (9, (.getfield 0, 12, 12, 1, 3)), (12, (.iload 0, 14, 4, 0, 0)), (14, (.iconst 0, 15, 0, 0, 1)), (15, (.iadd, 16, 0, 0, 0)), (16, (.iaload, 17, 0, 0, 0)), (17, (.iload 0, 18, 2, 0, 0)), (18, (.if_icmp .eq 0, 21, 122, 0, 0)), (21, (.aload 0, 22, 0, 0, 0)), (22, (.getfield 0, 25, 12, 1, 3)), (25, (.iload 0, 27, 4, 0, 0)), (27, (.iconst 0, 28, 0, 0, 1)), (28, (.iadd, 29, 0, 0, 0)), (29, (.dup2, 30, 0, 0, 0)), (30, (.iaload, 31, 0, 0, 0)), (31, (.iload 0, 32, 2, 0, 0)), (32, (.aload 0, 33, 0, 0, 0)), (33, (.getfield 0, 36, 12, 1, 3)), (36, (.iload 0, 38, 4, 0, 0)), (38, (.iconst 0, 39, 0, 0, 1)), (39, (.iadd, 40, 0, 0, 0)), (40, (.iaload, 41, 0, 0, 0)), (41, (.if_icmp .le 0, 44, 48, 0, 0)), (44, (.iconst 0, 45, 0, 0, 1)), (45, (.goto 0, 48, 49, 0, 0)), (48, (.iconst 0, 49, 0, 0, -1)), (49, (.iadd, 50, 0, 0, 0)), (50, (.iastore, 51, 0, 0, 0)), (51, (.aload 0, 52, 0, 0, 0)), (52, (.getfield 0, 55, 12, 1, 3)), (55, (.iload 0, 57, 4, 0, 0)), (57, (.iconst 0, 58, 0, 0, 1)), (58, (.iadd, 59, 0, 0, 0)), (59, (.iaload, 60, 0, 0, 0)), (60, (.istore 0, 62, 5, 0, 0)), (62, (.iconst 0, 63, 0, 0, 0)), (63, (.istore 0, 65, 6, 0, 0)), (65, (.iload 0, 67, 6, 0, 0)), (67, (.aload 0, 68, 0, 0, 0)), (68, (.getfield 0, 71, 12, 1, 3)), (71, (.iconst 0, 73, 0, 0, 51)), (73, (.iload 0, 75, 5, 0, 0)), (75, (.iadd, 76, 0, 0, 0)), (76, (.iaload, 77, 0, 0, 0)), (77, (.if_icmp .ge 0, 80, 119, 0, 0)), (80, (.iload 0, 81, 3, 0, 0)), (81, (.aload 0, 82, 0, 0, 0)), (82, (.iload 0, 83, 1, 0, 0)), (83, (.aload 0, 84, 0, 0, 0)), (84, (.getfield 0, 87, 12, 1, 3)), (87, (.iconst 0, 89, 0, 0, 61)), (89, (.iconst 0, 91, 0, 0, 9)), (91, (.iload 0, 93, 5, 0, 0)), (93, (.imul, 94, 0, 0, 0)), (94, (.iadd, 95, 0, 0, 0)), (95, (.iload 0, 97, 6, 0, 0)), (97, (.iadd, 98, 0, 0, 0)), (98, (.iaload, 99, 0, 0, 0)), (99, (.invokevirtual 12, 102, 87, 3, 1)), (102, (.iconst 0, 103, 0, 0, -1)), (103, (.if_icmp .ne 0, 106, 110, 0, 0)), (106, (.iconst 0, 107, 0, 0, 0)), (107, (.goto 0, 110, 111, 0, 0)), (110, (.iconst 0, 111, 0, 0, 1)), (111, (.iadd, 112, 0, 0, 0)), (112, (.istore 0, 113, 3, 0, 0)), (113, (.iinc 0 0, 116, 6, 0, 1)), (116, (.goto 0, 119, 65, 0, 0)), (119, (.goto 0, 122, 8, 0, 0)), (122, (.iload 0, 123, 3, 0, 0)), (123, (.ireturn, 124, 0, 0, 0))]
def cd_M_deliver : List (Nat × ab_E) := [(0, (.aload 0, 1, 0, 0, 0)), (1, (.iload 0, 2, 1, 0, 0)), (2, (.invokevirtual 12, 5, 80, 2, 1)), (5, (.istore 0, 6, 2, 0, 0)), (6, (.iconst 0, 7, 0, 0, 0)), (7, (.istore 0, 8, 3, 0, 0)), (8, (.iload 0, 9, 3, 0, 0)), (9, (.iload 0, 10, 2, 0, 0)), (10, (.if_icmp .ge 0, 13, 31, 0, 0)), (13, (.aload 0, 14, 0, 0, 0)), (14, (.getfield 0, 17, 12, 15, 3)), (17, (.iload 0, 18, 3, 0, 0)), (18, (.aload 0, 19, 0, 0, 0)), (19, (.iload 0, 20, 1, 0, 0)), (20, (.iload 0, 21, 3, 0, 0)), (21, (.invokevirtual 12, 24, 81, 3, 1)), (24, (.iastore, 25, 0, 0, 0)), (25, (.iinc 0 0, 28, 3, 0, 1)), (28, (.goto 0, 31, 8, 0, 0)), (31, (.iconst 0, 32, 0, 0, 0)), (32, (.istore 0, 33, 3, 0, 0)), (33, (.iload 0, 34, 2, 0, 0)), (34, (.iconst 0, 35, 0, 0, 1)), (35, (.isub, 36, 0, 0, 0)), (36, (.istore 0, 38, 4, 0, 0)), (38, (.iload 0, 40, 4, 0, 0)), (40, (.ifCond .lt 0, 43, 107, 0, 0)), (43, (.aload 0, 44, 0, 0, 0)), (44, (.iload 0, 45, 1, 0, 0)), (45, (.aload 0, 46, 0, 0, 0)), (46, (.getfield 0, 49, 12, 15, 3)), (49, (.iload 0, 51, 4, 0, 0)), (51, (.iaload, 52, 0, 0, 0)), (52, (.invokevirtual 12, 55, 83, 3, 1)), (55, (.ifCond .ne 0, 58, 61, 0, 0)), (58, (.goto 0, 61, 101, 0, 0)), (61, (.aload 0, 62, 0, 0, 0)), (62, (.iload 0, 63, 1, 0, 0)), (63, (.aload 0, 64, 0, 0, 0)), (64, (.getfield 0, 67, 12, 15, 3)), (67, (.iload 0, 69, 4, 0, 0)), (69, (.iaload, 70, 0, 0, 0)), (70, (.invokevirtual 12, 73, 88, 3, 1)), (73, (.pop, 74, 0, 0, 0)), (74, (.iload 0, 75, 3, 0, 0)), (75, (.iconst 0, 76, 0, 0, 1)), (76, (.aload 0, 77, 0, 0, 0)), (77, (.getfield 0, 80, 12, 15, 3)), (80, (.iload 0, 82, 4, 0, 0)), (82, (.iaload, 83, 0, 0, 0)), (83, (.ishl, 84, 0, 0, 0)), (84, (.aload 0, 85, 0, 0, 0)), (85, (.getfield 0, 88, 12, 1, 3)), (88, (.iconst 0, 89, 0, 0, 2)), (89, (.aload 0, 90, 0, 0, 0)), (90, (.getfield 0, 93, 12, 15, 3)), (93, (.iload 0, 95, 4, 0, 0)), (95, (.iaload, 96, 0, 0, 0)), (96, (.iadd, 97, 0, 0, 0)), (97, (.iaload, 98, 0, 0, 0)), (98, (.ior, 99, 0, 0, 0)), (99, (.ior, 100, 0, 0, 0)), (100, (.istore 0, 101, 3, 0, 0)), (101, (.iinc 0 0, 104, 4, 0, -1)), (104, (.goto 0, 107, 38, 0, 0)), (107, (.iload 0, 108, 3, 0, 0)), (108, (.ireturn, 109, 0, 0, 0))]
def cd_M_comes : List (Nat × ab_E) := [(0, (.aload 0, 1, 0, 0, 0)), (1, (.iconst 0, 2, 0, 0, 0)), (2, (.putfield 0, 5, 12, 0, 0)), (5, (.aload 0, 6, 0, 0, 0)), (6, (.getfield 0, 9, 12, 1, 3)), (9, (.iconst 0, 12, 0, 0, 152)), (12, (.iaload, 13, 0, 0, 0)), (13, (.iconst 0, 15, 0, 0, 6)), (15, (.if_icmp .ne 0, 18, 21, 0, 0)), (18, (.iconst 0, 20, 0, 0, -4)), (20, (.ireturn, 21, 0, 0, 0)), (21, (.aload 0, 22, 0, 0, 0)), (22, (.getfield 0, 25, 12, 1, 3)), (25, (.iconst 0, 26, 0, 0, 0)), (26, (.iaload, 27, 0, 0, 0)), (27, (.ifCond .ne 0, 30, 33, 0, 0)), (30, (.iconst 0, 32, 0, 0, -5)), (32, (.ireturn, 33, 0, 0, 0)), (33, (.iload 0, 34, 1, 0, 0)), (34, (.i2l, 35, 0, 0, 0)), (35, (.ldc2_w 0, 36, 0, 0, 1)), (36, (.aload 0, 37, 0, 0, 0)), (37, (.getfield 0, 40, 12, 1, 3)), (40, (.iconst 0, 41, 0, 0, 1)), (41, (.iaload, 42, 0, 0, 0)), (42, (.i2l, 43, 0, 0, 0)), (43, (.invokestatic 0, 46, 53, 3, 1)), (46, (.ifCond .ne 0, 49, 52, 0, 0)), (49, (.iconst 0, 51, 0, 0, -3)), (51, (.ireturn, 52, 0, 0, 0)), (52, (.aload 0, 53, 0, 0, 0)), (53, (.aload 0, 54, 0, 0, 0)), (54, (.getfield 0, 57, 12, 1, 3)), (57, (.iconst 0, 60, 0, 0, 152)), (60, (.iaload, 61, 0, 0, 0)), (61, (.iload 0, 62, 1, 0, 0)), (62, (.invokevirtual 12, 65, 86, 3, 0)), (65, (.aload 0, 66, 0, 0, 0)), (66, (.getfield 0, 69, 12, 1, 3)), (69, (.iconst 0, 72, 0, 0, 152)), (72, (.dup2, 73, 0, 0, 0)), (73, (.iaload, 74, 0, 0, 0)), (74, (.iconst 0, 75, 0, 0, 1)), (75, (.iadd, 76, 0, 0, 0)), (76, (.iastore, 77, 0, 0, 0)), (77, (.aload 0, 78, 0, 0, 0)), (78, (.getfield 0, 81, 12, 1, 3)), (81, (.iconst 0, 84, 0, 0, 152)), (84, (.iaload, 85, 0, 0, 0)), (85, (.iconst 0, 86, 0, 0, 1)), (86, (.isub, 87, 0, 0, 0)), (87, (.ireturn, 88, 0, 0, 0))]
def cd_M_of : List (Nat × ab_E) := [(0, (.aload 0, 1, 0, 0, 0)), (1, (.iconst 0, 2, 0, 0, 0)), (2, (.putfield 0, 5, 12, 0, 0)), (5, (.aload 0, 6, 0, 0, 0)), (6, (.iload 0, 7, 1, 0, 0)), (7, (.i2l, 8, 0, 0, 0)), (8, (.invokevirtual 12, 11, 75, 2, 1)), (11, (.ifCond .eq 0, 14, 32, 0, 0)), (14, (.iload 0, 15, 2, 0, 0)), (15, (.ifCond .lt 0, 18, 32, 0, 0)), (18, (.iload 0, 19, 2, 0, 0)), (19, (.i2l, 20, 0, 0, 0)), (20, (.ldc2_w 0, 23, 0, 0, 6)), (23, (.ldc2_w 0, 26, 0, 0, 9)), (26, (.invokestatic 0, 29, 53, 3, 1)), (29, (.ifCond .eq 0, 32, 35, 0, 0)), (32, (.iconst 0, 34, 0, 0, -2)), (34, (.ireturn, 35, 0, 0, 0)), (35, (.iload 0, 36, 2, 0, 0)), (36, (.iconst 0, 38, 0, 0, 9)), (38, (.if_icmp .le 0, 41, 68, 0, 0)), (41, (.iload 0, 42, 2, 0, 0)), (42, (.iconst 0, 44, 0, 0, 10)), (44, (.isub, 45, 0, 0, 0)), (45, (.aload 0, 46, 0, 0, 0)), (46, (.iload 0, 47, 1, 0, 0)), (47, (.invokevirtual 12, 50, 80, 2, 1)), (50, (.if_icmp .ge 0, 53, 65, 0, 0)), (53, (.aload 0, 54, 0, 0, 0)), (54, (.iload 0, 55, 1, 0, 0)), (55, (.iload 0, 56, 2, 0, 0)), (56, (.iconst 0, 58, 0, 0, 10)), (58, (.isub, 59, 0, 0, 0)), (59, (.invokevirtual 12, 62, 81, 3, 1)), (62, (.goto 0, 65, 67, 0, 0)), (65, (.iconst 0, 67, 0, 0, -7)), (67, (.ireturn, 68, 0, 0, 0)), (68, (.iload 0, 69, 2, 0, 0)), (69, (.lookupswitch 0 #[(0, 104), (1, 116), (2, 128), (3, 134), (4, 140)], 104, 150, 0, 0)), (104, (.aload 0, 105, 0, 0, 0)), (105, (.getfield 0, 108, 12, 1, 3)), (108, (.iload 0, 109, 1, 0, 0)), (109, (.invokestatic 0, 112, 79, 1, 1)), (112, (.iconst 0, 113, 0, 0, 0)), (113, (.iadd, 114, 0, 0, 0)), (114, (.iaload, 115, 0, 0, 0)), (115, (.ireturn, 116, 0, 0, 0)), (116, (.aload 0, 117, 0, 0, 0)), (117, (.getfield 0, 120, 12, 1, 3)), (120, (.iload 0, 121, 1, 0, 0)), (121, (.invokestatic 0, 124, 79, 1, 1)), (124, (.iconst 0, 125, 0, 0, 1)), (125, (.iadd, 126, 0, 0, 0)), (126, (.iaload, 127, 0, 0, 0)), (127, (.ireturn, 128, 0, 0, 0)), (128, (.aload 0, 129, 0, 0, 0)), (129, (.iload 0, 130, 1, 0, 0)), (130, (.invokevirtual 12, 133, 80, 2, 1)), (133, (.ireturn, 134, 0, 0, 0)), (134, (.aload 0, 135, 0, 0, 0)), (135, (.iload 0, 136, 1, 0, 0)), (136, (.invokevirtual 12, 139, 84, 2, 1)), (139, (.ireturn, 140, 0, 0, 0)), (140, (.aload 0, 141, 0, 0, 0)), (141, (.aload 0, 142, 0, 0, 0)), (142, (.iload 0, 143, 1, 0, 0)), (143, (.invokevirtual 12, 146, 84, 2, 1)), (146, (.invokevirtual 12, 149, 85, 2, 1)), (149, (.ireturn, 150, 0, 0, 0)), (150, (.aload 0, 151, 0, 0, 0)), (151, (.getfield 0, 154, 12, 1, 3)), (154, (.iload 0, 155, 1, 0, 0)), (155, (.invokestatic 0, 158, 79, 1, 1)), (158, (.iconst 0, 159, 0, 0, 3)), (159, (.iadd, 160, 0, 0, 0)), (160, (.iaload, 161, 0, 0, 0)), (161, (.ireturn, 162, 0, 0, 0))]
def cd_M_lost : List (Nat × ab_E) := [(0, (.aload 0, 1, 0, 0, 0)), (1, (.iconst 0, 2, 0, 0, 0)), (2, (.putfield 0, 5, 12, 0, 0)), (5, (.aload 0, 6, 0, 0, 0)), (6, (.iload 0, 7, 1, 0, 0)), (7, (.i2l, 8, 0, 0, 0)), (8, (.invokevirtual 12, 11, 75, 2, 1)), (11, (.ifCond .eq 0, 14, 40, 0, 0)), (14, (.aload 0, 15, 0, 0, 0)), (15, (.iload 0, 16, 2, 0, 0)), (16, (.i2l, 17, 0, 0, 0)), (17, (.invokevirtual 12, 20, 73, 2, 1)), (20, (.ifCond .eq 0, 23, 40, 0, 0)), (23, (.aload 0, 24, 0, 0, 0)), (24, (.getfield 0, 27, 12, 1, 3)), (27, (.iload 0, 28, 1, 0, 0)), (28, (.invokestatic 0, 31, 79, 1, 1)), (31, (.iconst 0, 33, 0, 0, 13)), (33, (.iadd, 34, 0, 0, 0)), (34, (.iload 0, 35, 2, 0, 0)), (35, (.iadd, 36, 0, 0, 0)), (36, (.iaload, 37, 0, 0, 0)), (37, (.goto 0, 40, 42, 0, 0)), (40, (.iconst 0, 42, 0, 0, -2)), (42, (.ireturn, 43, 0, 0, 0))]
def cd_M_hears : List (Nat × ab_E) := [(0, (.aload 0, 1, 0, 0, 0)), (1, (.iconst 0, 2, 0, 0, 0)), (2, (.putfield 0, 5, 12, 0, 0)), (5, (.aload 0, 6, 0, 0, 0)), (6, (.iload 0, 7, 1, 0, 0)), (7, (.i2l, 8, 0, 0, 0)), (8, (.invokevirtual 12, 11, 75, 2, 1)), (11, (.ifCond .eq 0, 14, 32, 0, 0)), (14, (.aload 0, 15, 0, 0, 0)), (15, (.iload 0, 16, 2, 0, 0)), (16, (.i2l, 17, 0, 0, 0)), (17, (.invokevirtual 12, 20, 73, 2, 1)), (20, (.ifCond .eq 0, 23, 32, 0, 0)), (23, (.aload 0, 24, 0, 0, 0)), (24, (.iload 0, 25, 1, 0, 0)), (25, (.iload 0, 26, 2, 0, 0)), (26, (.invokevirtual 12, 29, 87, 3, 1)), (29, (.goto 0, 32, 34, 0, 0)), (32, (.iconst 0, 34, 0, 0, -2)), (34, (.ireturn, 35, 0, 0, 0))]
def cd_M_says : List (Nat × ab_E) := [(0, (.aload 0, 1, 0, 0, 0)), (1, (.iconst 0, 2, 0, 0, 0)), (2, (.putfield 0, 5, 12, 0, 0)), (5, (.aload 0, 6, 0, 0, 0)), (6, (.iload 0, 7, 1, 0, 0)), (7, (.i2l, 8, 0, 0, 0)), (8, (.invokevirtual 12, 11, 75, 2, 1)), (11, (.ifCond .eq 0, 14, 23, 0, 0)), (14, (.aload 0, 15, 0, 0, 0)), (15, (.iload 0, 16, 2, 0, 0)), (16, (.i2l, 17, 0, 0, 0)), (17, (.invokevirtual 12, 20, 73, 2, 1)), (20, (.ifCond .ne 0, 23, 26, 0, 0)), (23, (.iconst 0, 25, 0, 0, -2)), (25, (.ireturn, 26, 0, 0, 0)), (26, (.aload 0, 27, 0, 0, 0)), (27, (.iload 0, 28, 1, 0, 0)), (28, (.iload 0, 29, 2, 0, 0)), (29, (.invokevirtual 12, 32, 83, 3, 1)), (32, (.ifCond .eq 0, 35, 44, 0, 0)), (35, (.aload 0, 36, 0, 0, 0)), (36, (.iload 0, 37, 1, 0, 0)), (37, (.iload 0, 38, 2, 0, 0)), (38, (.invokevirtual 12, 41, 88, 3, 1)), (41, (.goto 0, 44, 46, 0, 0)), (44, (.iconst 0, 46, 0, 0, -5)), (46, (.ireturn, 47, 0, 0, 0))]
def cd_M_tell : List (Nat × ab_E) := [(0, (.aload 0, 1, 0, 0, 0)), (1, (.iload 0, 2, 1, 0, 0)), (2, (.iload 0, 3, 3, 0, 0)), (3, (.invokevirtual 12, 6, 88, 3, 1)), (6, (.istore 0, 8, 4, 0, 0)), (8, (.iload 0, 10, 4, 0, 0)), (10, (.aload 0, 11, 0, 0, 0)), (11, (.iload 0, 12, 2, 0, 0)), (12, (.iload 0, 13, 3, 0, 0)), (13, (.invokevirtual 12, 16, 87, 3, 1)), (16, (.iconst 0, 17, 0, 0, -1)), (17, (.if_icmp .ne 0, 20, 24, 0, 0)), (20, (.iconst 0, 21, 0, 0, 0)), (21, (.goto 0, 24, 25, 0, 0)), (24, (.iconst 0, 25, 0, 0, 1)), (25, (.iadd, 26, 0, 0, 0)), (26, (.ireturn, 27, 0, 0, 0))]
def cd_M_tells : List (Nat × ab_E) := [(0, (.aload 0, 1, 0, 0, 0)), (1, (.iconst 0, 2, 0, 0, 0)), (2, (.putfield 0, 5, 12, 0, 0)), (5, (.aload 0, 6, 0, 0, 0)), (6, (.iload 0, 7, 1, 0, 0)), (7, (.i2l, 8, 0, 0, 0)), (8, (.invokevirtual 12, 11, 75, 2, 1)), (11, (.ifCond .eq 0, 14, 37, 0, 0)), (14, (.aload 0, 15, 0, 0, 0)), (15, (.iload 0, 16, 2, 0, 0)), (16, (.i2l, 17, 0, 0, 0)), (17, (.invokevirtual 12, 20, 75, 2, 1)), (20, (.ifCond .eq 0, 23, 37, 0, 0)), (23, (.iload 0, 24, 1, 0, 0)), (24, (.iload 0, 25, 2, 0, 0)), (25, (.if_icmp .eq 0, 28, 37, 0, 0)), (28, (.aload 0, 29, 0, 0, 0)), (29, (.iload 0, 30, 3, 0, 0)), (30, (.i2l, 31, 0, 0, 0)), (31, (.invokevirtual 12, 34, 73, 2, 1)), (34, (.ifCond .ne 0, 37, 40, 0, 0)), (37, (.iconst 0, 39, 0, 0, -2)), (39, (.ireturn, 40, 0, 0, 0)), (40, (.aload 0, 41, 0, 0, 0)), (41, (.iload 0, 42, 1, 0, 0)), (42, (.iload 0, 43, 3, 0, 0)), (43, (.invokevirtual 12, 46, 83, 3, 1)), (46, (.ifCond .eq 0, 49, 74, 0, 0)), (49, (.aload 0, 50, 0, 0, 0)), (50, (.getfield 0, 53, 12, 1, 3)), (53, (.iload 0, 54, 1, 0, 0)), (54, (.invokestatic 0, 57, 79, 1, 1)), (57, (.iconst 0, 58, 0, 0, 1)), (58, (.iadd, 59, 0, 0, 0)), (59, (.iaload, 60, 0, 0, 0)), (60, (.aload 0, 61, 0, 0, 0)), (61, (.getfield 0, 64, 12, 1, 3)), (64, (.iload 0, 65, 2, 0, 0)), (65, (.invokestatic 0, 68, 79, 1, 1)), (68, (.iconst 0, 69, 0, 0, 1)), (69, (.iadd, 70, 0, 0, 0)), (70, (.iaload, 71, 0, 0, 0)), (71, (.if_icmp .eq 0, 74, 77, 0, 0)), (74, (.iconst 0, 76, 0, 0, -5)), (76, (.ireturn, 77, 0, 0, 0)), (77, (.aload 0, 78, 0, 0, 0)), (78, (.iload 0, 79, 1, 0, 0)), (79, (.iload 0, 80, 2, 0, 0)), (80, (.iload 0, 81, 3, 0, 0)), (81, (.invokevirtual 12, 84, 96, 4, 1)), (84, (.ireturn, 85, 0, 0, 0))]
def cd_M_walks : List (Nat × ab_E) := [(0, (.aload 0, 1, 0, 0, 0)), (1, (.iconst 0, 2, 0, 0, 0)), (2, (.putfield 0, 5, 12, 0, 0)), (5, (.aload 0, 6, 0, 0, 0)), (6, (.iload 0, 7, 1, 0, 0)), (7, (.i2l, 8, 0, 0, 0)), (8, (.invokevirtual 12, 11, 75, 2, 1)), (11, (.ifCond .eq 0, 14, 32, 0, 0)), (14, (.aload 0, 15, 0, 0, 0)), (15, (.iload 0, 16, 2, 0, 0)), (16, (.i2l, 17, 0, 0, 0)), (17, (.invokevirtual 12, 20, 74, 2, 1)), (20, (.ifCond .eq 0, 23, 32, 0, 0)), (23, (.aload 0, 24, 0, 0, 0)), (24, (.iload 0, 25, 1, 0, 0)), (25, (.iload 0, 26, 2, 0, 0)), (26, (.invokevirtual 12, 29, 89, 3, 1)), (29, (.goto 0, 32, 34, 0, 0)), (32, (.iconst 0, 34, 0, 0, -2)), (34, (.ireturn, 35, 0, 0, 0))]
def cd_M_recites : List (Nat × ab_E) := [(0, (.aload 0, 1, 0, 0, 0)), (1, (.iconst 0, 2, 0, 0, 0)), (2, (.putfield 0, 5, 12, 0, 0)), (5, (.aload 0, 6, 0, 0, 0)), (6, (.iload 0, 7, 1, 0, 0)), (7, (.i2l, 8, 0, 0, 0)), (8, (.invokevirtual 12, 11, 75, 2, 1)), (11, (.ifCond .eq 0, 14, 26, 0, 0)), (14, (.iload 0, 15, 2, 0, 0)), (15, (.i2l, 16, 0, 0, 0)), (16, (.ldc2_w 0, 17, 0, 0, 0)), (17, (.ldc2_w 0, 20, 0, 0, 3)), (20, (.invokestatic 0, 23, 53, 3, 1)), (23, (.ifCond .ne 0, 26, 29, 0, 0)), (26, (.iconst 0, 28, 0, 0, -2)), (28, (.ireturn, 29, 0, 0, 0)), (29, (.aload 0, 30, 0, 0, 0)), (30, (.getfield 0, 33, 12, 37, 3)), (33, (.iload 0, 34, 2, 0, 0)), (34, (.iaload, 35, 0, 0, 0)), (35, (.iconst 0, 36, 0, 0, -1)), (36, (.if_icmp .ne 0, 39, 42, 0, 0)), (39, (.iconst 0, 41, 0, 0, -6)), (41, (.ireturn, 42, 0, 0, 0)), (42, (.iconst 0, 43, 0, 0, 0)), (43, (.istore 0, 44, 3, 0, 0)), (44, (.iconst 0, 45, 0, 0, 0)), (45, (.istore 0, 47, 4, 0, 0)), (47, (.iload 0, 49, 4, 0, 0)), (49, (.aload 0, 50, 0, 0, 0)), (50, (.getfield 0, 53, 12, 38, 3)), (53, (.iload 0, 54, 2, 0, 0)), (54, (.iaload, 55, 0, 0, 0)), (55, (.if_icmp .ge 0, 58, 113, 0, 0)), (58, (.aload 0, 59, 0, 0, 0)), (59, (.getfield 0, 62, 12, 39, 3)), (62, (.iconst 0, 64, 0, 0, 40)), (64, (.iload 0, 65, 2, 0, 0)), (65, (.imul, 66, 0, 0, 0)), (66, (.iload 0, 68, 4, 0, 0)), (68, (.iadd, 69, 0, 0, 0)), (69, (.laload, 70, 0, 0, 0)), (70, (.lstore 0, 72, 5, 0, 0)), (72, (.aload 0, 73, 0, 0, 0)), (73, (.lload 0, 75, 5, 0, 0)), (75, (.invokevirtual 12, 78, 73, 2, 1)), (78, (.ifCond .eq 0, 81, 107, 0, 0)), (81, (.aload 0, 82, 0, 0, 0)), (82, (.iload 0, 83, 1, 0, 0)), (83, (.lload 0, 85, 5, 0, 0)), (85, (.l2i, 86, 0, 0, 0)), (86, (.invokevirtual 12, 89, 83, 3, 1)), (89, (.ifCond .ne 0, 92, 95, 0, 0)), (92, (.goto 0, 95, 107, 0, 0)), (95, (.aload 0, 96, 0, 0, 0)), (96, (.iload 0, 97, 1, 0, 0)), (97, (.lload 0, 99, 5, 0, 0)), (99, (.l2i, 100, 0, 0, 0)), (100, (.invokevirtual 12, 103, 88, 3, 1)), (103, (.pop, 104, 0, 0, 0)), (104, (.iinc 0 0, 107, 3, 0, 1)), (107, (.iinc 0 0, 110, 4, 0, 1)), (110, (.goto 0, 113, 47, 0, 0)), (113, (.iload 0, 114, 3, 0, 0)), (114, (.ireturn, 115, 0, 0, 0))]
def cd_M_delivers : List (Nat × ab_E) := [(0, (.aload 0, 1, 0, 0, 0)), (1, (.iconst 0, 2, 0, 0, 0)), (2, (.putfield 0, 5, 12, 0, 0)), (5, (.aload 0, 6, 0, 0, 0)), (6, (.iload 0, 7, 1, 0, 0)), (7, (.i2l, 8, 0, 0, 0)), (8, (.invokevirtual 12, 11, 75, 2, 1)), (11, (.ifCond .eq 0, 14, 22, 0, 0)), (14, (.aload 0, 15, 0, 0, 0)), (15, (.iload 0, 16, 1, 0, 0)), (16, (.invokevirtual 12, 19, 90, 2, 1)), (19, (.goto 0, 22, 24, 0, 0)), (22, (.iconst 0, 24, 0, 0, -2)), (24, (.ireturn, 25, 0, 0, 0))]
def cd_M_isBreach : List (Nat × ab_E) := [(0, (.aload 0, 1, 0, 0, 0)), (1, (.iload 0, 2, 1, 0, 0)), (2, (.invokevirtual 12, 5, 84, 2, 1)), (5, (.istore 0, 6, 2, 0, 0)), (6, (.iconst 0, 7, 0, 0, 0)), (7, (.istore 0, 8, 3, 0, 0)), (8, (.iload 0, 9, 3, 0, 0)), (9, (.aload 0, 10, 0, 0, 0)), (10, (.getfield 0, 13, 12, 1, 3)), (13, (.iconst 0, 14, 0, 0, 0)), (14, (.iaload, 15, 0, 0, 0)), (15, (.if_icmp .ge 0, 18, 49, 0, 0)), (18, (.iload 0, 19, 2, 0, 0)), (19, (.iload 0, 20, 3, 0, 0)), (20, (.ishr, 21, 0, 0, 0)), (21, (.iconst 0, 22, 0, 0, 1)), (22, (.iand, 23, 0, 0, 0)), (23, (.iconst 0, 24, 0, 0, 1)), (24, (.if_icmp .ne 0, 27, 43, 0, 0)), (27, (.aload 0, 28, 0, 0, 0)), (28, (.getfield 0, 31, 12, 1, 3)), (31, (.iconst 0, 33, 0, 0, 18)), (33, (.iload 0, 34, 3, 0, 0)), (34, (.iadd, 35, 0, 0, 0)), (35, (.iaload, 36, 0, 0, 0)), (36, (.iload 0, 37, 2, 0, 0)), (37, (.iand, 38, 0, 0, 0)), (38, (.ifCond .eq 0, 41, 43, 0, 0)), (41, (.iconst 0, 42, 0, 0, 1)), (42, (.ireturn, 43, 1, 0, 0)), (43, (.iinc 0 0, 46, 3, 0, 1)), (46, (.goto 0, 49, 8, 0, 0)), (49, (.iconst 0, 50, 0, 0, 0)), (50, (.ireturn, 51, 1, 0, 0))]
def cd_M_breach : List (Nat × ab_E) := [(0, (.aload 0, 1, 0, 0, 0)), (1, (.iconst 0, 2, 0, 0, 0)), (2, (.putfield 0, 5, 12, 0, 0)), (5, (.iconst 0, 6, 0, 0, 0)), (6, (.istore 0, 7, 1, 0, 0)), (7, (.iload 0, 8, 1, 0, 0)), (8, (.aload 0, 9, 0, 0, 0)), (9, (.getfield 0, 12, 12, 1, 3)), (12, (.iconst 0, 15, 0, 0, 152)), (15, (.iaload, 16, 0, 0, 0)), (16, (.if_icmp .ge 0, 19, 122, 0, 0)), (19, (.aload 0, 20, 0, 0, 0)), (20, (.iload 0, 21, 1, 0, 0)), (21, (.invokevirtual 12, 24, 84, 2, 1)), (24, (.istore 0, 25, 2, 0, 0)), (25, (.iconst 0, 26, 0, 0, 0)), (26, (.istore 0, 27, 3, 0, 0)), (27, (.iload 0, 28, 3, 0, 0)), (28, (.aload 0, 29, 0, 0, 0)), (29, (.getfield 0, 32, 12, 1, 3)), (32, (.iconst 0, 33, 0, 0, 0)), (33, (.iaload, 34, 0, 0, 0)), (34, (.if_icmp .ge 0, 37, 116, 0, 0)), (37, (.iload 0, 38, 3, 0, 0)), (38, (.iconst 0, 39, 0, 0, 1)), (39, (.iadd, 40, 0, 0, 0)), (40, (.istore 0, 42, 4, 0, 0)), (42, (.iload 0, 44, 4, 0, 0)), (44, (.aload 0, 45, 0, 0, 0)), (45, (.getfield 0, 48, 12, 1, 3)), (48, (.iconst 0, 49, 0, 0, 0)), (49, (.iaload, 50, 0, 0, 0)), (50, (.if_icmp .ge 0, 53, 110, 0, 0)), (53, (.iload 0, 54, 2, 0, 0)), (54, (.iload 0, 55, 3, 0, 0)), (55, (.ishr, 56, 0, 0, 0)), (56, (.iconst 0, 57, 0, 0, 1)), (57, (.iand, 58, 0, 0, 0)), (58, (.iconst 0, 59, 0, 0, 1)), (59, (.if_icmp .ne 0, 62, 104, 0, 0)), (62, (.iload 0, 63, 2, 0, 0)), (63, (.iload 0, 65, 4, 0, 0)), (65, (.ishr, 66, 0, 0, 0)), (66, (.iconst 0, 67, 0, 0, 1)), (67, (.iand, 68, 0, 0, 0)), (68, (.iconst 0, 69, 0, 0, 1)), (69, (.if_icmp .ne 0, 72, 104, 0, 0)), (72, (.aload 0, 73, 0, 0, 0)), (73, (.getfield 0, 76, 12, 1, 3)), (76, (.iconst 0, 78, 0, 0, 18)), (78, (.iload 0, 79, 3, 0, 0)), (79, (.iadd, 80, 0, 0, 0)), (80, (.iaload, 81, 0, 0, 0)), (81, (.iload 0, 83, 4, 0, 0)), (83, (.ishr, 84, 0, 0, 0)), (84, (.iconst 0, 85, 0, 0, 1)), (85, (.iand, 86, 0, 0, 0)), (86, (.iconst 0, 87, 0, 0, 1)), (87, (.if_icmp .ne 0, 90, 104, 0, 0)), (90, (.iconst 0, 93, 0, 0, 1000)), (93, (.iload 0, 94, 1, 0, 0)), (94, (.imul, 95, 0, 0, 0)), (95, (.iconst 0, 97, 0, 0, 20)), (97, (.iload 0, 98, 3, 0, 0)), (98, (.imul, 99, 0, 0, 0)), (99, (.iadd, 100, 0, 0, 0)), (100, (.iload 0, 102, 4, 0, 0)), (102, (.iadd, 103, 0, 0, 0)), (103, (.ireturn, 104, 0, 0, 0)), (104, (.iinc 0 0, 107, 4, 0, 1)), (107, (.goto 0, 110, 42, 0, 0)), (110, (.iinc 0 0, 113, 3, 0, 1)), (113, (.goto 0, 116, 27, 0, 0)), (116, (.iinc 0 0, 119, 1, 0, 1)), (119, (.goto 0, 122, 7, 0, 0)), (122, (.iconst 0, 123, 0, 0, -1)), (123, (.ireturn, 124, 0, 0, 0))]
def cd_M_triesAs : List (Nat × ab_E) := [(0, (.iconst 0, 1, 0, 0, 0)), (1, (.istore 0, 2, 2, 0, 0)), (2, (.iload 0, 3, 2, 0, 0)), (3, (.iconst 0, 5, 0, 0, 29)), (5, (.if_icmp .ge 0, 8, 37, 0, 0)), (8, (.aload 0, 9, 0, 0, 0)), (9, (.getfield 0, 12, 12, 1, 3)), (12, (.iconst 0, 14, 0, 0, 6)), (14, (.invokestatic 0, 17, 79, 1, 1)), (17, (.iload 0, 18, 2, 0, 0)), (18, (.iadd, 19, 0, 0, 0)), (19, (.aload 0, 20, 0, 0, 0)), (20, (.getfield 0, 23, 12, 1, 3)), (23, (.iload 0, 24, 1, 0, 0)), (24, (.invokestatic 0, 27, 79, 1, 1)), (27, (.iload 0, 28, 2, 0, 0)), (28, (.iadd, 29, 0, 0, 0)), (29, (.iaload, 30, 0, 0, 0)), (30, (.iastore, 31, 0, 0, 0)), (31, (.iinc 0 0, 34, 2, 0, 1)), (34, (.goto 0, 37, 2, 0, 0)), (37, (.return_, 38, 0, 0, 0))]
def cd_M_risk : List (Nat × ab_E) := [(0, (.aload 0, 1, 0, 0, 0)), (1, (.iconst 0, 2, 0, 0, 0)), (2, (.putfield 0, 5, 12, 0, 0)), (5, (.aload 0, 6, 0, 0, 0)), (6, (.iload 0, 7, 1, 0, 0)), (7, (.i2l, 8, 0, 0, 0)), (8, (.invokevirtual 12, 11, 75, 2, 1)), (11, (.ifCond .eq 0, 14, 23, 0, 0)), (14, (.aload 0, 15, 0, 0, 0)), (15, (.iload 0, 16, 2, 0, 0)), (16, (.i2l, 17, 0, 0, 0)), (17, (.invokevirtual 12, 20, 73, 2, 1)), (20, (.ifCond .ne 0, 23, 26, 0, 0)), (23, (.iconst 0, 25, 0, 0, -2)), (25, (.ireturn, 26, 0, 0, 0)), (26, (.aload 0, 27, 0, 0, 0)), (27, (.iload 0, 28, 1, 0, 0)), (28, (.invokevirtual 12, 31, 103, 2, 0)), (31, (.aload 0, 32, 0, 0, 0)), (32, (.iconst 0, 34, 0, 0, 6)), (34, (.iload 0, 35, 2, 0, 0)), (35, (.invokevirtual 12, 38, 87, 3, 1)), (38, (.pop, 39, 0, 0, 0)), (39, (.aload 0, 40, 0, 0, 0)), (40, (.iconst 0, 42, 0, 0, 6)), (42, (.invokevirtual 12, 45, 101, 2, 1)), (45, (.ifCond .eq 0, 48, 52, 0, 0)), (48, (.iconst 0, 49, 0, 0, 1)), (49, (.goto 0, 52, 53, 0, 0)), (52, (.iconst 0, 53, 0, 0, 0)), (53, (.ireturn, 54, 0, 0, 0))]
def cd_M_loud : List (Nat × ab_E) := [(0, (.aload 0, 1, 0, 0, 0)), (1, (.iconst 0, 2, 0, 0, 0)), (2, (.putfield 0, 5, 12, 0, 0)), (5, (.aload 0, 6, 0, 0, 0)), (6, (.iload 0, 7, 1, 0, 0)), (7, (.i2l, 8, 0, 0, 0)), (8, (.invokevirtual 12, 11, 74, 2, 1)), (11, (.ifCond .eq 0, 14, 23, 0, 0)), (14, (.aload 0, 15, 0, 0, 0)), (15, (.iload 0, 16, 2, 0, 0)), (16, (.i2l, 17, 0, 0, 0)), (17, (.invokevirtual 12, 20, 74, 2, 1)), (20, (.ifCond .ne 0, 23, 26, 0, 0)), (23, (.iconst 0, 25, 0, 0, -2)), (25, (.ireturn, 26, 0, 0, 0)), (26, (.iconst 0, 27, 0, 0, 0)), (27, (.istore 0, 28, 3, 0, 0)), (28, (.iload 0, 29, 1, 0, 0)), (29, (.istore 0, 31, 4, 0, 0)), (31, (.iload 0, 33, 4, 0, 0)), (33, (.iload 0, 34, 2, 0, 0)), (34, (.if_icmp .eq 0, 37, 101, 0, 0)), (37, (.iload 0, 39, 4, 0, 0)), (39, (.iload 0, 40, 2, 0, 0)), (40, (.iload 0, 42, 4, 0, 0)), (42, (.if_icmp .le 0, 45, 49, 0, 0)), (45, (.iconst 0, 46, 0, 0, 1)), (46, (.goto 0, 49, 50, 0, 0)), (49, (.iconst 0, 50, 0, 0, -1)), (50, (.iadd, 51, 0, 0, 0)), (51, (.istore 0, 53, 4, 0, 0)), (53, (.iconst 0, 54, 0, 0, 0)), (54, (.istore 0, 56, 5, 0, 0)), (56, (.iload 0, 58, 5, 0, 0)), (58, (.aload 0, 59, 0, 0, 0)), (59, (.getfield 0, 62, 12, 1, 3)), (62, (.iconst 0, 64, 0, 0, 51)), (64, (.iload 0, 66, 4, 0, 0)), (66, (.iadd, 67, 0, 0, 0)), (67, (.iaload, 68, 0, 0, 0)), (68, (.if_icmp .ge 0, 71, 98, 0, 0)), (71, (.iload 0, 72, 3, 0, 0)), (72, (.iconst 0, 73, 0, 0, 1)), (73, (.aload 0, 74, 0, 0, 0)), (74, (.getfield 0, 77, 12, 1, 3)), (77, (.iconst 0, 79, 0, 0, 61)), (79, (.iconst 0, 81, 0, 0, 9)), (81, (.iload 0, 83, 4, 0, 0)), (83, (.imul, 84, 0, 0, 0)), (84, (.iadd, 85, 0, 0, 0)), (85, (.iload 0, 87, 5, 0, 0)), (87, (.iadd, 88, 0, 0, 0)), (88, (.iaload, 89, 0, 0, 0)), (89, (.ishl, 90, 0, 0, 0)), (90, (.ior, 91, 0, 0, 0)), (91, (.istore 0, 92, 3, 0, 0)), (92, (.iinc 0 0, 95, 5, 0, 1)), (95, (.goto 0, 98, 56, 0, 0)), (98, (.goto 0, 101, 31, 0, 0)), (101, (.iload 0, 102, 3, 0, 0)), (102, (.invokestatic 0, 105, 106, 1, 1)), (105, (.ireturn, 106, 0, 0, 0))]
def cd_M_bitsOf : List (Nat × ab_E) := [(0, (.iconst 0, 1, 0, 0, 0)), (1, (.istore 0, 2, 1, 0, 0)), (2, (.iconst 0, 3, 0, 0, 0)), (3, (.istore 0, 4, 2, 0, 0)), (4, (.iload 0, 5, 2, 0, 0)), (5, (.iconst 0, 7, 0, 0, 16)), (7, (.if_icmp .ge 0, 10, 24, 0, 0)), (10, (.iload 0, 11, 1, 0, 0)), (11, (.iload 0, 12, 0, 0, 0)), (12, (.iload 0, 13, 2, 0, 0)), (13, (.ishr, 14, 0, 0, 0)), (14, (.iconst 0, 15, 0, 0, 1)), (15, (.iand, 16, 0, 0, 0)), (16, (.iadd, 17, 0, 0, 0)), (17, (.istore 0, 18, 1, 0, 0)), (18, (.iinc 0 0, 21, 2, 0, 1)), (21, (.goto 0, 24, 4, 0, 0)), (24, (.iload 0, 25, 1, 0, 0)), (25, (.ireturn, 26, 0, 0, 0))]
def cd_M_turned : List (Nat × ab_E) := [(0, (.aload 0, 1, 0, 0, 0)), (1, (.iconst 0, 2, 0, 0, 0)), (2, (.putfield 0, 5, 12, 0, 0)), (5, (.aload 0, 6, 0, 0, 0)), (6, (.iload 0, 7, 1, 0, 0)), (7, (.i2l, 8, 0, 0, 0)), (8, (.invokevirtual 12, 11, 75, 2, 1)), (11, (.ifCond .eq 0, 14, 23, 0, 0)), (14, (.aload 0, 15, 0, 0, 0)), (15, (.iload 0, 16, 2, 0, 0)), (16, (.i2l, 17, 0, 0, 0)), (17, (.invokevirtual 12, 20, 75, 2, 1)), (20, (.ifCond .ne 0, 23, 26, 0, 0)), (23, (.iconst 0, 25, 0, 0, -2)), (25, (.ireturn, 26, 0, 0, 0)), (26, (.iconst 0, 27, 0, 0, 0)), (27, (.istore 0, 28, 3, 0, 0)), (28, (.iconst 0, 29, 0, 0, 0)), (29, (.istore 0, 31, 4, 0, 0)), (31, (.iload 0, 33, 4, 0, 0)), (33, (.aload 0, 34, 0, 0, 0)), (34, (.iload 0, 35, 1, 0, 0)), (35, (.invokevirtual 12, 38, 80, 2, 1)), (38, (.if_icmp .ge 0, 41, 124, 0, 0)), (41, (.iload 0, 43, 4, 0, 0)), (43, (.iconst 0, 44, 0, 0, 1)), (44, (.iadd, 45, 0, 0, 0)), (45, (.istore 0, 47, 5, 0, 0)), (47, (.iload 0, 49, 5, 0, 0)), (49, (.aload 0, 50, 0, 0, 0)), (50, (.iload 0, 51, 1, 0, 0)), (51, (.invokevirtual 12, 54, 80, 2, 1)), (54, (.if_icmp .ge 0, 57, 118, 0, 0)), (57, (.aload 0, 58, 0, 0, 0)), (58, (.iload 0, 59, 2, 0, 0)), (59, (.aload 0, 60, 0, 0, 0)), (60, (.iload 0, 61, 1, 0, 0)), (61, (.iload 0, 63, 4, 0, 0)), (63, (.invokevirtual 12, 66, 81, 3, 1)), (66, (.invokevirtual 12, 69, 82, 3, 1)), (69, (.istore 0, 71, 6, 0, 0)), (71, (.aload 0, 72, 0, 0, 0)), (72, (.iload 0, 73, 2, 0, 0)), (73, (.aload 0, 74, 0, 0, 0)), (74, (.iload 0, 75, 1, 0, 0)), (75, (.iload 0, 77, 5, 0, 0)), (77, (.invokevirtual 12, 80, 81, 3, 1)), (80, (.invokevirtual 12, 83, 82, 3, 1)), (83, (.istore 0, 85, 7, 0, 0)), (85, (.iload 0, 86, 3, 0, 0)), (86, (.iload 0, 88, 6, 0, 0)), (88, (.iconst 0, 89, 0, 0, -1)), (89, (.if_icmp .eq 0, 92, 109, 0, 0)), (92, (.iload 0, 94, 7, 0, 0)), (94, (.iconst 0, 95, 0, 0, -1)), (95, (.if_icmp .eq 0, 98, 109, 0, 0)), (98, (.iload 0, 100, 6, 0, 0)), (100, (.iload 0, 102, 7, 0, 0)), (102, (.if_icmp .le 0, 105, 109, 0, 0)), (105, (.iconst 0, 106, 0, 0, 1)), (106, (.goto 0, 109, 110, 0, 0)), (109, (.iconst 0, 110, 0, 0, 0)), (110, (.iadd, 111, 0, 0, 0)), (111, (.istore 0, 112, 3, 0, 0)), (112, (.iinc 0 0, 115, 5, 0, 1)), (115, (.goto 0, 118, 47, 0, 0)), (118, (.iinc 0 0, 121, 4, 0, 1)), (121, (.goto 0, 124, 31, 0, 0)), (124, (.iload 0, 125, 3, 0, 0)), (125, (.ireturn, 126, 0, 0, 0))]
def cd_M_acts : List (Nat × ab_E) := [(0, (.lload 0, 1, 2, 0, 0)), (1, (.ldc2_w 0, 2, 0, 0, 0)), (2, (.lcmp, 3, 0, 0, 0)), (3, (.ifCond .lt 0, 6, 34, 0, 0)), (6, (.lload 0, 7, 2, 0, 0)), (7, (.ldc2_w 0, 10, 0, 0, 16)), (10, (.lcmp, 11, 0, 0, 0)), (11, (.ifCond .ge 0, 14, 34, 0, 0)), (14, (.aload 0, 15, 0, 0, 0)), (15, (.lload 0, 16, 2, 0, 0)), (16, (.invokevirtual 12, 19, 73, 2, 1)), (19, (.ifCond .ne 0, 22, 24, 0, 0)), (22, (.iconst 0, 23, 0, 0, 0)), (23, (.ireturn, 24, 1, 0, 0)), (24, (.aload 0, 25, 0, 0, 0)), (25, (.iload 0, 26, 1, 0, 0)), (26, (.lload 0, 27, 2, 0, 0)), (27, (.l2i, 28, 0, 0, 0)), (28, (.invokevirtual 12, 31, 87, 3, 1)), (31, (.pop, 32, 0, 0, 0)), (32, (.iconst 0, 33, 0, 0, 1)), (33, (.ireturn, 34, 1, 0, 0)), (34, (.lload 0, 35, 2, 0, 0)), (35, (.ldc2_w 0, 38, 0, 0, 20)), (38, (.lcmp, 39, 0, 0, 0)), (39, (.ifCond .lt 0, 42, 90, 0, 0)), (42, (.lload 0, 43, 2, 0, 0)), (43, (.ldc2_w 0, 46, 0, 0, 36)), (46, (.lcmp, 47, 0, 0, 0)), (47, (.ifCond .ge 0, 50, 90, 0, 0)), (50, (.aload 0, 51, 0, 0, 0)), (51, (.lload 0, 52, 2, 0, 0)), (52, (.ldc2_w 0, 55, 0, 0, 20)), (55, (.lsub, 56, 0, 0, 0)), (56, (.invokevirtual 12, 59, 73, 2, 1)), (59, (.ifCond .eq 0, 62, 75, 0, 0)), (62, (.aload 0, 63, 0, 0, 0)), (63, (.iload 0, 64, 1, 0, 0)), (64, (.lload 0, 65, 2, 0, 0)), (65, (.l2i, 66, 0, 0, 0)), (66, (.iconst 0, 68, 0, 0, 20)), (68, (.isub, 69, 0, 0, 0)), (69, (.invokevirtual 12, 72, 83, 3, 1)), (72, (.ifCond .ne 0, 75, 77, 0, 0)), (75, (.iconst 0, 76, 0, 0, 0)), (76, (.ireturn, 77, 1, 0, 0)), (77, (.aload 0, 78, 0, 0, 0)), (78, (.iload 0, 79, 1, 0, 0)), (79, (.lload 0, 80, 2, 0, 0)), (80, (.l2i, 81, 0, 0, 0)), (81, (.iconst 0, 83, 0, 0, 20)), (83, (.isub, 84, 0, 0, 0)), (84, (.invokevirtual 12, 87, 88, 3, 1)), (87, (.pop, 88, 0, 0, 0)), (88, (.iconst 0, 89, 0, 0, 1)), (89, (.ireturn, 90, 1, 0, 0)), (90, (.lload 0, 91, 2, 0, 0)), (91, (.ldc2_w 0, 94, 0, 0, 40)), (94, (.lcmp, 95, 0, 0, 0)), (95, (.ifCond .lt 0, 98, 133, 0, 0)), (98, (.lload 0, 99, 2, 0, 0)), (99, (.ldc2_w 0, 102, 0, 0, 50)), (102, (.lcmp, 103, 0, 0, 0)), (103, (.ifCond .ge 0, 106, 133, 0, 0)), (106, (.aload 0, 107, 0, 0, 0)), (107, (.lload 0, 108, 2, 0, 0)), (108, (.ldc2_w 0, 111, 0, 0, 40)), (111, (.lsub, 112, 0, 0, 0)), (112, (.invokevirtual 12, 115, 74, 2, 1)), (115, (.ifCond .ne 0, 118, 120, 0, 0)), (118, (.iconst 0, 119, 0, 0, 0)), (119, (.ireturn, 120, 1, 0, 0)), (120, (.aload 0, 121, 0, 0, 0)), (121, (.iload 0, 122, 1, 0, 0)), (122, (.lload 0, 123, 2, 0, 0)), (123, (.l2i, 124, 0, 0, 0)), (124, (.iconst 0, 126, 0, 0, 40)), (126, (.isub, 127, 0, 0, 0)), (127, (.invokevirtual 12, 130, 89, 3, 1)), (130, (.pop, 131, 0, 0, 0)), (131, (.iconst 0, 132, 0, 0, 1)), (132, (.ireturn, 133, 1, 0, 0)), (133, (.lload 0, 134, 2, 0, 0)), (134, (.ldc2_w 0, 137, 0, 0, 60)), (137, (.lcmp, 138, 0, 0, 0)), (138, (.ifCond .lt 0, 141, 164, 0, 0)), (141, (.aload 0, 142, 0, 0, 0)), (142, (.lload 0, 143, 2, 0, 0)), (143, (.ldc2_w 0, 146, 0, 0, 60)), (146, (.lsub, 147, 0, 0, 0)), (147, (.invokevirtual 12, 150, 75, 2, 1)), (150, (.ifCond .eq 0, 153, 164, 0, 0)), (153, (.lload 0, 154, 2, 0, 0)), (154, (.ldc2_w 0, 157, 0, 0, 60)), (157, (.lsub, 158, 0, 0, 0)), (158, (.iload 0, 159, 1, 0, 0)), (159, (.i2l, 160, 0, 0, 0)), (160, (.lcmp, 161, 0, 0, 0)), (161, (.ifCond .ne 0, 164, 166, 0, 0)), (164, (.iconst 0, 165, 0, 0, 0)), (165, (.ireturn, 166, 1, 0, 0)), (166, (.lload 0, 167, 2, 0, 0)), (167, (.l2i, 168, 0, 0, 0)), (168, (.iconst 0, 170, 0, 0, 60)), (170, (.isub, 171, 0, 0, 0)), (171, (.istore 0, 173, 4, 0, 0)), (173, (.aload 0, 174, 0, 0, 0)), (174, (.getfield 0, 177, 12, 1, 3)), (177, (.iload 0, 179, 4, 0, 0)), (179, (.invokestatic 0, 182, 79, 1, 1)), (182, (.iconst 0, 183, 0, 0, 1)), (183, (.iadd, 184, 0, 0, 0)), (184, (.iaload, 185, 0, 0, 0)), (185, (.aload 0, 186, 0, 0, 0)), (186, (.getfield 0, 189, 12, 1, 3)), (189, (.iload 0, 190, 1, 0, 0)), (190, (.invokestatic 0, 193, 79, 1, 1)), (193, (.iconst 0, 194, 0, 0, 1)), (194, (.iadd, 195, 0, 0, 0)), (195, (.iaload, 196, 0, 0, 0)), (196, (.if_icmp .eq 0, 199, 201, 0, 0)), (199, (.iconst 0, 200, 0, 0, 0)), (200, (.ireturn, 201, 1, 0, 0)), (201, (.aload 0, 202, 0, 0, 0)), (202, (.iload 0, 204, 4, 0, 0)), (204, (.invokevirtual 12, 207, 80, 2, 1)), (207, (.istore 0, 209, 5, 0, 0)), (209, (.iconst 0, 210, 0, 0, 0)), (210, (.istore 0, 212, 6, 0, 0)), (212, (.iload 0, 214, 6, 0, 0)), (214, (.iload 0, 216, 5, 0, 0)), (216, (.if_icmp .ge 0, 219, 240, 0, 0)), (219, (.aload 0, 220, 0, 0, 0)), (220, (.getfield 0, 223, 12, 15, 3)), (223, (.iload 0, 225, 6, 0, 0)), (225, (.aload 0, 226, 0, 0, 0)), (226, (.iload 0, 228, 4, 0, 0)), (228, (.iload 0, 230, 6, 0, 0)), (230, (.invokevirtual 12, 233, 81, 3, 1)), (233, (.iastore, 234, 0, 0, 0)), (234, (.iinc 0 0, 237, 6, 0, 1)), (237, (.goto 0, 240, 212, 0, 0)), (240, (.iconst 0, 241, 0, 0, 0)), (241, (.istore 0, 243, 6, 0, 0)), (243, (.iload 0, 245, 6, 0, 0)), (245, (.iload 0, 247, 5, 0, 0)), (247, (.if_icmp .ge 0, 250, 287, 0, 0)), (250, (.aload 0, 251, 0, 0, 0)), (251, (.iload 0, 253, 4, 0, 0)), (253, (.aload 0, 254, 0, 0, 0)), (254, (.getfield 0, 257, 12, 15, 3)), (257, (.iload 0, 259, 6, 0, 0)), (259, (.iaload, 260, 0, 0, 0)), (260, (.invokevirtual 12, 263, 83, 3, 1)), (263, (.ifCond .eq 0, 266, 281, 0, 0)), (266, (.aload 0, 267, 0, 0, 0)), (267, (.iload 0, 269, 4, 0, 0)), (269, (.iload 0, 270, 1, 0, 0)), (270, (.aload 0, 271, 0, 0, 0)), (271, (.getfield 0, 274, 12, 15, 3)), (274, (.iload 0, 276, 6, 0, 0)), (276, (.iaload, 277, 0, 0, 0)), (277, (.invokevirtual 12, 280, 96, 4, 1)), (280, (.pop, 281, 0, 0, 0)), (281, (.iinc 0 0, 284, 6, 0, 1)), (284, (.goto 0, 287, 243, 0, 0)), (287, (.iconst 0, 288, 0, 0, 1)), (288, (.ireturn, 289, 1, 0, 0))]
def cd_M_actsAll : List (Nat × ab_E) := [(0, (.aload 0, 1, 0, 0, 0)), (1, (.iconst 0, 2, 0, 0, 0)), (2, (.putfield 0, 5, 12, 17, 0)), (5, (.iconst 0, 6, 0, 0, 0)), (6, (.istore 0, 7, 3, 0, 0)), (7, (.iload 0, 8, 3, 0, 0)), (8, (.aload 0, 9, 0, 0, 0)), (9, (.getfield 0, 12, 12, 38, 3)), (12, (.iload 0, 13, 2, 0, 0)), (13, (.iaload, 14, 0, 0, 0)), (14, (.if_icmp .ge 0, 17, 66, 0, 0)), (17, (.aload 0, 18, 0, 0, 0)), (18, (.iload 0, 19, 1, 0, 0)), (19, (.aload 0, 20, 0, 0, 0)), (20, (.getfield 0, 23, 12, 39, 3)), (23, (.iconst 0, 25, 0, 0, 40)), (25, (.iload 0, 26, 2, 0, 0)), (26, (.imul, 27, 0, 0, 0)), (27, (.iload 0, 28, 3, 0, 0)), (28, (.iadd, 29, 0, 0, 0)), (29, (.laload, 30, 0, 0, 0)), (30, (.invokevirtual 12, 33, 108, 3, 1)), (33, (.ifCond .ne 0, 36, 38, 0, 0)), (36, (.iload 0, 37, 3, 0, 0)), (37, (.ireturn, 38, 0, 0, 0)), (38, (.aload 0, 39, 0, 0, 0)), (39, (.dup, 40, 0, 0, 0)), (40, (.getfield 0, 43, 12, 17, 0)), (43, (.aload 0, 44, 0, 0, 0)), (44, (.iload 0, 45, 1, 0, 0)), (45, (.invokevirtual 12, 48, 101, 2, 1)), (48, (.ifCond .eq 0, 51, 55, 0, 0)), (51, (.iconst 0, 52, 0, 0, 1)), (52, (.goto 0, 55, 56, 0, 0)), (55, (.iconst 0, 56, 0, 0, 0)), (56, (.iadd, 57, 0, 0, 0)), (57, (.putfield 0, 60, 12, 17, 0)), (60, (.iinc 0 0, 63, 3, 0, 1)), (63, (.goto 0, 66, 7, 0, 0)), (66, (.aload 0, 67, 0, 0, 0)), (67, (.getfield 0, 70, 12, 38, 3)), (70, (.iload 0, 71, 2, 0, 0)), (71, (.iaload, 72, 0, 0, 0)), (72, (.ireturn, 73, 0, 0, 0))]
def cd_M_judge : List (Nat × ab_E) := [(0, (.aload 0, 1, 0, 0, 0)), (1, (.iconst 0, 2, 0, 0, 0)), (2, (.putfield 0, 5, 12, 0, 0)), (5, (.aload 0, 6, 0, 0, 0)), (6, (.iload 0, 7, 1, 0, 0)), (7, (.i2l, 8, 0, 0, 0)), (8, (.invokevirtual 12, 11, 75, 2, 1)), (11, (.ifCond .eq 0, 14, 38, 0, 0)), (14, (.iload 0, 15, 2, 0, 0)), (15, (.i2l, 16, 0, 0, 0)), (16, (.ldc2_w 0, 17, 0, 0, 0)), (17, (.ldc2_w 0, 20, 0, 0, 3)), (20, (.invokestatic 0, 23, 53, 3, 1)), (23, (.ifCond .eq 0, 26, 38, 0, 0)), (26, (.iload 0, 27, 3, 0, 0)), (27, (.i2l, 28, 0, 0, 0)), (28, (.ldc2_w 0, 29, 0, 0, 0)), (29, (.ldc2_w 0, 32, 0, 0, 3)), (32, (.invokestatic 0, 35, 53, 3, 1)), (35, (.ifCond .ne 0, 38, 41, 0, 0)), (38, (.iconst 0, 40, 0, 0, -2)), (40, (.ireturn, 41, 0, 0, 0)), (41, (.aload 0, 42, 0, 0, 0)), (42, (.getfield 0, 45, 12, 37, 3)), (45, (.iload 0, 46, 2, 0, 0)), (46, (.iaload, 47, 0, 0, 0)), (47, (.iconst 0, 48, 0, 0, -1)), (48, (.if_icmp .ne 0, 51, 54, 0, 0)), (51, (.iconst 0, 53, 0, 0, -6)), (53, (.ireturn, 54, 0, 0, 0)), (54, (.iconst 0, 55, 0, 0, 0)), (55, (.istore 0, 57, 4, 0, 0)), (57, (.iload 0, 59, 4, 0, 0)), (59, (.iconst 0, 62, 0, 0, 204)), (62, (.if_icmp .ge 0, 65, 89, 0, 0)), (65, (.aload 0, 66, 0, 0, 0)), (66, (.getfield 0, 69, 12, 16, 3)), (69, (.iload 0, 71, 4, 0, 0)), (71, (.aload 0, 72, 0, 0, 0)), (72, (.getfield 0, 75, 12, 1, 3)), (75, (.iconst 0, 78, 0, 0, 152)), (78, (.iload 0, 80, 4, 0, 0)), (80, (.iadd, 81, 0, 0, 0)), (81, (.iaload, 82, 0, 0, 0)), (82, (.iastore, 83, 0, 0, 0)), (83, (.iinc 0 0, 86, 4, 0, 1)), (86, (.goto 0, 89, 57, 0, 0)), (89, (.aload 0, 90, 0, 0, 0)), (90, (.iload 0, 91, 1, 0, 0)), (91, (.iload 0, 92, 2, 0, 0)), (92, (.invokevirtual 12, 95, 109, 3, 1)), (95, (.istore 0, 97, 4, 0, 0)), (97, (.aload 0, 98, 0, 0, 0)), (98, (.getfield 0, 101, 12, 1, 3)), (101, (.iload 0, 102, 1, 0, 0)), (102, (.invokestatic 0, 105, 79, 1, 1)), (105, (.iconst 0, 106, 0, 0, 3)), (106, (.iadd, 107, 0, 0, 0)), (107, (.iaload, 108, 0, 0, 0)), (108, (.aload 0, 109, 0, 0, 0)), (109, (.getfield 0, 112, 12, 16, 3)), (112, (.iload 0, 113, 1, 0, 0)), (113, (.invokestatic 0, 116, 79, 1, 1)), (116, (.iconst 0, 117, 0, 0, 3)), (117, (.iadd, 118, 0, 0, 0)), (118, (.iconst 0, 121, 0, 0, 152)), (121, (.isub, 122, 0, 0, 0)), (122, (.iaload, 123, 0, 0, 0)), (123, (.isub, 124, 0, 0, 0)), (124, (.istore 0, 126, 5, 0, 0)), (126, (.aload 0, 127, 0, 0, 0)), (127, (.iload 0, 128, 1, 0, 0)), (128, (.invokevirtual 12, 131, 84, 2, 1)), (131, (.istore 0, 133, 6, 0, 0)), (133, (.iconst 0, 134, 0, 0, 0)), (134, (.istore 0, 136, 7, 0, 0)), (136, (.iload 0, 138, 7, 0, 0)), (138, (.iconst 0, 141, 0, 0, 204)), (141, (.if_icmp .ge 0, 144, 168, 0, 0)), (144, (.aload 0, 145, 0, 0, 0)), (145, (.getfield 0, 148, 12, 1, 3)), (148, (.iconst 0, 151, 0, 0, 152)), (151, (.iload 0, 153, 7, 0, 0)), (153, (.iadd, 154, 0, 0, 0)), (154, (.aload 0, 155, 0, 0, 0)), (155, (.getfield 0, 158, 12, 16, 3)), (158, (.iload 0, 160, 7, 0, 0)), (160, (.iaload, 161, 0, 0, 0)), (161, (.iastore, 162, 0, 0, 0)), (162, (.iinc 0 0, 165, 7, 0, 1)), (165, (.goto 0, 168, 136, 0, 0)), (168, (.iload 0, 169, 3, 0, 0)), (169, (.ifCond .ne 0, 172, 192, 0, 0)), (172, (.iload 0, 174, 4, 0, 0)), (174, (.aload 0, 175, 0, 0, 0)), (175, (.getfield 0, 178, 12, 38, 3)), (178, (.iload 0, 179, 2, 0, 0)), (179, (.iaload, 180, 0, 0, 0)), (180, (.if_icmp .ne 0, 183, 187, 0, 0)), (183, (.iconst 0, 184, 0, 0, -1)), (184, (.goto 0, 187, 216, 0, 0)), (187, (.iload 0, 189, 4, 0, 0)), (189, (.goto 0, 192, 216, 0, 0)), (192, (.iload 0, 193, 3, 0, 0)), (193, (.iconst 0, 194, 0, 0, 1)), (194, (.if_icmp .ne 0, 197, 202, 0, 0)), (197, (.iload 0, 199, 5, 0, 0)), (199, (.goto 0, 202, 216, 0, 0)), (202, (.iload 0, 203, 3, 0, 0)), (203, (.iconst 0, 204, 0, 0, 2)), (204, (.if_icmp .ne 0, 207, 212, 0, 0)), (207, (.iload 0, 209, 6, 0, 0)), (209, (.goto 0, 212, 216, 0, 0)), (212, (.aload 0, 213, 0, 0, 0)), (213, (.getfield 0, 216, 12, 17, 0)), (216, (.ireturn, 217, 0, 0, 0))]
def cd_M_perform : List (Nat × ab_E) := [(0, (.aload 0, 1, 0, 0, 0)), (1, (.iconst 0, 2, 0, 0, 0)), (2, (.putfield 0, 5, 12, 0, 0)), (5, (.aload 0, 6, 0, 0, 0)), (6, (.iload 0, 7, 1, 0, 0)), (7, (.i2l, 8, 0, 0, 0)), (8, (.invokevirtual 12, 11, 75, 2, 1)), (11, (.ifCond .eq 0, 14, 26, 0, 0)), (14, (.iload 0, 15, 2, 0, 0)), (15, (.i2l, 16, 0, 0, 0)), (16, (.ldc2_w 0, 17, 0, 0, 0)), (17, (.ldc2_w 0, 20, 0, 0, 3)), (20, (.invokestatic 0, 23, 53, 3, 1)), (23, (.ifCond .ne 0, 26, 29, 0, 0)), (26, (.iconst 0, 28, 0, 0, -2)), (28, (.ireturn, 29, 0, 0, 0)), (29, (.aload 0, 30, 0, 0, 0)), (30, (.getfield 0, 33, 12, 37, 3)), (33, (.iload 0, 34, 2, 0, 0)), (34, (.iaload, 35, 0, 0, 0)), (35, (.iconst 0, 36, 0, 0, -1)), (36, (.if_icmp .ne 0, 39, 42, 0, 0)), (39, (.iconst 0, 41, 0, 0, -6)), (41, (.ireturn, 42, 0, 0, 0)), (42, (.aload 0, 43, 0, 0, 0)), (43, (.iload 0, 44, 1, 0, 0)), (44, (.iload 0, 45, 2, 0, 0)), (45, (.invokevirtual 12, 48, 109, 3, 1)), (48, (.ireturn, 49, 0, 0, 0))]
def cd_M_draw : List (Nat × ab_E) := [(0, (.aload 0, 1, 0, 0, 0)), (1, (.iconst 0, 4, 0, 0, 1103515245)), (4, (.aload 0, 5, 0, 0, 0)), (5, (.getfield 0, 8, 12, 18, 0)), (8, (.imul, 9, 0, 0, 0)), (9, (.iconst 0, 12, 0, 0, 12345)), (12, (.iadd, 13, 0, 0, 0)), (13, (.putfield 0, 16, 12, 18, 0)), (16, (.aload 0, 17, 0, 0, 0)), (17, (.getfield 0, 20, 12, 18, 0)), (20, (.iconst 0, 22, 0, 0, 16)), (22, (.iushr, 23, 0, 0, 0)), (23, (.iload 0, 24, 1, 0, 0)), (24, (.irem, 25, 0, 0, 0)), (25, (.ireturn, 26, 0, 0, 0))]
def cd_M_day : List (Nat × ab_E) := [(0, (.aload 0, 1, 0, 0, 0)), (1, (.iconst 0, 2, 0, 0, 0)), (2, (.putfield 0, 5, 12, 0, 0)), (5, (.aload 0, 6, 0, 0, 0)), (6, (.getfield 0, 9, 12, 1, 3)), (9, (.iconst 0, 12, 0, 0, 152)), (12, (.iaload, 13, 0, 0, 0)), (13, (.ifCond .ne 0, 16, 19, 0, 0)), (16, (.iconst 0, 18, 0, 0, -5)), (18, (.ireturn, 19, 0, 0, 0)), (19, (.iload 0, 20, 2, 0, 0)), (20, (.i2l, 21, 0, 0, 0)), (21, (.ldc2_w 0, 22, 0, 0, 1)), (22, (.ldc2_w 0, 25, 0, 0, 40)), (25, (.invokestatic 0, 28, 53, 3, 1)), (28, (.ifCond .ne 0, 31, 34, 0, 0)), (31, (.iconst 0, 33, 0, 0, -3)), (33, (.ireturn, 34, 0, 0, 0)), (34, (.aload 0, 35, 0, 0, 0)), (35, (.iload 0, 36, 1, 0, 0)), (36, (.putfield 0, 39, 12, 18, 0)), (39, (.iconst 0, 40, 0, 0, 0)), (40, (.istore 0, 41, 3, 0, 0)), (41, (.iconst 0, 42, 0, 0, 0)), (42, (.istore 0, 44, 4, 0, 0)), (44, (.iload 0, 46, 4, 0, 0)), (46, (.iload 0, 47, 2, 0, 0)), (47, (.if_icmp .ge 0, 50, 194, 0, 0)), (50, (.iconst 0, 51, 0, 0, 0)), (51, (.istore 0, 53, 5, 0, 0)), (53, (.iload 0, 55, 5, 0, 0)), (55, (.aload 0, 56, 0, 0, 0)), (56, (.getfield 0, 59, 12, 1, 3)), (59, (.iconst 0, 62, 0, 0, 152)), (62, (.iaload, 63, 0, 0, 0)), (63, (.if_icmp .ge 0, 66, 188, 0, 0)), (66, (.aload 0, 67, 0, 0, 0)), (67, (.iconst 0, 68, 0, 0, 4)), (68, (.invokevirtual 12, 71, 112, 2, 1)), (71, (.istore 0, 73, 6, 0, 0)), (73, (.iload 0, 75, 6, 0, 0)), (75, (.ifCond .ne 0, 78, 109, 0, 0)), (78, (.iload 0, 79, 3, 0, 0)), (79, (.aload 0, 80, 0, 0, 0)), (80, (.iload 0, 82, 5, 0, 0)), (82, (.aload 0, 83, 0, 0, 0)), (83, (.aload 0, 84, 0, 0, 0)), (84, (.getfield 0, 87, 12, 1, 3)), (87, (.iconst 0, 88, 0, 0, 0)), (88, (.iaload, 89, 0, 0, 0)), (89, (.invokevirtual 12, 92, 112, 2, 1)), (92, (.invokevirtual 12, 95, 87, 3, 1)), (95, (.iconst 0, 96, 0, 0, -1)), (96, (.if_icmp .ne 0, 99, 103, 0, 0)), (99, (.iconst 0, 100, 0, 0, 0)), (100, (.goto 0, 103, 104, 0, 0)), (103, (.iconst 0, 104, 0, 0, 1)), (104, (.iadd, 105, 0, 0, 0)), (105, (.istore 0, 106, 3, 0, 0)), (106, (.goto 0, 109, 182, 0, 0)), (109, (.iload 0, 111, 6, 0, 0)), (111, (.iconst 0, 112, 0, 0, 1)), (112, (.if_icmp .ne 0, 115, 152, 0, 0)), (115, (.aload 0, 116, 0, 0, 0)), (116, (.iload 0, 118, 5, 0, 0)), (118, (.invokevirtual 12, 121, 80, 2, 1)), (121, (.ifCond .le 0, 124, 182, 0, 0)), (124, (.iload 0, 125, 3, 0, 0)), (125, (.aload 0, 126, 0, 0, 0)), (126, (.iload 0, 128, 5, 0, 0)), (128, (.aload 0, 129, 0, 0, 0)), (129, (.iload 0, 131, 5, 0, 0)), (131, (.aload 0, 132, 0, 0, 0)), (132, (.aload 0, 133, 0, 0, 0)), (133, (.iload 0, 135, 5, 0, 0)), (135, (.invokevirtual 12, 138, 80, 2, 1)), (138, (.invokevirtual 12, 141, 112, 2, 1)), (141, (.invokevirtual 12, 144, 81, 3, 1)), (144, (.invokevirtual 12, 147, 88, 3, 1)), (147, (.iadd, 148, 0, 0, 0)), (148, (.istore 0, 149, 3, 0, 0)), (149, (.goto 0, 152, 182, 0, 0)), (152, (.aload 0, 153, 0, 0, 0)), (153, (.getfield 0, 156, 12, 1, 3)), (156, (.iconst 0, 158, 0, 0, 50)), (158, (.iaload, 159, 0, 0, 0)), (159, (.ifCond .le 0, 162, 182, 0, 0)), (162, (.iload 0, 163, 3, 0, 0)), (163, (.aload 0, 164, 0, 0, 0)), (164, (.iload 0, 166, 5, 0, 0)), (166, (.aload 0, 167, 0, 0, 0)), (167, (.aload 0, 168, 0, 0, 0)), (168, (.getfield 0, 171, 12, 1, 3)), (171, (.iconst 0, 173, 0, 0, 50)), (173, (.iaload, 174, 0, 0, 0)), (174, (.invokevirtual 12, 177, 112, 2, 1)), (177, (.invokevirtual 12, 180, 89, 3, 1)), (180, (.iadd, 181, 0, 0, 0)), (181, (.istore 0, 182, 3, 0, 0)), (182, (.iinc 0 0, 185, 5, 0, 1)), (185, (.goto 0, 188, 53, 0, 0)), (188, (.iinc 0 0, 191, 4, 0, 1)), (191, (.goto 0, 194, 44, 0, 0)), (194, (.iload 0, 195, 3, 0, 0)), (195, (.ireturn, 196, 0, 0, 0))]
def cd_M_areThings : List (Nat × ab_E) := [(0, (.iconst 0, 1, 0, 0, 0)), (1, (.istore 0, 2, 2, 0, 0)), (2, (.iload 0, 3, 2, 0, 0)), (3, (.aload 0, 4, 0, 0, 0)), (4, (.getfield 0, 7, 12, 38, 3)), (7, (.iload 0, 8, 1, 0, 0)), (8, (.iaload, 9, 0, 0, 0)), (9, (.if_icmp .ge 0, 12, 38, 0, 0)), (12, (.aload 0, 13, 0, 0, 0)), (13, (.aload 0, 14, 0, 0, 0)), (14, (.getfield 0, 17, 12, 39, 3)), (17, (.iconst 0, 19, 0, 0, 40)), (19, (.iload 0, 20, 1, 0, 0)), (20, (.imul, 21, 0, 0, 0)), (21, (.iload 0, 22, 2, 0, 0)), (22, (.iadd, 23, 0, 0, 0)), (23, (.laload, 24, 0, 0, 0)), (24, (.invokevirtual 12, 27, 73, 2, 1)), (27, (.ifCond .ne 0, 30, 32, 0, 0)), (30, (.iconst 0, 31, 0, 0, 0)), (31, (.ireturn, 32, 1, 0, 0)), (32, (.iinc 0 0, 35, 2, 0, 1)), (35, (.goto 0, 38, 2, 0, 0)), (38, (.iconst 0, 39, 0, 0, 1)), (39, (.ireturn, 40, 1, 0, 0))]
def cd_M_nextAt : List (Nat × ab_E) := [(0, (.iload 0, 1, 3, 0, 0)), (1, (.istore 0, 3, 4, 0, 0)), (3, (.iload 0, 5, 4, 0, 0)), (5, (.aload 0, 6, 0, 0, 0)), (6, (.getfield 0, 9, 12, 38, 3)), (9, (.iload 0, 10, 1, 0, 0)), (10, (.iaload, 11, 0, 0, 0)), (11, (.if_icmp .ge 0, 14, 38, 0, 0)), (14, (.aload 0, 15, 0, 0, 0)), (15, (.getfield 0, 18, 12, 39, 3)), (18, (.iconst 0, 20, 0, 0, 40)), (20, (.iload 0, 21, 1, 0, 0)), (21, (.imul, 22, 0, 0, 0)), (22, (.iload 0, 24, 4, 0, 0)), (24, (.iadd, 25, 0, 0, 0)), (25, (.laload, 26, 0, 0, 0)), (26, (.iload 0, 27, 2, 0, 0)), (27, (.i2l, 28, 0, 0, 0)), (28, (.lcmp, 29, 0, 0, 0)), (29, (.ifCond .eq 0, 32, 38, 0, 0)), (32, (.iinc 0 0, 35, 4, 0, 1)), (35, (.goto 0, 38, 3, 0, 0)), (38, (.iload 0, 40, 4, 0, 0)), (40, (.ireturn, 41, 0, 0, 0))]
def cd_M_driven : List (Nat × ab_E) := [(0, (.iconst 0, 1, 0, 0, -1)), (1, (.istore 0, 3, 4, 0, 0)), (3, (.iconst 0, 4, 0, 0, 0)), (4, (.istore 0, 6, 5, 0, 0)), (6, (.iconst 0, 7, 0, 0, 0)), (7, (.istore 0, 9, 6, 0, 0)), (9, (.iload 0, 11, 6, 0, 0)), (11, (.iconst 0, 13, 0, 0, 16)), (13, (.if_icmp .ge 0, 16, 106, 0, 0)), (16, (.aload 0, 17, 0, 0, 0)), (17, (.getfield 0, 20, 12, 21, 0)), (20, (.iload 0, 22, 6, 0, 0)), (22, (.ishr, 23, 0, 0, 0)), (23, (.iconst 0, 24, 0, 0, 1)), (24, (.iand, 25, 0, 0, 0)), (25, (.ifCond .ne 0, 28, 31, 0, 0)), (28, (.goto 0, 31, 100, 0, 0)), (31, (.iload 0, 32, 3, 0, 0)), (32, (.ifCond .ne 0, 35, 48, 0, 0)), (35, (.iconst 0, 37, 0, 0, 100)), (37, (.aload 0, 38, 0, 0, 0)), (38, (.getfield 0, 41, 12, 19, 3)), (41, (.iload 0, 43, 6, 0, 0)), (43, (.iaload, 44, 0, 0, 0)), (44, (.isub, 45, 0, 0, 0)), (45, (.goto 0, 48, 74, 0, 0)), (48, (.iload 0, 49, 3, 0, 0)), (49, (.iconst 0, 50, 0, 0, 1)), (50, (.if_icmp .ne 0, 53, 66, 0, 0)), (53, (.iconst 0, 55, 0, 0, 100)), (55, (.aload 0, 56, 0, 0, 0)), (56, (.getfield 0, 59, 12, 20, 3)), (59, (.iload 0, 61, 6, 0, 0)), (61, (.iaload, 62, 0, 0, 0)), (62, (.isub, 63, 0, 0, 0)), (63, (.goto 0, 66, 74, 0, 0)), (66, (.aload 0, 67, 0, 0, 0)), (67, (.iload 0, 68, 1, 0, 0)), (68, (.iload 0, 70, 6, 0, 0)), (70, (.iload 0, 71, 2, 0, 0)), (71, (.invokevirtual 12, 74, 115, 4, 1)), (74, (.istore 0, 76, 7, 0, 0)), (76, (.iload 0, 78, 4, 0, 0)), (78, (.iconst 0, 79, 0, 0, -1)), (79, (.if_icmp .eq 0, 82, 92, 0, 0)), (82, (.iload 0, 84, 7, 0, 0)), (84, (.iload 0, 86, 5, 0, 0)), (86, (.if_icmp .gt 0, 89, 92, 0, 0)), (89, (.goto 0, 92, 100, 0, 0)), (92, (.iload 0, 94, 6, 0, 0)), (94, (.istore 0, 96, 4, 0, 0)), (96, (.iload 0, 98, 7, 0, 0)), (98, (.istore 0, 100, 5, 0, 0)), (100, (.iinc 0 0, 103, 6, 0, 1)), (103, (.goto 0, 106, 9, 0, 0)), (106, (.iload 0, 108, 4, 0, 0)), (108, (.ireturn, 109, 0, 0, 0))]
def cd_M_freshOf : List (Nat × ab_E) := [(0, (.aload 0, 1, 0, 0, 0)), (1, (.iconst 0, 2, 0, 0, 0)), (2, (.putfield 0, 5, 12, 21, 0)), (5, (.iconst 0, 6, 0, 0, 0)), (6, (.istore 0, 8, 4, 0, 0)), (8, (.iconst 0, 9, 0, 0, 0)), (9, (.istore 0, 11, 5, 0, 0)), (11, (.iload 0, 13, 5, 0, 0)), (13, (.aload 0, 14, 0, 0, 0)), (14, (.getfield 0, 17, 12, 38, 3)), (17, (.iload 0, 18, 1, 0, 0)), (18, (.iaload, 19, 0, 0, 0)), (19, (.if_icmp .ge 0, 22, 125, 0, 0)), (22, (.aload 0, 23, 0, 0, 0)), (23, (.getfield 0, 26, 12, 39, 3)), (26, (.iconst 0, 28, 0, 0, 40)), (28, (.iload 0, 29, 1, 0, 0)), (29, (.imul, 30, 0, 0, 0)), (30, (.iload 0, 32, 5, 0, 0)), (32, (.iadd, 33, 0, 0, 0)), (33, (.laload, 34, 0, 0, 0)), (34, (.l2i, 35, 0, 0, 0)), (35, (.istore 0, 37, 6, 0, 0)), (37, (.aload 0, 38, 0, 0, 0)), (38, (.getfield 0, 41, 12, 19, 3)), (41, (.iload 0, 43, 6, 0, 0)), (43, (.iload 0, 45, 5, 0, 0)), (45, (.iastore, 46, 0, 0, 0)), (46, (.aload 0, 47, 0, 0, 0)), (47, (.getfield 0, 50, 12, 21, 0)), (50, (.iload 0, 52, 6, 0, 0)), (52, (.ishr, 53, 0, 0, 0)), (53, (.iconst 0, 54, 0, 0, 1)), (54, (.iand, 55, 0, 0, 0)), (55, (.iconst 0, 56, 0, 0, 1)), (56, (.if_icmp .ne 0, 59, 62, 0, 0)), (59, (.goto 0, 62, 119, 0, 0)), (62, (.iinc 0 0, 65, 4, 0, 1)), (65, (.aload 0, 66, 0, 0, 0)), (66, (.getfield 0, 69, 12, 21, 0)), (69, (.invokestatic 0, 72, 106, 1, 1)), (72, (.iload 0, 73, 2, 0, 0)), (73, (.if_icmp .ne 0, 76, 97, 0, 0)), (76, (.aload 0, 77, 0, 0, 0)), (77, (.dup, 78, 0, 0, 0)), (78, (.getfield 0, 81, 12, 21, 0)), (81, (.iconst 0, 82, 0, 0, 1)), (82, (.aload 0, 83, 0, 0, 0)), (83, (.iload 0, 84, 1, 0, 0)), (84, (.iload 0, 86, 5, 0, 0)), (86, (.iload 0, 87, 3, 0, 0)), (87, (.invokevirtual 12, 90, 116, 4, 1)), (90, (.ishl, 91, 0, 0, 0)), (91, (.iconst 0, 92, 0, 0, -1)), (92, (.ixor, 93, 0, 0, 0)), (93, (.iand, 94, 0, 0, 0)), (94, (.putfield 0, 97, 12, 21, 0)), (97, (.aload 0, 98, 0, 0, 0)), (98, (.dup, 99, 0, 0, 0)), (99, (.getfield 0, 102, 12, 21, 0)), (102, (.iconst 0, 103, 0, 0, 1)), (103, (.iload 0, 105, 6, 0, 0)), (105, (.ishl, 106, 0, 0, 0)), (106, (.ior, 107, 0, 0, 0)), (107, (.putfield 0, 110, 12, 21, 0)), (110, (.aload 0, 111, 0, 0, 0)), (111, (.getfield 0, 114, 12, 20, 3)), (114, (.iload 0, 116, 6, 0, 0)), (116, (.iload 0, 118, 5, 0, 0)), (118, (.iastore, 119, 0, 0, 0)), (119, (.iinc 0 0, 122, 5, 0, 1)), (122, (.goto 0, 125, 11, 0, 0)), (125, (.iload 0, 127, 4, 0, 0)), (127, (.ireturn, 128, 0, 0, 0))]
def cd_M_fresh : List (Nat × ab_E) := [(0, (.aload 0, 1, 0, 0, 0)), (1, (.iconst 0, 2, 0, 0, 0)), (2, (.putfield 0, 5, 12, 0, 0)), (5, (.iload 0, 6, 1, 0, 0)), (6, (.i2l, 7, 0, 0, 0)), (7, (.ldc2_w 0, 8, 0, 0, 0)), (8, (.ldc2_w 0, 11, 0, 0, 3)), (11, (.invokestatic 0, 14, 53, 3, 1)), (14, (.ifCond .eq 0, 17, 29, 0, 0)), (17, (.iload 0, 18, 3, 0, 0)), (18, (.i2l, 19, 0, 0, 0)), (19, (.ldc2_w 0, 20, 0, 0, 0)), (20, (.ldc2_w 0, 23, 0, 0, 2)), (23, (.invokestatic 0, 26, 53, 3, 1)), (26, (.ifCond .ne 0, 29, 32, 0, 0)), (29, (.iconst 0, 31, 0, 0, -2)), (31, (.ireturn, 32, 0, 0, 0)), (32, (.aload 0, 33, 0, 0, 0)), (33, (.getfield 0, 36, 12, 37, 3)), (36, (.iload 0, 37, 1, 0, 0)), (37, (.iaload, 38, 0, 0, 0)), (38, (.iconst 0, 39, 0, 0, -1)), (39, (.if_icmp .ne 0, 42, 45, 0, 0)), (42, (.iconst 0, 44, 0, 0, -6)), (44, (.ireturn, 45, 0, 0, 0)), (45, (.iload 0, 46, 2, 0, 0)), (46, (.i2l, 47, 0, 0, 0)), (47, (.ldc2_w 0, 48, 0, 0, 1)), (48, (.ldc2_w 0, 51, 0, 0, 9)), (51, (.invokestatic 0, 54, 53, 3, 1)), (54, (.ifCond .eq 0, 57, 65, 0, 0)), (57, (.aload 0, 58, 0, 0, 0)), (58, (.iload 0, 59, 1, 0, 0)), (59, (.invokevirtual 12, 62, 114, 2, 1)), (62, (.ifCond .ne 0, 65, 68, 0, 0)), (65, (.iconst 0, 67, 0, 0, -3)), (67, (.ireturn, 68, 0, 0, 0)), (68, (.aload 0, 69, 0, 0, 0)), (69, (.iload 0, 70, 1, 0, 0)), (70, (.iload 0, 71, 2, 0, 0)), (71, (.iload 0, 72, 3, 0, 0)), (72, (.invokevirtual 12, 75, 117, 4, 1)), (75, (.ireturn, 76, 0, 0, 0))]
def cd_M_kept : List (Nat × ab_E) := [(0, (.aload 0, 1, 0, 0, 0)), (1, (.iconst 0, 2, 0, 0, 0)), (2, (.putfield 0, 5, 12, 0, 0)), (5, (.iload 0, 6, 1, 0, 0)), (6, (.i2l, 7, 0, 0, 0)), (7, (.ldc2_w 0, 8, 0, 0, 0)), (8, (.ldc2_w 0, 11, 0, 0, 3)), (11, (.invokestatic 0, 14, 53, 3, 1)), (14, (.ifCond .eq 0, 17, 27, 0, 0)), (17, (.iload 0, 18, 3, 0, 0)), (18, (.i2l, 19, 0, 0, 0)), (19, (.ldc2_w 0, 20, 0, 0, 0)), (20, (.ldc2_w 0, 21, 0, 0, 1)), (21, (.invokestatic 0, 24, 53, 3, 1)), (24, (.ifCond .ne 0, 27, 30, 0, 0)), (27, (.iconst 0, 29, 0, 0, -2)), (29, (.ireturn, 30, 0, 0, 0)), (30, (.aload 0, 31, 0, 0, 0)), (31, (.getfield 0, 34, 12, 37, 3)), (34, (.iload 0, 35, 1, 0, 0)), (35, (.iaload, 36, 0, 0, 0)), (36, (.iconst 0, 37, 0, 0, -1)), (37, (.if_icmp .ne 0, 40, 43, 0, 0)), (40, (.iconst 0, 42, 0, 0, -6)), (42, (.ireturn, 43, 0, 0, 0)), (43, (.iload 0, 44, 2, 0, 0)), (44, (.i2l, 45, 0, 0, 0)), (45, (.ldc2_w 0, 46, 0, 0, 1)), (46, (.ldc2_w 0, 49, 0, 0, 9)), (49, (.invokestatic 0, 52, 53, 3, 1)), (52, (.ifCond .eq 0, 55, 63, 0, 0)), (55, (.aload 0, 56, 0, 0, 0)), (56, (.iload 0, 57, 1, 0, 0)), (57, (.invokevirtual 12, 60, 114, 2, 1)), (60, (.ifCond .ne 0, 63, 66, 0, 0)), (63, (.iconst 0, 65, 0, 0, -3)), (65, (.ireturn, 66, 0, 0, 0)), (66, (.aload 0, 67, 0, 0, 0)), (67, (.iload 0, 68, 1, 0, 0)), (68, (.iload 0, 69, 2, 0, 0)), (69, (.iload 0, 70, 3, 0, 0)), (70, (.invokevirtual 12, 73, 117, 4, 1)), (73, (.pop, 74, 0, 0, 0)), (74, (.aload 0, 75, 0, 0, 0)), (75, (.getfield 0, 78, 12, 21, 0)), (78, (.ireturn, 79, 0, 0, 0))]
def cd_M_less : List (Nat × ab_E) := [(0, (.aload 0, 1, 0, 0, 0)), (1, (.iconst 0, 2, 0, 0, 0)), (2, (.putfield 0, 5, 12, 0, 0)), (5, (.iload 0, 6, 1, 0, 0)), (6, (.i2l, 7, 0, 0, 0)), (7, (.ldc2_w 0, 8, 0, 0, 0)), (8, (.ldc2_w 0, 11, 0, 0, 3)), (11, (.invokestatic 0, 14, 53, 3, 1)), (14, (.ifCond .ne 0, 17, 20, 0, 0)), (17, (.iconst 0, 19, 0, 0, -2)), (19, (.ireturn, 20, 0, 0, 0)), (20, (.aload 0, 21, 0, 0, 0)), (21, (.getfield 0, 24, 12, 37, 3)), (24, (.iload 0, 25, 1, 0, 0)), (25, (.iaload, 26, 0, 0, 0)), (26, (.iconst 0, 27, 0, 0, -1)), (27, (.if_icmp .ne 0, 30, 33, 0, 0)), (30, (.iconst 0, 32, 0, 0, -6)), (32, (.ireturn, 33, 0, 0, 0)), (33, (.aload 0, 34, 0, 0, 0)), (34, (.iload 0, 35, 1, 0, 0)), (35, (.invokevirtual 12, 38, 114, 2, 1)), (38, (.ifCond .ne 0, 41, 44, 0, 0)), (41, (.iconst 0, 43, 0, 0, -3)), (43, (.ireturn, 44, 0, 0, 0)), (44, (.iconst 0, 45, 0, 0, 1)), (45, (.istore 0, 46, 2, 0, 0)), (46, (.iload 0, 47, 2, 0, 0)), (47, (.iconst 0, 49, 0, 0, 9)), (49, (.if_icmp .ge 0, 52, 79, 0, 0)), (52, (.aload 0, 53, 0, 0, 0)), (53, (.iload 0, 54, 1, 0, 0)), (54, (.iload 0, 55, 2, 0, 0)), (55, (.iconst 0, 56, 0, 0, 1)), (56, (.invokevirtual 12, 59, 117, 4, 1)), (59, (.aload 0, 60, 0, 0, 0)), (60, (.iload 0, 61, 1, 0, 0)), (61, (.iload 0, 62, 2, 0, 0)), (62, (.iconst 0, 63, 0, 0, 1)), (63, (.iadd, 64, 0, 0, 0)), (64, (.iconst 0, 65, 0, 0, 1)), (65, (.invokevirtual 12, 68, 117, 4, 1)), (68, (.if_icmp .ge 0, 71, 73, 0, 0)), (71, (.iload 0, 72, 2, 0, 0)), (72, (.ireturn, 73, 0, 0, 0)), (73, (.iinc 0 0, 76, 2, 0, 1)), (76, (.goto 0, 79, 46, 0, 0)), (79, (.iconst 0, 80, 0, 0, -1)), (80, (.ireturn, 81, 0, 0, 0))]
def cd_M_enough : List (Nat × ab_E) := [(0, (.aload 0, 1, 0, 0, 0)), (1, (.iconst 0, 2, 0, 0, 0)), (2, (.putfield 0, 5, 12, 0, 0)), (5, (.iload 0, 6, 1, 0, 0)), (6, (.i2l, 7, 0, 0, 0)), (7, (.ldc2_w 0, 8, 0, 0, 0)), (8, (.ldc2_w 0, 11, 0, 0, 3)), (11, (.invokestatic 0, 14, 53, 3, 1)), (14, (.ifCond .eq 0, 17, 29, 0, 0)), (17, (.iload 0, 18, 3, 0, 0)), (18, (.i2l, 19, 0, 0, 0)), (19, (.ldc2_w 0, 20, 0, 0, 0)), (20, (.ldc2_w 0, 23, 0, 0, 2)), (23, (.invokestatic 0, 26, 53, 3, 1)), (26, (.ifCond .ne 0, 29, 32, 0, 0)), (29, (.iconst 0, 31, 0, 0, -2)), (31, (.ireturn, 32, 0, 0, 0)), (32, (.aload 0, 33, 0, 0, 0)), (33, (.getfield 0, 36, 12, 37, 3)), (36, (.iload 0, 37, 1, 0, 0)), (37, (.iaload, 38, 0, 0, 0)), (38, (.iconst 0, 39, 0, 0, -1)), (39, (.if_icmp .ne 0, 42, 45, 0, 0)), (42, (.iconst 0, 44, 0, 0, -6)), (44, (.ireturn, 45, 0, 0, 0)), (45, (.aload 0, 46, 0, 0, 0)), (46, (.iload 0, 47, 1, 0, 0)), (47, (.invokevirtual 12, 50, 114, 2, 1)), (50, (.ifCond .ne 0, 53, 56, 0, 0)), (53, (.iconst 0, 55, 0, 0, -3)), (55, (.ireturn, 56, 0, 0, 0)), (56, (.iconst 0, 57, 0, 0, 1)), (57, (.istore 0, 59, 4, 0, 0)), (59, (.iload 0, 61, 4, 0, 0)), (61, (.iconst 0, 63, 0, 0, 9)), (63, (.if_icmp .gt 0, 66, 87, 0, 0)), (66, (.aload 0, 67, 0, 0, 0)), (67, (.iload 0, 68, 1, 0, 0)), (68, (.iload 0, 70, 4, 0, 0)), (70, (.iload 0, 71, 3, 0, 0)), (71, (.invokevirtual 12, 74, 117, 4, 1)), (74, (.iload 0, 75, 2, 0, 0)), (75, (.if_icmp .gt 0, 78, 81, 0, 0)), (78, (.iload 0, 80, 4, 0, 0)), (80, (.ireturn, 81, 0, 0, 0)), (81, (.iinc 0 0, 84, 4, 0, 1)), (84, (.goto 0, 87, 59, 0, 0)), (87, (.iconst 0, 88, 0, 0, -1)), (88, (.ireturn, 89, 0, 0, 0))]
def cd_M_farBack : List (Nat × ab_E) := [(0, (.aload 0, 1, 0, 0, 0)), (1, (.iconst 0, 2, 0, 0, 0)), (2, (.putfield 0, 5, 12, 0, 0)), (5, (.iload 0, 6, 1, 0, 0)), (6, (.i2l, 7, 0, 0, 0)), (7, (.ldc2_w 0, 8, 0, 0, 0)), (8, (.ldc2_w 0, 11, 0, 0, 3)), (11, (.invokestatic 0, 14, 53, 3, 1)), (14, (.ifCond .ne 0, 17, 20, 0, 0)), (17, (.iconst 0, 19, 0, 0, -2)), (19, (.ireturn, 20, 0, 0, 0)), (20, (.aload 0, 21, 0, 0, 0)), (21, (.getfield 0, 24, 12, 37, 3)), (24, (.iload 0, 25, 1, 0, 0)), (25, (.iaload, 26, 0, 0, 0)), (26, (.iconst 0, 27, 0, 0, -1)), (27, (.if_icmp .ne 0, 30, 33, 0, 0)), (30, (.iconst 0, 32, 0, 0, -6)), (32, (.ireturn, 33, 0, 0, 0)), (33, (.iload 0, 34, 2, 0, 0)), (34, (.i2l, 35, 0, 0, 0)), (35, (.ldc2_w 0, 36, 0, 0, 0)), (36, (.aload 0, 37, 0, 0, 0)), (37, (.getfield 0, 40, 12, 38, 3)), (40, (.iload 0, 41, 1, 0, 0)), (41, (.iaload, 42, 0, 0, 0)), (42, (.iconst 0, 43, 0, 0, 1)), (43, (.isub, 44, 0, 0, 0)), (44, (.i2l, 45, 0, 0, 0)), (45, (.invokestatic 0, 48, 53, 3, 1)), (48, (.ifCond .ne 0, 51, 54, 0, 0)), (51, (.iconst 0, 53, 0, 0, -7)), (53, (.ireturn, 54, 0, 0, 0)), (54, (.aload 0, 55, 0, 0, 0)), (55, (.iload 0, 56, 1, 0, 0)), (56, (.invokevirtual 12, 59, 114, 2, 1)), (59, (.ifCond .ne 0, 62, 65, 0, 0)), (62, (.iconst 0, 64, 0, 0, -3)), (64, (.ireturn, 65, 0, 0, 0)), (65, (.iconst 0, 66, 0, 0, 0)), (66, (.istore 0, 67, 3, 0, 0)), (67, (.iload 0, 68, 2, 0, 0)), (68, (.iconst 0, 69, 0, 0, 1)), (69, (.isub, 70, 0, 0, 0)), (70, (.istore 0, 72, 4, 0, 0)), (72, (.iload 0, 74, 4, 0, 0)), (74, (.ifCond .lt 0, 77, 133, 0, 0)), (77, (.iload 0, 78, 3, 0, 0)), (78, (.iconst 0, 79, 0, 0, 1)), (79, (.aload 0, 80, 0, 0, 0)), (80, (.getfield 0, 83, 12, 39, 3)), (83, (.iconst 0, 85, 0, 0, 40)), (85, (.iload 0, 86, 1, 0, 0)), (86, (.imul, 87, 0, 0, 0)), (87, (.iload 0, 89, 4, 0, 0)), (89, (.iadd, 90, 0, 0, 0)), (90, (.laload, 91, 0, 0, 0)), (91, (.l2i, 92, 0, 0, 0)), (92, (.ishl, 93, 0, 0, 0)), (93, (.ior, 94, 0, 0, 0)), (94, (.istore 0, 95, 3, 0, 0)), (95, (.aload 0, 96, 0, 0, 0)), (96, (.getfield 0, 99, 12, 39, 3)), (99, (.iconst 0, 101, 0, 0, 40)), (101, (.iload 0, 102, 1, 0, 0)), (102, (.imul, 103, 0, 0, 0)), (103, (.iload 0, 105, 4, 0, 0)), (105, (.iadd, 106, 0, 0, 0)), (106, (.laload, 107, 0, 0, 0)), (107, (.aload 0, 108, 0, 0, 0)), (108, (.getfield 0, 111, 12, 39, 3)), (111, (.iconst 0, 113, 0, 0, 40)), (113, (.iload 0, 114, 1, 0, 0)), (114, (.imul, 115, 0, 0, 0)), (115, (.iload 0, 116, 2, 0, 0)), (116, (.iadd, 117, 0, 0, 0)), (117, (.laload, 118, 0, 0, 0)), (118, (.lcmp, 119, 0, 0, 0)), (119, (.ifCond .ne 0, 122, 127, 0, 0)), (122, (.iload 0, 123, 3, 0, 0)), (123, (.invokestatic 0, 126, 106, 1, 1)), (126, (.ireturn, 127, 0, 0, 0)), (127, (.iinc 0 0, 130, 4, 0, -1)), (130, (.goto 0, 133, 72, 0, 0)), (133, (.iconst 0, 134, 0, 0, -1)), (134, (.ireturn, 135, 0, 0, 0))]
def cd_M_throughOf : List (Nat × ab_E) := [(0, (.aload 0, 1, 0, 0, 0)), (1, (.iconst 0, 3, 0, 0, 6)), (3, (.iload 0, 4, 2, 0, 0)), (4, (.invokevirtual 12, 7, 86, 3, 0)), (7, (.iconst 0, 8, 0, 0, 0)), (8, (.istore 0, 10, 4, 0, 0)), (10, (.iload 0, 12, 4, 0, 0)), (12, (.iload 0, 13, 1, 0, 0)), (13, (.if_icmp .ge 0, 16, 36, 0, 0)), (16, (.aload 0, 17, 0, 0, 0)), (17, (.iconst 0, 19, 0, 0, 6)), (19, (.aload 0, 20, 0, 0, 0)), (20, (.getfield 0, 23, 12, 22, 3)), (23, (.iload 0, 25, 4, 0, 0)), (25, (.iaload, 26, 0, 0, 0)), (26, (.invokevirtual 12, 29, 87, 3, 1)), (29, (.pop, 30, 0, 0, 0)), (30, (.iinc 0 0, 33, 4, 0, 1)), (33, (.goto 0, 36, 10, 0, 0)), (36, (.aload 0, 37, 0, 0, 0)), (37, (.iconst 0, 39, 0, 0, 6)), (39, (.iload 0, 40, 3, 0, 0)), (40, (.invokevirtual 12, 43, 89, 3, 1)), (43, (.pop, 44, 0, 0, 0)), (44, (.aload 0, 45, 0, 0, 0)), (45, (.iconst 0, 47, 0, 0, 6)), (47, (.invokevirtual 12, 50, 90, 2, 1)), (50, (.ireturn, 51, 0, 0, 0))]
def cd_M_tellsRow : List (Nat × ab_E) := [(0, (.iconst 0, 1, 0, 0, 0)), (1, (.istore 0, 2, 2, 0, 0)), (2, (.iload 0, 3, 2, 0, 0)), (3, (.aload 0, 4, 0, 0, 0)), (4, (.getfield 0, 7, 12, 38, 3)), (7, (.iload 0, 8, 1, 0, 0)), (8, (.iaload, 9, 0, 0, 0)), (9, (.if_icmp .ge 0, 12, 36, 0, 0)), (12, (.aload 0, 13, 0, 0, 0)), (13, (.getfield 0, 16, 12, 22, 3)), (16, (.iload 0, 17, 2, 0, 0)), (17, (.aload 0, 18, 0, 0, 0)), (18, (.getfield 0, 21, 12, 39, 3)), (21, (.iconst 0, 23, 0, 0, 40)), (23, (.iload 0, 24, 1, 0, 0)), (24, (.imul, 25, 0, 0, 0)), (25, (.iload 0, 26, 2, 0, 0)), (26, (.iadd, 27, 0, 0, 0)), (27, (.laload, 28, 0, 0, 0)), (28, (.l2i, 29, 0, 0, 0)), (29, (.iastore, 30, 0, 0, 0)), (30, (.iinc 0 0, 33, 2, 0, 1)), (33, (.goto 0, 36, 2, 0, 0)), (36, (.return_, 37, 0, 0, 0))]
def cd_M_through : List (Nat × ab_E) := [(0, (.aload 0, 1, 0, 0, 0)), (1, (.iconst 0, 2, 0, 0, 0)), (2, (.putfield 0, 5, 12, 0, 0)), (5, (.iload 0, 6, 1, 0, 0)), (6, (.i2l, 7, 0, 0, 0)), (7, (.ldc2_w 0, 8, 0, 0, 0)), (8, (.ldc2_w 0, 11, 0, 0, 3)), (11, (.invokestatic 0, 14, 53, 3, 1)), (14, (.ifCond .eq 0, 17, 26, 0, 0)), (17, (.aload 0, 18, 0, 0, 0)), (18, (.iload 0, 19, 3, 0, 0)), (19, (.i2l, 20, 0, 0, 0)), (20, (.invokevirtual 12, 23, 74, 2, 1)), (23, (.ifCond .ne 0, 26, 29, 0, 0)), (26, (.iconst 0, 28, 0, 0, -2)), (28, (.ireturn, 29, 0, 0, 0)), (29, (.aload 0, 30, 0, 0, 0)), (30, (.getfield 0, 33, 12, 37, 3)), (33, (.iload 0, 34, 1, 0, 0)), (34, (.iaload, 35, 0, 0, 0)), (35, (.iconst 0, 36, 0, 0, -1)), (36, (.if_icmp .ne 0, 39, 42, 0, 0)), (39, (.iconst 0, 41, 0, 0, -6)), (41, (.ireturn, 42, 0, 0, 0)), (42, (.iload 0, 43, 2, 0, 0)), (43, (.i2l, 44, 0, 0, 0)), (44, (.ldc2_w 0, 45, 0, 0, 1)), (45, (.ldc2_w 0, 48, 0, 0, 9)), (48, (.invokestatic 0, 51, 53, 3, 1)), (51, (.ifCond .eq 0, 54, 62, 0, 0)), (54, (.aload 0, 55, 0, 0, 0)), (55, (.iload 0, 56, 1, 0, 0)), (56, (.invokevirtual 12, 59, 114, 2, 1)), (59, (.ifCond .ne 0, 62, 65, 0, 0)), (62, (.iconst 0, 64, 0, 0, -3)), (64, (.ireturn, 65, 0, 0, 0)), (65, (.aload 0, 66, 0, 0, 0)), (66, (.iload 0, 67, 1, 0, 0)), (67, (.invokevirtual 12, 70, 124, 2, 0)), (70, (.aload 0, 71, 0, 0, 0)), (71, (.aload 0, 72, 0, 0, 0)), (72, (.getfield 0, 75, 12, 38, 3)), (75, (.iload 0, 76, 1, 0, 0)), (76, (.iaload, 77, 0, 0, 0)), (77, (.iload 0, 78, 2, 0, 0)), (78, (.iload 0, 79, 3, 0, 0)), (79, (.invokevirtual 12, 82, 123, 4, 1)), (82, (.ireturn, 83, 0, 0, 0))]
def cd_M_sizeFor : List (Nat × ab_E) := [(0, (.aload 0, 1, 0, 0, 0)), (1, (.iconst 0, 2, 0, 0, 0)), (2, (.putfield 0, 5, 12, 0, 0)), (5, (.iload 0, 6, 1, 0, 0)), (6, (.i2l, 7, 0, 0, 0)), (7, (.ldc2_w 0, 8, 0, 0, 0)), (8, (.ldc2_w 0, 11, 0, 0, 3)), (11, (.invokestatic 0, 14, 53, 3, 1)), (14, (.ifCond .eq 0, 17, 26, 0, 0)), (17, (.aload 0, 18, 0, 0, 0)), (18, (.iload 0, 19, 2, 0, 0)), (19, (.i2l, 20, 0, 0, 0)), (20, (.invokevirtual 12, 23, 74, 2, 1)), (23, (.ifCond .ne 0, 26, 29, 0, 0)), (26, (.iconst 0, 28, 0, 0, -2)), (28, (.ireturn, 29, 0, 0, 0)), (29, (.aload 0, 30, 0, 0, 0)), (30, (.getfield 0, 33, 12, 37, 3)), (33, (.iload 0, 34, 1, 0, 0)), (34, (.iaload, 35, 0, 0, 0)), (35, (.iconst 0, 36, 0, 0, -1)), (36, (.if_icmp .ne 0, 39, 42, 0, 0)), (39, (.iconst 0, 41, 0, 0, -6)), (41, (.ireturn, 42, 0, 0, 0)), (42, (.aload 0, 43, 0, 0, 0)), (43, (.iload 0, 44, 1, 0, 0)), (44, (.invokevirtual 12, 47, 114, 2, 1)), (47, (.ifCond .ne 0, 50, 53, 0, 0)), (50, (.iconst 0, 52, 0, 0, -3)), (52, (.ireturn, 53, 0, 0, 0)), (53, (.aload 0, 54, 0, 0, 0)), (54, (.iload 0, 55, 1, 0, 0)), (55, (.invokevirtual 12, 58, 124, 2, 0)), (58, (.iconst 0, 59, 0, 0, 0)), (59, (.istore 0, 60, 3, 0, 0)), (60, (.iconst 0, 61, 0, 0, 0)), (61, (.istore 0, 63, 4, 0, 0)), (63, (.iload 0, 65, 4, 0, 0)), (65, (.aload 0, 66, 0, 0, 0)), (66, (.getfield 0, 69, 12, 38, 3)), (69, (.iload 0, 70, 1, 0, 0)), (70, (.iaload, 71, 0, 0, 0)), (71, (.if_icmp .ge 0, 74, 92, 0, 0)), (74, (.iload 0, 75, 3, 0, 0)), (75, (.iconst 0, 76, 0, 0, 1)), (76, (.aload 0, 77, 0, 0, 0)), (77, (.getfield 0, 80, 12, 22, 3)), (80, (.iload 0, 82, 4, 0, 0)), (82, (.iaload, 83, 0, 0, 0)), (83, (.ishl, 84, 0, 0, 0)), (84, (.ior, 85, 0, 0, 0)), (85, (.istore 0, 86, 3, 0, 0)), (86, (.iinc 0 0, 89, 4, 0, 1)), (89, (.goto 0, 92, 63, 0, 0)), (92, (.iconst 0, 93, 0, 0, 1)), (93, (.istore 0, 95, 4, 0, 0)), (95, (.iload 0, 97, 4, 0, 0)), (97, (.iconst 0, 99, 0, 0, 9)), (99, (.if_icmp .gt 0, 102, 131, 0, 0)), (102, (.iload 0, 103, 3, 0, 0)), (103, (.aload 0, 104, 0, 0, 0)), (104, (.aload 0, 105, 0, 0, 0)), (105, (.getfield 0, 108, 12, 38, 3)), (108, (.iload 0, 109, 1, 0, 0)), (109, (.iaload, 110, 0, 0, 0)), (110, (.iload 0, 112, 4, 0, 0)), (112, (.iload 0, 113, 2, 0, 0)), (113, (.invokevirtual 12, 116, 123, 4, 1)), (116, (.iconst 0, 117, 0, 0, -1)), (117, (.ixor, 118, 0, 0, 0)), (118, (.iand, 119, 0, 0, 0)), (119, (.ifCond .ne 0, 122, 125, 0, 0)), (122, (.iload 0, 124, 4, 0, 0)), (124, (.ireturn, 125, 0, 0, 0)), (125, (.iinc 0 0, 128, 4, 0, 1)), (128, (.goto 0, 131, 95, 0, 0)), (131, (.iconst 0, 132, 0, 0, -1)), (132, (.ireturn, 133, 0, 0, 0))]
def cd_M_tellsAll : List (Nat × ab_E) := [(0, (.iload 0, 1, 1, 0, 0)), (1, (.ifCond .ne 0, 4, 74, 0, 0)), (4, (.aload 0, 5, 0, 0, 0)), (5, (.iload 0, 6, 2, 0, 0)), (6, (.iload 0, 7, 3, 0, 0)), (7, (.iload 0, 9, 4, 0, 0)), (9, (.invokevirtual 12, 12, 123, 4, 1)), (12, (.istore 0, 14, 5, 0, 0)), (14, (.aload 0, 15, 0, 0, 0)), (15, (.iload 0, 17, 5, 0, 0)), (17, (.invokevirtual 12, 20, 85, 2, 1)), (20, (.aload 0, 21, 0, 0, 0)), (21, (.getfield 0, 24, 12, 24, 0)), (24, (.if_icmp .gt 0, 27, 28, 0, 0)), (27, (.return_, 28, 0, 0, 0)), (28, (.aload 0, 29, 0, 0, 0)), (29, (.aload 0, 30, 0, 0, 0)), (30, (.iload 0, 32, 5, 0, 0)), (32, (.invokevirtual 12, 35, 85, 2, 1)), (35, (.putfield 0, 38, 12, 24, 0)), (38, (.aload 0, 39, 0, 0, 0)), (39, (.iload 0, 41, 5, 0, 0)), (41, (.putfield 0, 44, 12, 25, 0)), (44, (.iconst 0, 45, 0, 0, 0)), (45, (.istore 0, 47, 6, 0, 0)), (47, (.iload 0, 49, 6, 0, 0)), (49, (.iload 0, 50, 2, 0, 0)), (50, (.if_icmp .ge 0, 53, 73, 0, 0)), (53, (.aload 0, 54, 0, 0, 0)), (54, (.getfield 0, 57, 12, 23, 3)), (57, (.iload 0, 59, 6, 0, 0)), (59, (.aload 0, 60, 0, 0, 0)), (60, (.getfield 0, 63, 12, 22, 3)), (63, (.iload 0, 65, 6, 0, 0)), (65, (.iaload, 66, 0, 0, 0)), (66, (.iastore, 67, 0, 0, 0)), (67, (.iinc 0 0, 70, 6, 0, 1)), (70, (.goto 0, 73, 47, 0, 0)), (73, (.return_, 74, 0, 0, 0)), (74, (.iconst 0, 75, 0, 0, 0)), (75, (.istore 0, 77, 5, 0, 0)), (77, (.iload 0, 79, 5, 0, 0)), (79, (.aload 0, 80, 0, 0, 0)), (80, (.getfield 0, 83, 12, 1, 3)), (83, (.iconst 0, 84, 0, 0, 0)), (84, (.iaload, 85, 0, 0, 0)), (85, (.if_icmp .ge 0, 88, 132, 0, 0)), (88, (.iload 0, 89, 1, 0, 0)), (89, (.iload 0, 91, 5, 0, 0)), (91, (.ishr, 92, 0, 0, 0)), (92, (.iconst 0, 93, 0, 0, 1)), (93, (.iand, 94, 0, 0, 0)), (94, (.ifCond .ne 0, 97, 100, 0, 0)), (97, (.goto 0, 100, 126, 0, 0)), (100, (.aload 0, 101, 0, 0, 0)), (101, (.getfield 0, 104, 12, 22, 3)), (104, (.iload 0, 105, 2, 0, 0)), (105, (.iload 0, 107, 5, 0, 0)), (107, (.iastore, 108, 0, 0, 0)), (108, (.aload 0, 109, 0, 0, 0)), (109, (.iload 0, 110, 1, 0, 0)), (110, (.iconst 0, 111, 0, 0, 1)), (111, (.iload 0, 113, 5, 0, 0)), (113, (.ishl, 114, 0, 0, 0)), (114, (.iconst 0, 115, 0, 0, -1)), (115, (.ixor, 116, 0, 0, 0)), (116, (.iand, 117, 0, 0, 0)), (117, (.iload 0, 118, 2, 0, 0)), (118, (.iconst 0, 119, 0, 0, 1)), (119, (.iadd, 120, 0, 0, 0)), (120, (.iload 0, 121, 3, 0, 0)), (121, (.iload 0, 123, 4, 0, 0)), (123, (.invokevirtual 12, 126, 127, 5, 0)), (126, (.iinc 0 0, 129, 5, 0, 1)), (129, (.goto 0, 132, 77, 0, 0)), (132, (.return_, 133, 0, 0, 0))]
def cd_M_told : List (Nat × ab_E) := [(0, (.aload 0, 1, 0, 0, 0)), (1, (.iconst 0, 2, 0, 0, 0)), (2, (.putfield 0, 5, 12, 0, 0)), (5, (.aload 0, 6, 0, 0, 0)), (6, (.iload 0, 7, 3, 0, 0)), (7, (.i2l, 8, 0, 0, 0)), (8, (.invokevirtual 12, 11, 74, 2, 1)), (11, (.ifCond .eq 0, 14, 40, 0, 0)), (14, (.iload 0, 16, 4, 0, 0)), (16, (.i2l, 17, 0, 0, 0)), (17, (.ldc2_w 0, 18, 0, 0, 0)), (18, (.ldc2_w 0, 19, 0, 0, 1)), (19, (.invokestatic 0, 22, 53, 3, 1)), (22, (.ifCond .ne 0, 25, 43, 0, 0)), (25, (.iload 0, 27, 4, 0, 0)), (27, (.i2l, 28, 0, 0, 0)), (28, (.ldc2_w 0, 31, 0, 0, 10)), (31, (.ldc2_w 0, 34, 0, 0, 15)), (34, (.invokestatic 0, 37, 53, 3, 1)), (37, (.ifCond .ne 0, 40, 43, 0, 0)), (40, (.iconst 0, 42, 0, 0, -2)), (42, (.ireturn, 43, 0, 0, 0)), (43, (.aload 0, 44, 0, 0, 0)), (44, (.iload 0, 45, 1, 0, 0)), (45, (.invokevirtual 12, 48, 76, 2, 1)), (48, (.ifCond .eq 0, 51, 72, 0, 0)), (51, (.iload 0, 52, 1, 0, 0)), (52, (.invokestatic 0, 55, 106, 1, 1)), (55, (.iconst 0, 57, 0, 0, 6)), (57, (.if_icmp .gt 0, 60, 72, 0, 0)), (60, (.iload 0, 61, 2, 0, 0)), (61, (.i2l, 62, 0, 0, 0)), (62, (.ldc2_w 0, 63, 0, 0, 1)), (63, (.ldc2_w 0, 66, 0, 0, 9)), (66, (.invokestatic 0, 69, 53, 3, 1)), (69, (.ifCond .ne 0, 72, 75, 0, 0)), (72, (.iconst 0, 74, 0, 0, -3)), (74, (.ireturn, 75, 0, 0, 0)), (75, (.aload 0, 76, 0, 0, 0)), (76, (.iconst 0, 77, 0, 0, -1)), (77, (.putfield 0, 80, 12, 24, 0)), (80, (.aload 0, 81, 0, 0, 0)), (81, (.iload 0, 82, 1, 0, 0)), (82, (.iconst 0, 83, 0, 0, 0)), (83, (.iload 0, 84, 2, 0, 0)), (84, (.iload 0, 85, 3, 0, 0)), (85, (.invokevirtual 12, 88, 127, 5, 0)), (88, (.iload 0, 90, 4, 0, 0)), (90, (.ifCond .ne 0, 93, 100, 0, 0)), (93, (.aload 0, 94, 0, 0, 0)), (94, (.getfield 0, 97, 12, 24, 0)), (97, (.goto 0, 100, 139, 0, 0)), (100, (.iload 0, 102, 4, 0, 0)), (102, (.iconst 0, 103, 0, 0, 1)), (103, (.if_icmp .ne 0, 106, 113, 0, 0)), (106, (.aload 0, 107, 0, 0, 0)), (107, (.getfield 0, 110, 12, 25, 0)), (110, (.goto 0, 113, 139, 0, 0)), (113, (.iload 0, 115, 4, 0, 0)), (115, (.iconst 0, 117, 0, 0, 10)), (117, (.isub, 118, 0, 0, 0)), (118, (.iload 0, 119, 1, 0, 0)), (119, (.invokestatic 0, 122, 106, 1, 1)), (122, (.if_icmp .ge 0, 125, 138, 0, 0)), (125, (.aload 0, 126, 0, 0, 0)), (126, (.getfield 0, 129, 12, 23, 3)), (129, (.iload 0, 131, 4, 0, 0)), (131, (.iconst 0, 133, 0, 0, 10)), (133, (.isub, 134, 0, 0, 0)), (134, (.iaload, 135, 0, 0, 0)), (135, (.goto 0, 138, 139, 0, 0)), (138, (.iconst 0, 139, 0, 0, -1)), (139, (.ireturn, 140, 0, 0, 0))]
def cd_M_backOf : List (Nat × ab_E) := [(0, (.iload 0, 1, 1, 0, 0)), (1, (.istore 0, 2, 2, 0, 0)), (2, (.iconst 0, 3, 0, 0, 0)), (3, (.istore 0, 4, 3, 0, 0)), (4, (.iload 0, 5, 3, 0, 0)), (5, (.iload 0, 6, 2, 0, 0)), (6, (.if_icmp .eq 0, 9, 60, 0, 0)), (9, (.iload 0, 10, 2, 0, 0)), (10, (.istore 0, 11, 3, 0, 0)), (11, (.iconst 0, 12, 0, 0, 0)), (12, (.istore 0, 14, 4, 0, 0)), (14, (.iload 0, 16, 4, 0, 0)), (16, (.aload 0, 17, 0, 0, 0)), (17, (.getfield 0, 20, 12, 1, 3)), (20, (.iconst 0, 21, 0, 0, 0)), (21, (.iaload, 22, 0, 0, 0)), (22, (.if_icmp .ge 0, 25, 57, 0, 0)), (25, (.iload 0, 26, 2, 0, 0)), (26, (.iload 0, 27, 3, 0, 0)), (27, (.iload 0, 29, 4, 0, 0)), (29, (.ishr, 30, 0, 0, 0)), (30, (.iconst 0, 31, 0, 0, 1)), (31, (.iand, 32, 0, 0, 0)), (32, (.iconst 0, 33, 0, 0, 1)), (33, (.if_icmp .ne 0, 36, 48, 0, 0)), (36, (.aload 0, 37, 0, 0, 0)), (37, (.getfield 0, 40, 12, 1, 3)), (40, (.iconst 0, 41, 0, 0, 2)), (41, (.iload 0, 43, 4, 0, 0)), (43, (.iadd, 44, 0, 0, 0)), (44, (.iaload, 45, 0, 0, 0)), (45, (.goto 0, 48, 49, 0, 0)), (48, (.iconst 0, 49, 0, 0, 0)), (49, (.ior, 50, 0, 0, 0)), (50, (.istore 0, 51, 2, 0, 0)), (51, (.iinc 0 0, 54, 4, 0, 1)), (54, (.goto 0, 57, 14, 0, 0)), (57, (.goto 0, 60, 4, 0, 0)), (60, (.iload 0, 61, 2, 0, 0)), (61, (.ireturn, 62, 0, 0, 0))]
def cd_M_back : List (Nat × ab_E) := [(0, (.aload 0, 1, 0, 0, 0)), (1, (.iconst 0, 2, 0, 0, 0)), (2, (.putfield 0, 5, 12, 0, 0)), (5, (.aload 0, 6, 0, 0, 0)), (6, (.iload 0, 7, 1, 0, 0)), (7, (.invokevirtual 12, 10, 76, 2, 1)), (10, (.ifCond .eq 0, 13, 21, 0, 0)), (13, (.aload 0, 14, 0, 0, 0)), (14, (.iload 0, 15, 1, 0, 0)), (15, (.invokevirtual 12, 18, 129, 2, 1)), (18, (.goto 0, 21, 23, 0, 0)), (21, (.iconst 0, 23, 0, 0, -3)), (23, (.ireturn, 24, 0, 0, 0))]
def cd_M_seeds : List (Nat × ab_E) := [(0, (.aload 0, 1, 0, 0, 0)), (1, (.iconst 0, 2, 0, 0, 0)), (2, (.putfield 0, 5, 12, 0, 0)), (5, (.aload 0, 6, 0, 0, 0)), (6, (.iload 0, 7, 1, 0, 0)), (7, (.invokevirtual 12, 10, 76, 2, 1)), (10, (.ifCond .ne 0, 13, 16, 0, 0)), (13, (.iconst 0, 15, 0, 0, -3)), (15, (.ireturn, 16, 0, 0, 0)), (16, (.iload 0, 17, 1, 0, 0)), (17, (.istore 0, 18, 2, 0, 0)), (18, (.iconst 0, 19, 0, 0, 0)), (19, (.istore 0, 20, 3, 0, 0)), (20, (.iload 0, 21, 3, 0, 0)), (21, (.iconst 0, 22, 0, 0, 1)), (22, (.aload 0, 23, 0, 0, 0)), (23, (.getfield 0, 26, 12, 1, 3)), (26, (.iconst 0, 27, 0, 0, 0)), (27, (.iaload, 28, 0, 0, 0)), (28, (.ishl, 29, 0, 0, 0)), (29, (.if_icmp .ge 0, 32, 84, 0, 0)), (32, (.iload 0, 33, 3, 0, 0)), (33, (.invokestatic 0, 36, 106, 1, 1)), (36, (.istore 0, 38, 4, 0, 0)), (38, (.iload 0, 40, 4, 0, 0)), (40, (.iload 0, 41, 2, 0, 0)), (41, (.invokestatic 0, 44, 106, 1, 1)), (44, (.if_icmp .gt 0, 47, 78, 0, 0)), (47, (.iload 0, 49, 4, 0, 0)), (49, (.iload 0, 50, 2, 0, 0)), (50, (.invokestatic 0, 53, 106, 1, 1)), (53, (.if_icmp .ne 0, 56, 64, 0, 0)), (56, (.iload 0, 57, 3, 0, 0)), (57, (.iload 0, 58, 2, 0, 0)), (58, (.if_icmp .lt 0, 61, 64, 0, 0)), (61, (.goto 0, 64, 78, 0, 0)), (64, (.iload 0, 65, 1, 0, 0)), (65, (.aload 0, 66, 0, 0, 0)), (66, (.iload 0, 67, 3, 0, 0)), (67, (.invokevirtual 12, 70, 129, 2, 1)), (70, (.iconst 0, 71, 0, 0, -1)), (71, (.ixor, 72, 0, 0, 0)), (72, (.iand, 73, 0, 0, 0)), (73, (.ifCond .ne 0, 76, 78, 0, 0)), (76, (.iload 0, 77, 3, 0, 0)), (77, (.istore 0, 78, 2, 0, 0)), (78, (.iinc 0 0, 81, 3, 0, 1)), (81, (.goto 0, 84, 20, 0, 0)), (84, (.iload 0, 85, 2, 0, 0)), (85, (.ireturn, 86, 0, 0, 0))]
def cd_M_canCarry : List (Nat × ab_E) := [(0, (.iload 0, 1, 1, 0, 0)), (1, (.invokestatic 0, 4, 106, 1, 1)), (4, (.iload 0, 5, 2, 0, 0)), (5, (.if_icmp .le 0, 8, 10, 0, 0)), (8, (.iconst 0, 9, 0, 0, 0)), (9, (.ireturn, 10, 1, 0, 0)), (10, (.iconst 0, 11, 0, 0, 0)), (11, (.istore 0, 12, 3, 0, 0)), (12, (.iload 0, 13, 3, 0, 0)), (13, (.aload 0, 14, 0, 0, 0)), (14, (.getfield 0, 17, 12, 1, 3)), (17, (.iconst 0, 18, 0, 0, 0)), (18, (.iaload, 19, 0, 0, 0)), (19, (.if_icmp .ge 0, 22, 53, 0, 0)), (22, (.iload 0, 23, 1, 0, 0)), (23, (.iload 0, 24, 3, 0, 0)), (24, (.ishr, 25, 0, 0, 0)), (25, (.iconst 0, 26, 0, 0, 1)), (26, (.iand, 27, 0, 0, 0)), (27, (.iconst 0, 28, 0, 0, 1)), (28, (.if_icmp .ne 0, 31, 47, 0, 0)), (31, (.aload 0, 32, 0, 0, 0)), (32, (.getfield 0, 35, 12, 1, 3)), (35, (.iconst 0, 37, 0, 0, 18)), (37, (.iload 0, 38, 3, 0, 0)), (38, (.iadd, 39, 0, 0, 0)), (39, (.iaload, 40, 0, 0, 0)), (40, (.iload 0, 41, 1, 0, 0)), (41, (.iand, 42, 0, 0, 0)), (42, (.ifCond .eq 0, 45, 47, 0, 0)), (45, (.iconst 0, 46, 0, 0, 0)), (46, (.ireturn, 47, 1, 0, 0)), (47, (.iinc 0 0, 50, 3, 0, 1)), (50, (.goto 0, 53, 12, 0, 0)), (53, (.iconst 0, 54, 0, 0, 1)), (54, (.ireturn, 55, 1, 0, 0))]
def cd_M_leftIn : List (Nat × ab_E) := [(0, (.iload 0, 1, 2, 0, 0)), (1, (.ifCond .ne 0, 4, 6, 0, 0)), (4, (.iload 0, 5, 1, 0, 0)), (5, (.ireturn, 6, 0, 0, 0)), (6, (.iconst 0, 7, 0, 0, 0)), (7, (.istore 0, 8, 3, 0, 0)), (8, (.iload 0, 9, 1, 0, 0)), (9, (.istore 0, 11, 4, 0, 0)), (11, (.iconst 0, 12, 0, 0, 0)), (12, (.istore 0, 14, 5, 0, 0)), (14, (.iload 0, 16, 5, 0, 0)), (16, (.aload 0, 17, 0, 0, 0)), (17, (.getfield 0, 20, 12, 27, 0)), (20, (.if_icmp .ge 0, 23, 53, 0, 0)), (23, (.iload 0, 24, 3, 0, 0)), (24, (.iload 0, 26, 4, 0, 0)), (26, (.iconst 0, 27, 0, 0, 3)), (27, (.irem, 28, 0, 0, 0)), (28, (.ifCond .le 0, 31, 38, 0, 0)), (31, (.iconst 0, 32, 0, 0, 1)), (32, (.iload 0, 34, 5, 0, 0)), (34, (.ishl, 35, 0, 0, 0)), (35, (.goto 0, 38, 39, 0, 0)), (38, (.iconst 0, 39, 0, 0, 0)), (39, (.ior, 40, 0, 0, 0)), (40, (.istore 0, 41, 3, 0, 0)), (41, (.iload 0, 43, 4, 0, 0)), (43, (.iconst 0, 44, 0, 0, 3)), (44, (.idiv, 45, 0, 0, 0)), (45, (.istore 0, 47, 4, 0, 0)), (47, (.iinc 0 0, 50, 5, 0, 1)), (50, (.goto 0, 53, 14, 0, 0)), (53, (.iload 0, 54, 3, 0, 0)), (54, (.ireturn, 55, 0, 0, 0))]
def cd_M_without : List (Nat × ab_E) := [(0, (.iload 0, 1, 1, 0, 0)), (1, (.istore 0, 2, 3, 0, 0)), (2, (.iconst 0, 3, 0, 0, 0)), (3, (.istore 0, 5, 4, 0, 0)), (5, (.iload 0, 7, 4, 0, 0)), (7, (.aload 0, 8, 0, 0, 0)), (8, (.getfield 0, 11, 12, 27, 0)), (11, (.if_icmp .ge 0, 14, 44, 0, 0)), (14, (.iload 0, 15, 3, 0, 0)), (15, (.iload 0, 16, 2, 0, 0)), (16, (.iload 0, 18, 4, 0, 0)), (18, (.ishr, 19, 0, 0, 0)), (19, (.iconst 0, 20, 0, 0, 1)), (20, (.iand, 21, 0, 0, 0)), (21, (.iconst 0, 22, 0, 0, 1)), (22, (.if_icmp .ne 0, 25, 35, 0, 0)), (25, (.aload 0, 26, 0, 0, 0)), (26, (.getfield 0, 29, 12, 29, 3)), (29, (.iload 0, 31, 4, 0, 0)), (31, (.iaload, 32, 0, 0, 0)), (32, (.goto 0, 35, 36, 0, 0)), (35, (.iconst 0, 36, 0, 0, 0)), (36, (.isub, 37, 0, 0, 0)), (37, (.istore 0, 38, 3, 0, 0)), (38, (.iinc 0 0, 41, 4, 0, 1)), (41, (.goto 0, 44, 5, 0, 0)), (44, (.iload 0, 45, 3, 0, 0)), (45, (.ireturn, 46, 0, 0, 0))]
def cd_M_asThings : List (Nat × ab_E) := [(0, (.iconst 0, 1, 0, 0, 0)), (1, (.istore 0, 2, 2, 0, 0)), (2, (.iconst 0, 3, 0, 0, 0)), (3, (.istore 0, 4, 3, 0, 0)), (4, (.iload 0, 5, 3, 0, 0)), (5, (.aload 0, 6, 0, 0, 0)), (6, (.getfield 0, 9, 12, 27, 0)), (9, (.if_icmp .ge 0, 12, 42, 0, 0)), (12, (.iload 0, 13, 2, 0, 0)), (13, (.iload 0, 14, 1, 0, 0)), (14, (.iload 0, 15, 3, 0, 0)), (15, (.ishr, 16, 0, 0, 0)), (16, (.iconst 0, 17, 0, 0, 1)), (17, (.iand, 18, 0, 0, 0)), (18, (.iconst 0, 19, 0, 0, 1)), (19, (.if_icmp .ne 0, 22, 33, 0, 0)), (22, (.iconst 0, 23, 0, 0, 1)), (23, (.aload 0, 24, 0, 0, 0)), (24, (.getfield 0, 27, 12, 28, 3)), (27, (.iload 0, 28, 3, 0, 0)), (28, (.iaload, 29, 0, 0, 0)), (29, (.ishl, 30, 0, 0, 0)), (30, (.goto 0, 33, 34, 0, 0)), (33, (.iconst 0, 34, 0, 0, 0)), (34, (.ior, 35, 0, 0, 0)), (35, (.istore 0, 36, 2, 0, 0)), (36, (.iinc 0 0, 39, 3, 0, 1)), (39, (.goto 0, 42, 4, 0, 0)), (42, (.iload 0, 43, 2, 0, 0)), (43, (.ireturn, 44, 0, 0, 0))]
def cd_M_laysMen : List (Nat × ab_E) := [(0, (.aload 0, 1, 0, 0, 0)), (1, (.iconst 0, 2, 0, 0, 0)), (2, (.putfield 0, 5, 12, 27, 0)), (5, (.iconst 0, 6, 0, 0, 0)), (6, (.istore 0, 8, 4, 0, 0)), (8, (.iconst 0, 9, 0, 0, 1)), (9, (.istore 0, 11, 5, 0, 0)), (11, (.iconst 0, 12, 0, 0, 0)), (12, (.istore 0, 14, 6, 0, 0)), (14, (.iload 0, 16, 6, 0, 0)), (16, (.aload 0, 17, 0, 0, 0)), (17, (.getfield 0, 20, 12, 1, 3)), (20, (.iconst 0, 21, 0, 0, 0)), (21, (.iaload, 22, 0, 0, 0)), (22, (.if_icmp .ge 0, 25, 116, 0, 0)), (25, (.iload 0, 26, 1, 0, 0)), (26, (.iload 0, 28, 6, 0, 0)), (28, (.ishr, 29, 0, 0, 0)), (29, (.iconst 0, 30, 0, 0, 1)), (30, (.iand, 31, 0, 0, 0)), (31, (.ifCond .ne 0, 34, 37, 0, 0)), (34, (.goto 0, 37, 110, 0, 0)), (37, (.aload 0, 38, 0, 0, 0)), (38, (.getfield 0, 41, 12, 28, 3)), (41, (.aload 0, 42, 0, 0, 0)), (42, (.getfield 0, 45, 12, 27, 0)), (45, (.iload 0, 47, 6, 0, 0)), (47, (.iastore, 48, 0, 0, 0)), (48, (.aload 0, 49, 0, 0, 0)), (49, (.getfield 0, 52, 12, 29, 3)), (52, (.aload 0, 53, 0, 0, 0)), (53, (.getfield 0, 56, 12, 27, 0)), (56, (.iload 0, 57, 3, 0, 0)), (57, (.ifCond .eq 0, 60, 65, 0, 0)), (60, (.iload 0, 62, 5, 0, 0)), (62, (.goto 0, 65, 71, 0, 0)), (65, (.iconst 0, 66, 0, 0, 1)), (66, (.aload 0, 67, 0, 0, 0)), (67, (.getfield 0, 70, 12, 27, 0)), (70, (.ishl, 71, 0, 0, 0)), (71, (.iastore, 72, 0, 0, 0)), (72, (.iload 0, 74, 4, 0, 0)), (74, (.iload 0, 75, 3, 0, 0)), (75, (.ifCond .eq 0, 78, 85, 0, 0)), (78, (.iconst 0, 79, 0, 0, 2)), (79, (.iload 0, 81, 5, 0, 0)), (81, (.imul, 82, 0, 0, 0)), (82, (.goto 0, 85, 91, 0, 0)), (85, (.iconst 0, 86, 0, 0, 1)), (86, (.aload 0, 87, 0, 0, 0)), (87, (.getfield 0, 90, 12, 27, 0)), (90, (.ishl, 91, 0, 0, 0)), (91, (.iadd, 92, 0, 0, 0)), (92, (.istore 0, 94, 4, 0, 0)), (94, (.iload 0, 96, 5, 0, 0)), (96, (.iconst 0, 97, 0, 0, 3)), (97, (.imul, 98, 0, 0, 0)), (98, (.istore 0, 100, 5, 0, 0)), (100, (.aload 0, 101, 0, 0, 0)), (101, (.dup, 102, 0, 0, 0)), (102, (.getfield 0, 105, 12, 27, 0)), (105, (.iconst 0, 106, 0, 0, 1)), (106, (.iadd, 107, 0, 0, 0)), (107, (.putfield 0, 110, 12, 27, 0)), (110, (.iinc 0 0, 113, 6, 0, 1)), (113, (.goto 0, 116, 14, 0, 0)), (116, (.iconst 0, 117, 0, 0, 0)), (117, (.istore 0, 119, 6, 0, 0)), (119, (.iload 0, 121, 6, 0, 0)), (121, (.iconst 0, 122, 0, 0, 1)), (122, (.aload 0, 123, 0, 0, 0)), (123, (.getfield 0, 126, 12, 27, 0)), (126, (.ishl, 127, 0, 0, 0)), (127, (.if_icmp .ge 0, 130, 154, 0, 0)), (130, (.aload 0, 131, 0, 0, 0)), (131, (.getfield 0, 134, 12, 30, 3)), (134, (.iload 0, 136, 6, 0, 0)), (136, (.aload 0, 137, 0, 0, 0)), (137, (.aload 0, 138, 0, 0, 0)), (138, (.iload 0, 140, 6, 0, 0)), (140, (.invokevirtual 12, 143, 135, 2, 1)), (143, (.iload 0, 144, 2, 0, 0)), (144, (.invokevirtual 12, 147, 132, 3, 1)), (147, (.bastore, 148, 0, 0, 0)), (148, (.iinc 0 0, 151, 6, 0, 1)), (151, (.goto 0, 154, 119, 0, 0)), (154, (.aload 0, 155, 0, 0, 0)), (155, (.getfield 0, 158, 12, 26, 3)), (158, (.iconst 0, 159, 0, 0, 0)), (159, (.iconst 0, 160, 0, 0, 0)), (160, (.iastore, 161, 0, 0, 0)), (161, (.iconst 0, 162, 0, 0, 1)), (162, (.istore 0, 164, 6, 0, 0)), (164, (.iload 0, 166, 6, 0, 0)), (166, (.iload 0, 168, 4, 0, 0)), (168, (.if_icmp .gt 0, 171, 305, 0, 0)), (171, (.aload 0, 172, 0, 0, 0)), (172, (.iload 0, 174, 6, 0, 0)), (174, (.iload 0, 175, 3, 0, 0)), (175, (.invokevirtual 12, 178, 133, 3, 1)), (178, (.istore 0, 180, 7, 0, 0)), (180, (.iload 0, 182, 7, 0, 0)), (182, (.iload 0, 184, 7, 0, 0)), (184, (.ineg, 185, 0, 0, 0)), (185, (.iand, 186, 0, 0, 0)), (186, (.istore 0, 188, 8, 0, 0)), (188, (.iconst 0, 190, 0, 0, 99)), (190, (.istore 0, 192, 9, 0, 0)), (192, (.iload 0, 194, 7, 0, 0)), (194, (.iload 0, 196, 8, 0, 0)), (196, (.ixor, 197, 0, 0, 0)), (197, (.istore 0, 199, 10, 0, 0)), (199, (.iload 0, 201, 10, 0, 0)), (201, (.istore 0, 203, 11, 0, 0)), (203, (.iconst 0, 204, 0, 0, 0)), (204, (.istore 0, 206, 12, 0, 0)), (206, (.iload 0, 208, 12, 0, 0)), (208, (.ifCond .ne 0, 211, 290, 0, 0)), (211, (.iload 0, 213, 11, 0, 0)), (213, (.iload 0, 215, 8, 0, 0)), (215, (.ior, 216, 0, 0, 0)), (216, (.istore 0, 218, 13, 0, 0)), (218, (.aload 0, 219, 0, 0, 0)), (219, (.getfield 0, 222, 12, 30, 3)), (222, (.iload 0, 224, 13, 0, 0)), (224, (.baload, 225, 0, 0, 0)), (225, (.ifCond .eq 0, 228, 246, 0, 0)), (228, (.aload 0, 229, 0, 0, 0)), (229, (.getfield 0, 232, 12, 26, 3)), (232, (.aload 0, 233, 0, 0, 0)), (233, (.iload 0, 235, 6, 0, 0)), (235, (.iload 0, 237, 13, 0, 0)), (237, (.invokevirtual 12, 240, 134, 3, 1)), (240, (.iaload, 241, 0, 0, 0)), (241, (.iconst 0, 242, 0, 0, 1)), (242, (.iadd, 243, 0, 0, 0)), (243, (.goto 0, 246, 248, 0, 0)), (246, (.iconst 0, 248, 0, 0, 99)), (248, (.istore 0, 250, 14, 0, 0)), (250, (.iload 0, 252, 14, 0, 0)), (252, (.iload 0, 254, 9, 0, 0)), (254, (.if_icmp .ge 0, 257, 262, 0, 0)), (257, (.iload 0, 259, 14, 0, 0)), (259, (.goto 0, 262, 264, 0, 0)), (262, (.iload 0, 264, 9, 0, 0)), (264, (.istore 0, 266, 9, 0, 0)), (266, (.iload 0, 268, 11, 0, 0)), (268, (.ifCond .ne 0, 271, 275, 0, 0)), (271, (.iconst 0, 272, 0, 0, 1)), (272, (.goto 0, 275, 276, 0, 0)), (275, (.iconst 0, 276, 0, 0, 0)), (276, (.istore 0, 278, 12, 0, 0)), (278, (.iload 0, 280, 11, 0, 0)), (280, (.iconst 0, 281, 0, 0, 1)), (281, (.isub, 282, 0, 0, 0)), (282, (.iload 0, 284, 10, 0, 0)), (284, (.iand, 285, 0, 0, 0)), (285, (.istore 0, 287, 11, 0, 0)), (287, (.goto 0, 290, 206, 0, 0)), (290, (.aload 0, 291, 0, 0, 0)), (291, (.getfield 0, 294, 12, 26, 3)), (294, (.iload 0, 296, 6, 0, 0)), (296, (.iload 0, 298, 9, 0, 0)), (298, (.iastore, 299, 0, 0, 0)), (299, (.iinc 0 0, 302, 6, 0, 1)), (302, (.goto 0, 305, 164, 0, 0)), (305, (.iload 0, 307, 4, 0, 0)), (307, (.ireturn, 308, 0, 0, 0))]
end
end
section
section
def cd_M_refusesMen : List (Nat × ab_E) := [(0, (.aload 0, 1, 0, 0, 0)), (1, (.iload 0, 2, 1, 0, 0)), (2, (.invokevirtual 12, 5, 76, 2, 1)), (5, (.ifCond .eq 0, 8, 20, 0, 0)), (8, (.iload 0, 9, 2, 0, 0)), (9, (.i2l, 10, 0, 0, 0)), (10, (.ldc2_w 0, 11, 0, 0, 1)), (11, (.ldc2_w 0, 14, 0, 0, 9)), (14, (.invokestatic 0, 17, 53, 3, 1)), (17, (.ifCond .ne 0, 20, 23, 0, 0)), (20, (.iconst 0, 22, 0, 0, -3)), (22, (.ireturn, 23, 0, 0, 0)), (23, (.iload 0, 24, 3, 0, 0)), (24, (.ifCond .eq 0, 27, 41, 0, 0)), (27, (.iload 0, 28, 1, 0, 0)), (28, (.invokestatic 0, 31, 106, 1, 1)), (31, (.iconst 0, 33, 0, 0, 8)), (33, (.if_icmp .le 0, 36, 41, 0, 0)), (36, (.iconst 0, 38, 0, 0, -4)), (38, (.goto 0, 41, 42, 0, 0)), (41, (.iconst 0, 42, 0, 0, 0)), (42, (.ireturn, 43, 0, 0, 0))]
def cd_M_men : List (Nat × ab_E) := [(0, (.aload 0, 1, 0, 0, 0)), (1, (.iconst 0, 2, 0, 0, 0)), (2, (.putfield 0, 5, 12, 0, 0)), (5, (.aload 0, 6, 0, 0, 0)), (6, (.iload 0, 7, 1, 0, 0)), (7, (.iload 0, 8, 2, 0, 0)), (8, (.iload 0, 9, 3, 0, 0)), (9, (.invokevirtual 12, 12, 137, 4, 1)), (12, (.istore 0, 14, 4, 0, 0)), (14, (.iload 0, 16, 4, 0, 0)), (16, (.ifCond .eq 0, 19, 24, 0, 0)), (19, (.iload 0, 21, 4, 0, 0)), (21, (.goto 0, 24, 36, 0, 0)), (24, (.aload 0, 25, 0, 0, 0)), (25, (.getfield 0, 28, 12, 26, 3)), (28, (.aload 0, 29, 0, 0, 0)), (29, (.iload 0, 30, 1, 0, 0)), (30, (.iload 0, 31, 2, 0, 0)), (31, (.iload 0, 32, 3, 0, 0)), (32, (.invokevirtual 12, 35, 136, 4, 1)), (35, (.iaload, 36, 0, 0, 0)), (36, (.ireturn, 37, 0, 0, 0))]
def cd_M_load : List (Nat × ab_E) := [(0, (.aload 0, 1, 0, 0, 0)), (1, (.iconst 0, 2, 0, 0, 0)), (2, (.putfield 0, 5, 12, 0, 0)), (5, (.aload 0, 6, 0, 0, 0)), (6, (.iload 0, 7, 1, 0, 0)), (7, (.iload 0, 8, 2, 0, 0)), (8, (.iload 0, 9, 3, 0, 0)), (9, (.invokevirtual 12, 12, 137, 4, 1)), (12, (.istore 0, 14, 5, 0, 0)), (14, (.iload 0, 16, 5, 0, 0)), (16, (.ifCond .eq 0, 19, 22, 0, 0)), (19, (.iload 0, 21, 5, 0, 0)), (21, (.ireturn, 22, 0, 0, 0)), (22, (.aload 0, 23, 0, 0, 0)), (23, (.iload 0, 24, 1, 0, 0)), (24, (.iload 0, 25, 2, 0, 0)), (25, (.iload 0, 26, 3, 0, 0)), (26, (.invokevirtual 12, 29, 136, 4, 1)), (29, (.istore 0, 31, 6, 0, 0)), (31, (.iload 0, 33, 4, 0, 0)), (33, (.i2l, 34, 0, 0, 0)), (34, (.ldc2_w 0, 35, 0, 0, 0)), (35, (.aload 0, 36, 0, 0, 0)), (36, (.getfield 0, 39, 12, 26, 3)), (39, (.iload 0, 41, 6, 0, 0)), (41, (.iaload, 42, 0, 0, 0)), (42, (.iconst 0, 43, 0, 0, 1)), (43, (.isub, 44, 0, 0, 0)), (44, (.i2l, 45, 0, 0, 0)), (45, (.invokestatic 0, 48, 53, 3, 1)), (48, (.ifCond .ne 0, 51, 53, 0, 0)), (51, (.iconst 0, 52, 0, 0, -1)), (52, (.ireturn, 53, 0, 0, 0)), (53, (.iconst 0, 54, 0, 0, 0)), (54, (.istore 0, 56, 7, 0, 0)), (56, (.aload 0, 57, 0, 0, 0)), (57, (.iload 0, 59, 6, 0, 0)), (59, (.iload 0, 60, 3, 0, 0)), (60, (.invokevirtual 12, 63, 133, 3, 1)), (63, (.istore 0, 65, 8, 0, 0)), (65, (.iconst 0, 66, 0, 0, 1)), (66, (.istore 0, 68, 9, 0, 0)), (68, (.iload 0, 70, 9, 0, 0)), (70, (.iload 0, 72, 8, 0, 0)), (72, (.iconst 0, 73, 0, 0, -1)), (73, (.ixor, 74, 0, 0, 0)), (74, (.iand, 75, 0, 0, 0)), (75, (.ifCond .ne 0, 78, 113, 0, 0)), (78, (.aload 0, 79, 0, 0, 0)), (79, (.getfield 0, 82, 12, 30, 3)), (82, (.iload 0, 84, 9, 0, 0)), (84, (.baload, 85, 0, 0, 0)), (85, (.ifCond .eq 0, 88, 113, 0, 0)), (88, (.aload 0, 89, 0, 0, 0)), (89, (.getfield 0, 92, 12, 26, 3)), (92, (.aload 0, 93, 0, 0, 0)), (93, (.iload 0, 95, 6, 0, 0)), (95, (.iload 0, 97, 9, 0, 0)), (97, (.invokevirtual 12, 100, 134, 3, 1)), (100, (.iaload, 101, 0, 0, 0)), (101, (.aload 0, 102, 0, 0, 0)), (102, (.getfield 0, 105, 12, 26, 3)), (105, (.iload 0, 107, 6, 0, 0)), (107, (.iaload, 108, 0, 0, 0)), (108, (.iconst 0, 109, 0, 0, 1)), (109, (.isub, 110, 0, 0, 0)), (110, (.if_icmp .eq 0, 113, 119, 0, 0)), (113, (.iinc 0 0, 116, 9, 0, 1)), (116, (.goto 0, 119, 68, 0, 0)), (119, (.iload 0, 121, 7, 0, 0)), (121, (.iload 0, 123, 4, 0, 0)), (123, (.if_icmp .ne 0, 126, 133, 0, 0)), (126, (.aload 0, 127, 0, 0, 0)), (127, (.iload 0, 129, 9, 0, 0)), (129, (.invokevirtual 12, 132, 135, 2, 1)), (132, (.ireturn, 133, 0, 0, 0)), (133, (.aload 0, 134, 0, 0, 0)), (134, (.iload 0, 136, 6, 0, 0)), (136, (.iload 0, 138, 9, 0, 0)), (138, (.invokevirtual 12, 141, 134, 3, 1)), (141, (.istore 0, 143, 6, 0, 0)), (143, (.iinc 0 0, 146, 7, 0, 1)), (146, (.goto 0, 147, 56, 0, 0))]
def cd_M_isBest : List (Nat × ab_E) := [(0, (.aload 0, 1, 0, 0, 0)), (1, (.getfield 0, 4, 12, 33, 0)), (4, (.iconst 0, 5, 0, 0, -1)), (5, (.if_icmp .eq 0, 8, 33, 0, 0)), (8, (.iload 0, 9, 1, 0, 0)), (9, (.aload 0, 10, 0, 0, 0)), (10, (.getfield 0, 13, 12, 24, 0)), (13, (.if_icmp .lt 0, 16, 32, 0, 0)), (16, (.iload 0, 17, 1, 0, 0)), (17, (.aload 0, 18, 0, 0, 0)), (18, (.getfield 0, 21, 12, 24, 0)), (21, (.if_icmp .ne 0, 24, 33, 0, 0)), (24, (.iload 0, 25, 2, 0, 0)), (25, (.aload 0, 26, 0, 0, 0)), (26, (.getfield 0, 29, 12, 33, 0)), (29, (.if_icmp .lt 0, 32, 33, 0, 0)), (32, (.return_, 33, 0, 0, 0)), (33, (.aload 0, 34, 0, 0, 0)), (34, (.iload 0, 35, 1, 0, 0)), (35, (.putfield 0, 38, 12, 24, 0)), (38, (.aload 0, 39, 0, 0, 0)), (39, (.iload 0, 40, 2, 0, 0)), (40, (.putfield 0, 43, 12, 33, 0)), (43, (.iconst 0, 44, 0, 0, 0)), (44, (.istore 0, 45, 3, 0, 0)), (45, (.iload 0, 46, 3, 0, 0)), (46, (.iload 0, 47, 2, 0, 0)), (47, (.if_icmp .ge 0, 50, 68, 0, 0)), (50, (.aload 0, 51, 0, 0, 0)), (51, (.getfield 0, 54, 12, 32, 3)), (54, (.iload 0, 55, 3, 0, 0)), (55, (.aload 0, 56, 0, 0, 0)), (56, (.getfield 0, 59, 12, 31, 3)), (59, (.iload 0, 60, 3, 0, 0)), (60, (.iaload, 61, 0, 0, 0)), (61, (.iastore, 62, 0, 0, 0)), (62, (.iinc 0 0, 65, 3, 0, 1)), (65, (.goto 0, 68, 45, 0, 0)), (68, (.return_, 69, 0, 0, 0))]
def cd_M_rowsOf : List (Nat × ab_E) := [(0, (.iload 0, 1, 3, 0, 0)), (1, (.iload 0, 3, 4, 0, 0)), (3, (.if_icmp .ne 0, 6, 110, 0, 0)), (6, (.aload 0, 7, 0, 0, 0)), (7, (.iload 0, 8, 1, 0, 0)), (8, (.invokevirtual 12, 11, 103, 2, 0)), (11, (.iconst 0, 12, 0, 0, 0)), (12, (.istore 0, 14, 6, 0, 0)), (14, (.iload 0, 16, 6, 0, 0)), (16, (.iload 0, 17, 3, 0, 0)), (17, (.if_icmp .ge 0, 20, 79, 0, 0)), (20, (.iload 0, 22, 5, 0, 0)), (22, (.iconst 0, 23, 0, 0, -1)), (23, (.if_icmp .ne 0, 26, 43, 0, 0)), (26, (.aload 0, 27, 0, 0, 0)), (27, (.iconst 0, 29, 0, 0, 6)), (29, (.aload 0, 30, 0, 0, 0)), (30, (.getfield 0, 33, 12, 31, 3)), (33, (.iload 0, 35, 6, 0, 0)), (35, (.iaload, 36, 0, 0, 0)), (36, (.invokevirtual 12, 39, 87, 3, 1)), (39, (.pop, 40, 0, 0, 0)), (40, (.goto 0, 43, 73, 0, 0)), (43, (.aload 0, 44, 0, 0, 0)), (44, (.iconst 0, 46, 0, 0, 6)), (46, (.aload 0, 47, 0, 0, 0)), (47, (.getfield 0, 50, 12, 31, 3)), (50, (.iload 0, 52, 6, 0, 0)), (52, (.iaload, 53, 0, 0, 0)), (53, (.invokevirtual 12, 56, 83, 3, 1)), (56, (.ifCond .eq 0, 59, 73, 0, 0)), (59, (.aload 0, 60, 0, 0, 0)), (60, (.iconst 0, 62, 0, 0, 6)), (62, (.aload 0, 63, 0, 0, 0)), (63, (.getfield 0, 66, 12, 31, 3)), (66, (.iload 0, 68, 6, 0, 0)), (68, (.iaload, 69, 0, 0, 0)), (69, (.invokevirtual 12, 72, 88, 3, 1)), (72, (.pop, 73, 0, 0, 0)), (73, (.iinc 0 0, 76, 6, 0, 1)), (76, (.goto 0, 79, 14, 0, 0)), (79, (.iload 0, 81, 5, 0, 0)), (81, (.iconst 0, 82, 0, 0, -1)), (82, (.if_icmp .eq 0, 85, 94, 0, 0)), (85, (.aload 0, 86, 0, 0, 0)), (86, (.iconst 0, 88, 0, 0, 6)), (88, (.iload 0, 90, 5, 0, 0)), (90, (.invokevirtual 12, 93, 89, 3, 1)), (93, (.pop, 94, 0, 0, 0)), (94, (.aload 0, 95, 0, 0, 0)), (95, (.aload 0, 96, 0, 0, 0)), (96, (.aload 0, 97, 0, 0, 0)), (97, (.iconst 0, 99, 0, 0, 6)), (99, (.invokevirtual 12, 102, 84, 2, 1)), (102, (.invokevirtual 12, 105, 85, 2, 1)), (105, (.iload 0, 106, 3, 0, 0)), (106, (.invokevirtual 12, 109, 140, 3, 0)), (109, (.return_, 110, 0, 0, 0)), (110, (.iconst 0, 111, 0, 0, 0)), (111, (.istore 0, 113, 6, 0, 0)), (113, (.iload 0, 115, 6, 0, 0)), (115, (.aload 0, 116, 0, 0, 0)), (116, (.getfield 0, 119, 12, 1, 3)), (119, (.iconst 0, 120, 0, 0, 0)), (120, (.iaload, 121, 0, 0, 0)), (121, (.if_icmp .ge 0, 124, 170, 0, 0)), (124, (.iload 0, 125, 2, 0, 0)), (125, (.iload 0, 127, 6, 0, 0)), (127, (.ishr, 128, 0, 0, 0)), (128, (.iconst 0, 129, 0, 0, 1)), (129, (.iand, 130, 0, 0, 0)), (130, (.ifCond .ne 0, 133, 136, 0, 0)), (133, (.goto 0, 136, 164, 0, 0)), (136, (.aload 0, 137, 0, 0, 0)), (137, (.getfield 0, 140, 12, 31, 3)), (140, (.iload 0, 141, 3, 0, 0)), (141, (.iload 0, 143, 6, 0, 0)), (143, (.iastore, 144, 0, 0, 0)), (144, (.aload 0, 145, 0, 0, 0)), (145, (.iload 0, 146, 1, 0, 0)), (146, (.iload 0, 147, 2, 0, 0)), (147, (.iconst 0, 148, 0, 0, 1)), (148, (.iload 0, 150, 6, 0, 0)), (150, (.ishl, 151, 0, 0, 0)), (151, (.iconst 0, 152, 0, 0, -1)), (152, (.ixor, 153, 0, 0, 0)), (153, (.iand, 154, 0, 0, 0)), (154, (.iload 0, 155, 3, 0, 0)), (155, (.iconst 0, 156, 0, 0, 1)), (156, (.iadd, 157, 0, 0, 0)), (157, (.iload 0, 159, 4, 0, 0)), (159, (.iload 0, 161, 5, 0, 0)), (161, (.invokevirtual 12, 164, 141, 6, 0)), (164, (.iinc 0 0, 167, 6, 0, 1)), (167, (.goto 0, 170, 113, 0, 0)), (170, (.return_, 171, 0, 0, 0))]
def cd_M_toldBest : List (Nat × ab_E) := [(0, (.iload 0, 1, 1, 0, 0)), (1, (.ifCond .ne 0, 4, 11, 0, 0)), (4, (.aload 0, 5, 0, 0, 0)), (5, (.getfield 0, 8, 12, 24, 0)), (8, (.goto 0, 11, 47, 0, 0)), (11, (.iload 0, 12, 1, 0, 0)), (12, (.iconst 0, 13, 0, 0, 1)), (13, (.if_icmp .ne 0, 16, 23, 0, 0)), (16, (.aload 0, 17, 0, 0, 0)), (17, (.getfield 0, 20, 12, 33, 0)), (20, (.goto 0, 23, 47, 0, 0)), (23, (.iload 0, 24, 1, 0, 0)), (24, (.iconst 0, 26, 0, 0, 10)), (26, (.isub, 27, 0, 0, 0)), (27, (.aload 0, 28, 0, 0, 0)), (28, (.getfield 0, 31, 12, 33, 0)), (31, (.if_icmp .ge 0, 34, 46, 0, 0)), (34, (.aload 0, 35, 0, 0, 0)), (35, (.getfield 0, 38, 12, 32, 3)), (38, (.iload 0, 39, 1, 0, 0)), (39, (.iconst 0, 41, 0, 0, 10)), (41, (.isub, 42, 0, 0, 0)), (42, (.iaload, 43, 0, 0, 0)), (43, (.goto 0, 46, 47, 0, 0)), (46, (.iconst 0, 47, 0, 0, -1)), (47, (.ireturn, 48, 0, 0, 0))]
def cd_M_isWhat : List (Nat × ab_E) := [(0, (.iload 0, 1, 0, 0, 0)), (1, (.i2l, 2, 0, 0, 0)), (2, (.ldc2_w 0, 3, 0, 0, 0)), (3, (.ldc2_w 0, 4, 0, 0, 1)), (4, (.invokestatic 0, 7, 53, 3, 1)), (7, (.ifCond .ne 0, 10, 24, 0, 0)), (10, (.iload 0, 11, 0, 0, 0)), (11, (.i2l, 12, 0, 0, 0)), (12, (.ldc2_w 0, 15, 0, 0, 10)), (15, (.ldc2_w 0, 18, 0, 0, 12)), (18, (.invokestatic 0, 21, 53, 3, 1)), (21, (.ifCond .eq 0, 24, 28, 0, 0)), (24, (.iconst 0, 25, 0, 0, 1)), (25, (.goto 0, 28, 29, 0, 0)), (28, (.iconst 0, 29, 0, 0, 0)), (29, (.ireturn, 30, 1, 0, 0))]
def cd_M_road : List (Nat × ab_E) := [(0, (.aload 0, 1, 0, 0, 0)), (1, (.iconst 0, 2, 0, 0, 0)), (2, (.putfield 0, 5, 12, 0, 0)), (5, (.aload 0, 6, 0, 0, 0)), (6, (.iload 0, 7, 1, 0, 0)), (7, (.i2l, 8, 0, 0, 0)), (8, (.invokevirtual 12, 11, 75, 2, 1)), (11, (.ifCond .eq 0, 14, 30, 0, 0)), (14, (.aload 0, 15, 0, 0, 0)), (15, (.iload 0, 16, 2, 0, 0)), (16, (.i2l, 17, 0, 0, 0)), (17, (.invokevirtual 12, 20, 74, 2, 1)), (20, (.ifCond .eq 0, 23, 30, 0, 0)), (23, (.iload 0, 24, 3, 0, 0)), (24, (.invokestatic 0, 27, 143, 1, 1)), (27, (.ifCond .ne 0, 30, 33, 0, 0)), (30, (.iconst 0, 32, 0, 0, -2)), (32, (.ireturn, 33, 0, 0, 0)), (33, (.aload 0, 34, 0, 0, 0)), (34, (.iconst 0, 35, 0, 0, -1)), (35, (.putfield 0, 38, 12, 33, 0)), (38, (.iconst 0, 39, 0, 0, 0)), (39, (.istore 0, 41, 4, 0, 0)), (41, (.iload 0, 43, 4, 0, 0)), (43, (.iconst 0, 44, 0, 0, 4)), (44, (.if_icmp .ge 0, 47, 67, 0, 0)), (47, (.aload 0, 48, 0, 0, 0)), (48, (.iload 0, 49, 1, 0, 0)), (49, (.aload 0, 50, 0, 0, 0)), (50, (.iload 0, 51, 1, 0, 0)), (51, (.invokevirtual 12, 54, 84, 2, 1)), (54, (.iconst 0, 55, 0, 0, 0)), (55, (.iload 0, 57, 4, 0, 0)), (57, (.iload 0, 58, 2, 0, 0)), (58, (.invokevirtual 12, 61, 141, 6, 0)), (61, (.iinc 0 0, 64, 4, 0, 1)), (64, (.goto 0, 67, 41, 0, 0)), (67, (.aload 0, 68, 0, 0, 0)), (68, (.iload 0, 69, 3, 0, 0)), (69, (.invokevirtual 12, 72, 142, 2, 1)), (72, (.ireturn, 73, 0, 0, 0))]
def cd_M_questions : List (Nat × ab_E) := [(0, (.aload 0, 1, 0, 0, 0)), (1, (.iconst 0, 2, 0, 0, 0)), (2, (.putfield 0, 5, 12, 0, 0)), (5, (.aload 0, 6, 0, 0, 0)), (6, (.iload 0, 7, 1, 0, 0)), (7, (.i2l, 8, 0, 0, 0)), (8, (.invokevirtual 12, 11, 75, 2, 1)), (11, (.ifCond .eq 0, 14, 36, 0, 0)), (14, (.aload 0, 15, 0, 0, 0)), (15, (.iload 0, 16, 2, 0, 0)), (16, (.i2l, 17, 0, 0, 0)), (17, (.invokevirtual 12, 20, 75, 2, 1)), (20, (.ifCond .eq 0, 23, 36, 0, 0)), (23, (.iload 0, 24, 1, 0, 0)), (24, (.iload 0, 25, 2, 0, 0)), (25, (.if_icmp .eq 0, 28, 36, 0, 0)), (28, (.iload 0, 30, 4, 0, 0)), (30, (.invokestatic 0, 33, 143, 1, 1)), (33, (.ifCond .ne 0, 36, 39, 0, 0)), (36, (.iconst 0, 38, 0, 0, -2)), (38, (.ireturn, 39, 0, 0, 0)), (39, (.iload 0, 40, 3, 0, 0)), (40, (.i2l, 41, 0, 0, 0)), (41, (.ldc2_w 0, 42, 0, 0, 0)), (42, (.ldc2_w 0, 45, 0, 0, 3)), (45, (.invokestatic 0, 48, 53, 3, 1)), (48, (.ifCond .ne 0, 51, 54, 0, 0)), (51, (.iconst 0, 53, 0, 0, -3)), (53, (.ireturn, 54, 0, 0, 0)), (54, (.aload 0, 55, 0, 0, 0)), (55, (.iconst 0, 56, 0, 0, -1)), (56, (.putfield 0, 59, 12, 33, 0)), (59, (.iconst 0, 60, 0, 0, 0)), (60, (.istore 0, 62, 5, 0, 0)), (62, (.iload 0, 64, 5, 0, 0)), (64, (.iload 0, 65, 3, 0, 0)), (65, (.if_icmp .gt 0, 68, 88, 0, 0)), (68, (.aload 0, 69, 0, 0, 0)), (69, (.iload 0, 70, 1, 0, 0)), (70, (.aload 0, 71, 0, 0, 0)), (71, (.iload 0, 72, 2, 0, 0)), (72, (.invokevirtual 12, 75, 84, 2, 1)), (75, (.iconst 0, 76, 0, 0, 0)), (76, (.iload 0, 78, 5, 0, 0)), (78, (.iconst 0, 79, 0, 0, -1)), (79, (.invokevirtual 12, 82, 141, 6, 0)), (82, (.iinc 0 0, 85, 5, 0, 1)), (85, (.goto 0, 88, 62, 0, 0)), (88, (.aload 0, 89, 0, 0, 0)), (89, (.iload 0, 91, 4, 0, 0)), (91, (.invokevirtual 12, 94, 142, 2, 1)), (94, (.ireturn, 95, 0, 0, 0))]
def cd_M_asked : List (Nat × ab_E) := [(0, (.aload 0, 1, 0, 0, 0)), (1, (.iconst 0, 2, 0, 0, 0)), (2, (.putfield 0, 5, 12, 0, 0)), (5, (.aload 0, 6, 0, 0, 0)), (6, (.iload 0, 7, 1, 0, 0)), (7, (.invokevirtual 12, 10, 76, 2, 1)), (10, (.ifCond .ne 0, 13, 16, 0, 0)), (13, (.iconst 0, 15, 0, 0, -3)), (15, (.ireturn, 16, 0, 0, 0)), (16, (.iconst 0, 17, 0, 0, 0)), (17, (.istore 0, 18, 2, 0, 0)), (18, (.iconst 0, 19, 0, 0, 0)), (19, (.istore 0, 20, 3, 0, 0)), (20, (.iload 0, 21, 3, 0, 0)), (21, (.aload 0, 22, 0, 0, 0)), (22, (.getfield 0, 25, 12, 1, 3)), (25, (.iconst 0, 28, 0, 0, 152)), (28, (.iaload, 29, 0, 0, 0)), (29, (.if_icmp .ge 0, 32, 48, 0, 0)), (32, (.iload 0, 33, 2, 0, 0)), (33, (.aload 0, 34, 0, 0, 0)), (34, (.iload 0, 35, 3, 0, 0)), (35, (.invokevirtual 12, 38, 84, 2, 1)), (38, (.iload 0, 39, 1, 0, 0)), (39, (.iand, 40, 0, 0, 0)), (40, (.ior, 41, 0, 0, 0)), (41, (.istore 0, 42, 2, 0, 0)), (42, (.iinc 0 0, 45, 3, 0, 1)), (45, (.goto 0, 48, 20, 0, 0)), (48, (.iconst 0, 49, 0, 0, -1)), (49, (.istore 0, 50, 3, 0, 0)), (50, (.iconst 0, 51, 0, 0, 0)), (51, (.istore 0, 53, 4, 0, 0)), (53, (.iload 0, 55, 4, 0, 0)), (55, (.iconst 0, 56, 0, 0, 1)), (56, (.aload 0, 57, 0, 0, 0)), (57, (.getfield 0, 60, 12, 1, 3)), (60, (.iconst 0, 63, 0, 0, 152)), (63, (.iaload, 64, 0, 0, 0)), (64, (.ishl, 65, 0, 0, 0)), (65, (.if_icmp .ge 0, 68, 157, 0, 0)), (68, (.iconst 0, 69, 0, 0, 0)), (69, (.istore 0, 71, 5, 0, 0)), (71, (.iconst 0, 72, 0, 0, 0)), (72, (.istore 0, 74, 6, 0, 0)), (74, (.iload 0, 76, 6, 0, 0)), (76, (.aload 0, 77, 0, 0, 0)), (77, (.getfield 0, 80, 12, 1, 3)), (80, (.iconst 0, 83, 0, 0, 152)), (83, (.iaload, 84, 0, 0, 0)), (84, (.if_icmp .ge 0, 87, 119, 0, 0)), (87, (.iload 0, 89, 5, 0, 0)), (89, (.iload 0, 91, 4, 0, 0)), (91, (.iload 0, 93, 6, 0, 0)), (93, (.ishr, 94, 0, 0, 0)), (94, (.iconst 0, 95, 0, 0, 1)), (95, (.iand, 96, 0, 0, 0)), (96, (.iconst 0, 97, 0, 0, 1)), (97, (.if_icmp .ne 0, 100, 109, 0, 0)), (100, (.aload 0, 101, 0, 0, 0)), (101, (.iload 0, 103, 6, 0, 0)), (103, (.invokevirtual 12, 106, 84, 2, 1)), (106, (.goto 0, 109, 110, 0, 0)), (109, (.iconst 0, 110, 0, 0, 0)), (110, (.ior, 111, 0, 0, 0)), (111, (.istore 0, 113, 5, 0, 0)), (113, (.iinc 0 0, 116, 6, 0, 1)), (116, (.goto 0, 119, 74, 0, 0)), (119, (.iload 0, 120, 2, 0, 0)), (120, (.iload 0, 122, 5, 0, 0)), (122, (.iconst 0, 123, 0, 0, -1)), (123, (.ixor, 124, 0, 0, 0)), (124, (.iand, 125, 0, 0, 0)), (125, (.ifCond .ne 0, 128, 151, 0, 0)), (128, (.iload 0, 129, 3, 0, 0)), (129, (.iconst 0, 130, 0, 0, -1)), (130, (.if_icmp .eq 0, 133, 148, 0, 0)), (133, (.iload 0, 135, 4, 0, 0)), (135, (.invokestatic 0, 138, 106, 1, 1)), (138, (.iload 0, 139, 3, 0, 0)), (139, (.invokestatic 0, 142, 106, 1, 1)), (142, (.if_icmp .lt 0, 145, 148, 0, 0)), (145, (.goto 0, 148, 151, 0, 0)), (148, (.iload 0, 150, 4, 0, 0)), (150, (.istore 0, 151, 3, 0, 0)), (151, (.iinc 0 0, 154, 4, 0, 1)), (154, (.goto 0, 157, 53, 0, 0)), (157, (.iload 0, 158, 3, 0, 0)), (158, (.ireturn, 159, 0, 0, 0))]
def cd_M_broken : List (Nat × ab_E) := [(0, (.aload 0, 1, 0, 0, 0)), (1, (.iconst 0, 2, 0, 0, 0)), (2, (.putfield 0, 5, 12, 0, 0)), (5, (.aload 0, 6, 0, 0, 0)), (6, (.iload 0, 7, 1, 0, 0)), (7, (.i2l, 8, 0, 0, 0)), (8, (.invokevirtual 12, 11, 75, 2, 1)), (11, (.ifCond .ne 0, 14, 17, 0, 0)), (14, (.iconst 0, 16, 0, 0, -2)), (16, (.ireturn, 17, 0, 0, 0)), (17, (.aload 0, 18, 0, 0, 0)), (18, (.iload 0, 19, 2, 0, 0)), (19, (.invokevirtual 12, 22, 76, 2, 1)), (22, (.ifCond .ne 0, 25, 28, 0, 0)), (25, (.iconst 0, 27, 0, 0, -3)), (27, (.ireturn, 28, 0, 0, 0)), (28, (.iconst 0, 29, 0, 0, 0)), (29, (.istore 0, 30, 3, 0, 0)), (30, (.iconst 0, 31, 0, 0, 0)), (31, (.istore 0, 33, 4, 0, 0)), (33, (.iload 0, 35, 4, 0, 0)), (35, (.aload 0, 36, 0, 0, 0)), (36, (.getfield 0, 39, 12, 1, 3)), (39, (.iconst 0, 42, 0, 0, 152)), (42, (.iaload, 43, 0, 0, 0)), (43, (.if_icmp .ge 0, 46, 71, 0, 0)), (46, (.iload 0, 47, 3, 0, 0)), (47, (.iload 0, 49, 4, 0, 0)), (49, (.iload 0, 50, 1, 0, 0)), (50, (.if_icmp .ne 0, 53, 57, 0, 0)), (53, (.iconst 0, 54, 0, 0, 0)), (54, (.goto 0, 57, 63, 0, 0)), (57, (.aload 0, 58, 0, 0, 0)), (58, (.iload 0, 60, 4, 0, 0)), (60, (.invokevirtual 12, 63, 84, 2, 1)), (63, (.ior, 64, 0, 0, 0)), (64, (.istore 0, 65, 3, 0, 0)), (65, (.iinc 0 0, 68, 4, 0, 1)), (68, (.goto 0, 71, 33, 0, 0)), (71, (.aload 0, 72, 0, 0, 0)), (72, (.iload 0, 73, 1, 0, 0)), (73, (.invokevirtual 12, 76, 84, 2, 1)), (76, (.iload 0, 77, 2, 0, 0)), (77, (.iand, 78, 0, 0, 0)), (78, (.iload 0, 79, 3, 0, 0)), (79, (.iconst 0, 80, 0, 0, -1)), (80, (.ixor, 81, 0, 0, 0)), (81, (.iand, 82, 0, 0, 0)), (82, (.ireturn, 83, 0, 0, 0))]
def cd_M_piece : List (Nat × ab_E) := [(0, (.aload 0, 1, 0, 0, 0)), (1, (.iconst 0, 2, 0, 0, 0)), (2, (.putfield 0, 5, 12, 0, 0)), (5, (.iload 0, 6, 1, 0, 0)), (6, (.i2l, 7, 0, 0, 0)), (7, (.ldc2_w 0, 8, 0, 0, 0)), (8, (.ldc2_w 0, 11, 0, 0, 3)), (11, (.invokestatic 0, 14, 53, 3, 1)), (14, (.ifCond .ne 0, 17, 20, 0, 0)), (17, (.iconst 0, 19, 0, 0, -2)), (19, (.ireturn, 20, 0, 0, 0)), (20, (.aload 0, 21, 0, 0, 0)), (21, (.getfield 0, 24, 12, 37, 3)), (24, (.iload 0, 25, 1, 0, 0)), (25, (.iaload, 26, 0, 0, 0)), (26, (.iconst 0, 27, 0, 0, -1)), (27, (.if_icmp .ne 0, 30, 33, 0, 0)), (30, (.iconst 0, 32, 0, 0, -6)), (32, (.ireturn, 33, 0, 0, 0)), (33, (.aload 0, 34, 0, 0, 0)), (34, (.getfield 0, 37, 12, 1, 3)), (37, (.iconst 0, 40, 0, 0, 356)), (40, (.iaload, 41, 0, 0, 0)), (41, (.istore 0, 42, 2, 0, 0)), (42, (.iload 0, 43, 2, 0, 0)), (43, (.iconst 0, 45, 0, 0, 6)), (45, (.if_icmp .ne 0, 48, 51, 0, 0)), (48, (.iconst 0, 50, 0, 0, -4)), (50, (.ireturn, 51, 0, 0, 0)), (51, (.aload 0, 52, 0, 0, 0)), (52, (.getfield 0, 55, 12, 38, 3)), (55, (.iload 0, 56, 1, 0, 0)), (56, (.iaload, 57, 0, 0, 0)), (57, (.i2l, 58, 0, 0, 0)), (58, (.ldc2_w 0, 59, 0, 0, 1)), (59, (.ldc2_w 0, 62, 0, 0, 8)), (62, (.invokestatic 0, 65, 53, 3, 1)), (65, (.ifCond .eq 0, 68, 76, 0, 0)), (68, (.aload 0, 69, 0, 0, 0)), (69, (.iload 0, 70, 1, 0, 0)), (70, (.invokevirtual 12, 73, 114, 2, 1)), (73, (.ifCond .ne 0, 76, 79, 0, 0)), (76, (.iconst 0, 78, 0, 0, -3)), (78, (.ireturn, 79, 0, 0, 0)), (79, (.aload 0, 80, 0, 0, 0)), (80, (.getfield 0, 83, 12, 1, 3)), (83, (.iconst 0, 86, 0, 0, 357)), (86, (.iload 0, 87, 2, 0, 0)), (87, (.iadd, 88, 0, 0, 0)), (88, (.aload 0, 89, 0, 0, 0)), (89, (.getfield 0, 92, 12, 38, 3)), (92, (.iload 0, 93, 1, 0, 0)), (93, (.iaload, 94, 0, 0, 0)), (94, (.iastore, 95, 0, 0, 0)), (95, (.iconst 0, 96, 0, 0, 0)), (96, (.istore 0, 97, 3, 0, 0)), (97, (.iload 0, 98, 3, 0, 0)), (98, (.aload 0, 99, 0, 0, 0)), (99, (.getfield 0, 102, 12, 38, 3)), (102, (.iload 0, 103, 1, 0, 0)), (103, (.iaload, 104, 0, 0, 0)), (104, (.if_icmp .ge 0, 107, 140, 0, 0)), (107, (.aload 0, 108, 0, 0, 0)), (108, (.getfield 0, 111, 12, 1, 3)), (111, (.iconst 0, 114, 0, 0, 363)), (114, (.iconst 0, 116, 0, 0, 8)), (116, (.iload 0, 117, 2, 0, 0)), (117, (.imul, 118, 0, 0, 0)), (118, (.iadd, 119, 0, 0, 0)), (119, (.iload 0, 120, 3, 0, 0)), (120, (.iadd, 121, 0, 0, 0)), (121, (.aload 0, 122, 0, 0, 0)), (122, (.getfield 0, 125, 12, 39, 3)), (125, (.iconst 0, 127, 0, 0, 40)), (127, (.iload 0, 128, 1, 0, 0)), (128, (.imul, 129, 0, 0, 0)), (129, (.iload 0, 130, 3, 0, 0)), (130, (.iadd, 131, 0, 0, 0)), (131, (.laload, 132, 0, 0, 0)), (132, (.l2i, 133, 0, 0, 0)), (133, (.iastore, 134, 0, 0, 0)), (134, (.iinc 0 0, 137, 3, 0, 1)), (137, (.goto 0, 140, 97, 0, 0)), (140, (.aload 0, 141, 0, 0, 0)), (141, (.getfield 0, 144, 12, 1, 3)), (144, (.iconst 0, 147, 0, 0, 356)), (147, (.dup2, 148, 0, 0, 0)), (148, (.iaload, 149, 0, 0, 0)), (149, (.iconst 0, 150, 0, 0, 1)), (150, (.iadd, 151, 0, 0, 0)), (151, (.iastore, 152, 0, 0, 0)), (152, (.aload 0, 153, 0, 0, 0)), (153, (.getfield 0, 156, 12, 1, 3)), (156, (.iconst 0, 159, 0, 0, 356)), (159, (.iaload, 160, 0, 0, 0)), (160, (.ireturn, 161, 0, 0, 0))]
def cd_M_stands : List (Nat × ab_E) := [(0, (.iload 0, 2, 4, 0, 0)), (2, (.aload 0, 3, 0, 0, 0)), (3, (.getfield 0, 6, 12, 1, 3)), (6, (.iconst 0, 9, 0, 0, 357)), (9, (.iload 0, 10, 1, 0, 0)), (10, (.iadd, 11, 0, 0, 0)), (11, (.iaload, 12, 0, 0, 0)), (12, (.iadd, 13, 0, 0, 0)), (13, (.iload 0, 14, 3, 0, 0)), (14, (.if_icmp .le 0, 17, 19, 0, 0)), (17, (.iconst 0, 18, 0, 0, 0)), (18, (.ireturn, 19, 1, 0, 0)), (19, (.iconst 0, 20, 0, 0, 0)), (20, (.istore 0, 22, 5, 0, 0)), (22, (.iload 0, 24, 5, 0, 0)), (24, (.aload 0, 25, 0, 0, 0)), (25, (.getfield 0, 28, 12, 1, 3)), (28, (.iconst 0, 31, 0, 0, 357)), (31, (.iload 0, 32, 1, 0, 0)), (32, (.iadd, 33, 0, 0, 0)), (33, (.iaload, 34, 0, 0, 0)), (34, (.if_icmp .ge 0, 37, 71, 0, 0)), (37, (.aload 0, 38, 2, 0, 0)), (38, (.iload 0, 40, 4, 0, 0)), (40, (.iload 0, 42, 5, 0, 0)), (42, (.iadd, 43, 0, 0, 0)), (43, (.iaload, 44, 0, 0, 0)), (44, (.aload 0, 45, 0, 0, 0)), (45, (.getfield 0, 48, 12, 1, 3)), (48, (.iconst 0, 51, 0, 0, 363)), (51, (.iconst 0, 53, 0, 0, 8)), (53, (.iload 0, 54, 1, 0, 0)), (54, (.imul, 55, 0, 0, 0)), (55, (.iadd, 56, 0, 0, 0)), (56, (.iload 0, 58, 5, 0, 0)), (58, (.iadd, 59, 0, 0, 0)), (59, (.iaload, 60, 0, 0, 0)), (60, (.if_icmp .eq 0, 63, 65, 0, 0)), (63, (.iconst 0, 64, 0, 0, 0)), (64, (.ireturn, 65, 1, 0, 0)), (65, (.iinc 0 0, 68, 5, 0, 1)), (68, (.goto 0, 71, 22, 0, 0)), (71, (.iconst 0, 72, 0, 0, 1)), (72, (.ireturn, 73, 1, 0, 0))]
def cd_M_isWithin : List (Nat × ab_E) := [(0, (.iconst 0, 1, 0, 0, 0)), (1, (.istore 0, 2, 2, 0, 0)), (2, (.iload 0, 3, 2, 0, 0)), (3, (.aload 0, 4, 0, 0, 0)), (4, (.getfield 0, 7, 12, 1, 3)), (7, (.iconst 0, 10, 0, 0, 356)), (10, (.iaload, 11, 0, 0, 0)), (11, (.if_icmp .ge 0, 14, 169, 0, 0)), (14, (.iload 0, 15, 2, 0, 0)), (15, (.iload 0, 16, 1, 0, 0)), (16, (.if_icmp .eq 0, 19, 163, 0, 0)), (19, (.aload 0, 20, 0, 0, 0)), (20, (.getfield 0, 23, 12, 1, 3)), (23, (.iconst 0, 26, 0, 0, 357)), (26, (.iload 0, 27, 2, 0, 0)), (27, (.iadd, 28, 0, 0, 0)), (28, (.iaload, 29, 0, 0, 0)), (29, (.aload 0, 30, 0, 0, 0)), (30, (.getfield 0, 33, 12, 1, 3)), (33, (.iconst 0, 36, 0, 0, 357)), (36, (.iload 0, 37, 1, 0, 0)), (37, (.iadd, 38, 0, 0, 0)), (38, (.iaload, 39, 0, 0, 0)), (39, (.if_icmp .lt 0, 42, 163, 0, 0)), (42, (.aload 0, 43, 0, 0, 0)), (43, (.getfield 0, 46, 12, 1, 3)), (46, (.iconst 0, 49, 0, 0, 357)), (49, (.iload 0, 50, 2, 0, 0)), (50, (.iadd, 51, 0, 0, 0)), (51, (.iaload, 52, 0, 0, 0)), (52, (.aload 0, 53, 0, 0, 0)), (53, (.getfield 0, 56, 12, 1, 3)), (56, (.iconst 0, 59, 0, 0, 357)), (59, (.iload 0, 60, 1, 0, 0)), (60, (.iadd, 61, 0, 0, 0)), (61, (.iaload, 62, 0, 0, 0)), (62, (.if_icmp .ne 0, 65, 73, 0, 0)), (65, (.iload 0, 66, 2, 0, 0)), (66, (.iload 0, 67, 1, 0, 0)), (67, (.if_icmp .le 0, 70, 73, 0, 0)), (70, (.goto 0, 73, 163, 0, 0)), (73, (.iconst 0, 74, 0, 0, 0)), (74, (.istore 0, 75, 3, 0, 0)), (75, (.iload 0, 76, 3, 0, 0)), (76, (.aload 0, 77, 0, 0, 0)), (77, (.getfield 0, 80, 12, 1, 3)), (80, (.iconst 0, 83, 0, 0, 357)), (83, (.iload 0, 84, 2, 0, 0)), (84, (.iadd, 85, 0, 0, 0)), (85, (.iaload, 86, 0, 0, 0)), (86, (.if_icmp .ge 0, 89, 116, 0, 0)), (89, (.aload 0, 90, 0, 0, 0)), (90, (.getfield 0, 93, 12, 34, 3)), (93, (.iload 0, 94, 3, 0, 0)), (94, (.aload 0, 95, 0, 0, 0)), (95, (.getfield 0, 98, 12, 1, 3)), (98, (.iconst 0, 101, 0, 0, 363)), (101, (.iconst 0, 103, 0, 0, 8)), (103, (.iload 0, 104, 2, 0, 0)), (104, (.imul, 105, 0, 0, 0)), (105, (.iadd, 106, 0, 0, 0)), (106, (.iload 0, 107, 3, 0, 0)), (107, (.iadd, 108, 0, 0, 0)), (108, (.iaload, 109, 0, 0, 0)), (109, (.iastore, 110, 0, 0, 0)), (110, (.iinc 0 0, 113, 3, 0, 1)), (113, (.goto 0, 116, 75, 0, 0)), (116, (.iconst 0, 117, 0, 0, 0)), (117, (.istore 0, 118, 3, 0, 0)), (118, (.iload 0, 119, 3, 0, 0)), (119, (.aload 0, 120, 0, 0, 0)), (120, (.getfield 0, 123, 12, 1, 3)), (123, (.iconst 0, 126, 0, 0, 357)), (126, (.iload 0, 127, 2, 0, 0)), (127, (.iadd, 128, 0, 0, 0)), (128, (.iaload, 129, 0, 0, 0)), (129, (.if_icmp .ge 0, 132, 163, 0, 0)), (132, (.aload 0, 133, 0, 0, 0)), (133, (.iload 0, 134, 1, 0, 0)), (134, (.aload 0, 135, 0, 0, 0)), (135, (.getfield 0, 138, 12, 34, 3)), (138, (.aload 0, 139, 0, 0, 0)), (139, (.getfield 0, 142, 12, 1, 3)), (142, (.iconst 0, 145, 0, 0, 357)), (145, (.iload 0, 146, 2, 0, 0)), (146, (.iadd, 147, 0, 0, 0)), (147, (.iaload, 148, 0, 0, 0)), (148, (.iload 0, 149, 3, 0, 0)), (149, (.invokevirtual 12, 152, 149, 5, 1)), (152, (.ifCond .eq 0, 155, 157, 0, 0)), (155, (.iconst 0, 156, 0, 0, 1)), (156, (.ireturn, 157, 1, 0, 0)), (157, (.iinc 0 0, 160, 3, 0, 1)), (160, (.goto 0, 163, 118, 0, 0)), (163, (.iinc 0 0, 166, 2, 0, 1)), (166, (.goto 0, 169, 2, 0, 0)), (169, (.iconst 0, 170, 0, 0, 0)), (170, (.ireturn, 171, 1, 0, 0))]
def cd_M_lays : List (Nat × ab_E) := [(0, (.aload 0, 1, 0, 0, 0)), (1, (.getfield 0, 4, 12, 1, 3)), (4, (.iconst 0, 7, 0, 0, 357)), (7, (.iload 0, 8, 1, 0, 0)), (8, (.iadd, 9, 0, 0, 0)), (9, (.iaload, 10, 0, 0, 0)), (10, (.istore 0, 11, 3, 0, 0)), (11, (.iload 0, 12, 3, 0, 0)), (12, (.iload 0, 13, 2, 0, 0)), (13, (.if_icmp .ge 0, 16, 20, 0, 0)), (16, (.iload 0, 17, 3, 0, 0)), (17, (.goto 0, 20, 21, 0, 0)), (20, (.iload 0, 21, 2, 0, 0)), (21, (.istore 0, 23, 4, 0, 0)), (23, (.iconst 0, 24, 0, 0, 0)), (24, (.istore 0, 26, 5, 0, 0)), (26, (.iload 0, 28, 5, 0, 0)), (28, (.ifCond .ne 0, 31, 104, 0, 0)), (31, (.iconst 0, 32, 0, 0, 1)), (32, (.istore 0, 34, 5, 0, 0)), (34, (.iconst 0, 35, 0, 0, 0)), (35, (.istore 0, 37, 6, 0, 0)), (37, (.iload 0, 39, 6, 0, 0)), (39, (.iload 0, 41, 4, 0, 0)), (41, (.if_icmp .ge 0, 44, 93, 0, 0)), (44, (.iload 0, 46, 5, 0, 0)), (46, (.ifCond .eq 0, 49, 84, 0, 0)), (49, (.aload 0, 50, 0, 0, 0)), (50, (.getfield 0, 53, 12, 34, 3)), (53, (.iload 0, 54, 2, 0, 0)), (54, (.iload 0, 56, 4, 0, 0)), (56, (.isub, 57, 0, 0, 0)), (57, (.iload 0, 59, 6, 0, 0)), (59, (.iadd, 60, 0, 0, 0)), (60, (.iaload, 61, 0, 0, 0)), (61, (.aload 0, 62, 0, 0, 0)), (62, (.getfield 0, 65, 12, 1, 3)), (65, (.iconst 0, 68, 0, 0, 363)), (68, (.iconst 0, 70, 0, 0, 8)), (70, (.iload 0, 71, 1, 0, 0)), (71, (.imul, 72, 0, 0, 0)), (72, (.iadd, 73, 0, 0, 0)), (73, (.iload 0, 75, 6, 0, 0)), (75, (.iadd, 76, 0, 0, 0)), (76, (.iaload, 77, 0, 0, 0)), (77, (.if_icmp .ne 0, 80, 84, 0, 0)), (80, (.iconst 0, 81, 0, 0, 1)), (81, (.goto 0, 84, 85, 0, 0)), (84, (.iconst 0, 85, 0, 0, 0)), (85, (.istore 0, 87, 5, 0, 0)), (87, (.iinc 0 0, 90, 6, 0, 1)), (90, (.goto 0, 93, 37, 0, 0)), (93, (.iload 0, 95, 5, 0, 0)), (95, (.ifCond .ne 0, 98, 26, 0, 0)), (98, (.iinc 0 0, 101, 4, 0, -1)), (101, (.goto 0, 104, 26, 0, 0)), (104, (.iload 0, 106, 4, 0, 0)), (106, (.istore 0, 108, 6, 0, 0)), (108, (.iload 0, 110, 6, 0, 0)), (110, (.iload 0, 111, 3, 0, 0)), (111, (.if_icmp .ge 0, 114, 148, 0, 0)), (114, (.aload 0, 115, 0, 0, 0)), (115, (.getfield 0, 118, 12, 34, 3)), (118, (.iload 0, 119, 2, 0, 0)), (119, (.iload 0, 121, 4, 0, 0)), (121, (.isub, 122, 0, 0, 0)), (122, (.iload 0, 124, 6, 0, 0)), (124, (.iadd, 125, 0, 0, 0)), (125, (.aload 0, 126, 0, 0, 0)), (126, (.getfield 0, 129, 12, 1, 3)), (129, (.iconst 0, 132, 0, 0, 363)), (132, (.iconst 0, 134, 0, 0, 8)), (134, (.iload 0, 135, 1, 0, 0)), (135, (.imul, 136, 0, 0, 0)), (136, (.iadd, 137, 0, 0, 0)), (137, (.iload 0, 139, 6, 0, 0)), (139, (.iadd, 140, 0, 0, 0)), (140, (.iaload, 141, 0, 0, 0)), (141, (.iastore, 142, 0, 0, 0)), (142, (.iinc 0 0, 145, 6, 0, 1)), (145, (.goto 0, 148, 108, 0, 0)), (148, (.iload 0, 149, 2, 0, 0)), (149, (.iload 0, 150, 3, 0, 0)), (150, (.iadd, 151, 0, 0, 0)), (151, (.iload 0, 153, 4, 0, 0)), (153, (.isub, 154, 0, 0, 0)), (154, (.ireturn, 155, 0, 0, 0))]
def cd_M_isFirst : List (Nat × ab_E) := [(0, (.iconst 0, 1, 0, 0, 0)), (1, (.istore 0, 2, 2, 0, 0)), (2, (.iload 0, 3, 2, 0, 0)), (3, (.iload 0, 4, 1, 0, 0)), (4, (.if_icmp .ge 0, 7, 49, 0, 0)), (7, (.aload 0, 8, 0, 0, 0)), (8, (.getfield 0, 11, 12, 34, 3)), (11, (.iload 0, 12, 2, 0, 0)), (12, (.iaload, 13, 0, 0, 0)), (13, (.aload 0, 14, 0, 0, 0)), (14, (.getfield 0, 17, 12, 35, 3)), (17, (.iload 0, 18, 2, 0, 0)), (18, (.iaload, 19, 0, 0, 0)), (19, (.if_icmp .eq 0, 22, 43, 0, 0)), (22, (.aload 0, 23, 0, 0, 0)), (23, (.getfield 0, 26, 12, 34, 3)), (26, (.iload 0, 27, 2, 0, 0)), (27, (.iaload, 28, 0, 0, 0)), (28, (.aload 0, 29, 0, 0, 0)), (29, (.getfield 0, 32, 12, 35, 3)), (32, (.iload 0, 33, 2, 0, 0)), (33, (.iaload, 34, 0, 0, 0)), (34, (.if_icmp .ge 0, 37, 41, 0, 0)), (37, (.iconst 0, 38, 0, 0, 1)), (38, (.goto 0, 41, 42, 0, 0)), (41, (.iconst 0, 42, 0, 0, 0)), (42, (.ireturn, 43, 1, 0, 0)), (43, (.iinc 0 0, 46, 2, 0, 1)), (46, (.goto 0, 49, 2, 0, 0)), (49, (.iconst 0, 50, 0, 0, 0)), (50, (.ireturn, 51, 1, 0, 0))]
def cd_M_joins : List (Nat × ab_E) := [(0, (.iload 0, 1, 1, 0, 0)), (1, (.ifCond .ne 0, 4, 68, 0, 0)), (4, (.aload 0, 5, 0, 0, 0)), (5, (.getfield 0, 8, 12, 36, 0)), (8, (.iconst 0, 9, 0, 0, -1)), (9, (.if_icmp .eq 0, 12, 37, 0, 0)), (12, (.iload 0, 13, 2, 0, 0)), (13, (.aload 0, 14, 0, 0, 0)), (14, (.getfield 0, 17, 12, 36, 0)), (17, (.if_icmp .gt 0, 20, 36, 0, 0)), (20, (.iload 0, 21, 2, 0, 0)), (21, (.aload 0, 22, 0, 0, 0)), (22, (.getfield 0, 25, 12, 36, 0)), (25, (.if_icmp .ne 0, 28, 37, 0, 0)), (28, (.aload 0, 29, 0, 0, 0)), (29, (.iload 0, 30, 2, 0, 0)), (30, (.invokevirtual 12, 33, 152, 2, 1)), (33, (.ifCond .ne 0, 36, 37, 0, 0)), (36, (.return_, 37, 0, 0, 0)), (37, (.aload 0, 38, 0, 0, 0)), (38, (.iload 0, 39, 2, 0, 0)), (39, (.putfield 0, 42, 12, 36, 0)), (42, (.iconst 0, 43, 0, 0, 0)), (43, (.istore 0, 44, 3, 0, 0)), (44, (.iload 0, 45, 3, 0, 0)), (45, (.iload 0, 46, 2, 0, 0)), (46, (.if_icmp .ge 0, 49, 67, 0, 0)), (49, (.aload 0, 50, 0, 0, 0)), (50, (.getfield 0, 53, 12, 35, 3)), (53, (.iload 0, 54, 3, 0, 0)), (54, (.aload 0, 55, 0, 0, 0)), (55, (.getfield 0, 58, 12, 34, 3)), (58, (.iload 0, 59, 3, 0, 0)), (59, (.iaload, 60, 0, 0, 0)), (60, (.iastore, 61, 0, 0, 0)), (61, (.iinc 0 0, 64, 3, 0, 1)), (64, (.goto 0, 67, 44, 0, 0)), (67, (.return_, 68, 0, 0, 0)), (68, (.iconst 0, 69, 0, 0, 0)), (69, (.istore 0, 70, 3, 0, 0)), (70, (.iload 0, 71, 3, 0, 0)), (71, (.aload 0, 72, 0, 0, 0)), (72, (.getfield 0, 75, 12, 1, 3)), (75, (.iconst 0, 78, 0, 0, 356)), (78, (.iaload, 79, 0, 0, 0)), (79, (.if_icmp .ge 0, 82, 114, 0, 0)), (82, (.iload 0, 83, 1, 0, 0)), (83, (.iload 0, 84, 3, 0, 0)), (84, (.ishr, 85, 0, 0, 0)), (85, (.iconst 0, 86, 0, 0, 1)), (86, (.iand, 87, 0, 0, 0)), (87, (.iconst 0, 88, 0, 0, 1)), (88, (.if_icmp .ne 0, 91, 108, 0, 0)), (91, (.aload 0, 92, 0, 0, 0)), (92, (.iload 0, 93, 1, 0, 0)), (93, (.iconst 0, 94, 0, 0, 1)), (94, (.iload 0, 95, 3, 0, 0)), (95, (.ishl, 96, 0, 0, 0)), (96, (.iconst 0, 97, 0, 0, -1)), (97, (.ixor, 98, 0, 0, 0)), (98, (.iand, 99, 0, 0, 0)), (99, (.aload 0, 100, 0, 0, 0)), (100, (.iload 0, 101, 3, 0, 0)), (101, (.iload 0, 102, 2, 0, 0)), (102, (.invokevirtual 12, 105, 151, 3, 1)), (105, (.invokevirtual 12, 108, 153, 3, 0)), (108, (.iinc 0 0, 111, 3, 0, 1)), (111, (.goto 0, 114, 70, 0, 0)), (114, (.return_, 115, 0, 0, 0))]
def cd_M_joined : List (Nat × ab_E) := [(0, (.aload 0, 1, 0, 0, 0)), (1, (.iconst 0, 2, 0, 0, 0)), (2, (.putfield 0, 5, 12, 0, 0)), (5, (.iload 0, 6, 1, 0, 0)), (6, (.iconst 0, 7, 0, 0, -1)), (7, (.if_icmp .ge 0, 10, 13, 0, 0)), (10, (.iconst 0, 12, 0, 0, -3)), (12, (.ireturn, 13, 0, 0, 0)), (13, (.iconst 0, 14, 0, 0, 0)), (14, (.istore 0, 15, 2, 0, 0)), (15, (.iconst 0, 16, 0, 0, 0)), (16, (.istore 0, 17, 3, 0, 0)), (17, (.iload 0, 18, 3, 0, 0)), (18, (.aload 0, 19, 0, 0, 0)), (19, (.getfield 0, 22, 12, 1, 3)), (22, (.iconst 0, 25, 0, 0, 356)), (25, (.iaload, 26, 0, 0, 0)), (26, (.if_icmp .ge 0, 29, 53, 0, 0)), (29, (.iload 0, 30, 2, 0, 0)), (30, (.aload 0, 31, 0, 0, 0)), (31, (.iload 0, 32, 3, 0, 0)), (32, (.invokevirtual 12, 35, 150, 2, 1)), (35, (.ifCond .eq 0, 38, 42, 0, 0)), (38, (.iconst 0, 39, 0, 0, 0)), (39, (.goto 0, 42, 45, 0, 0)), (42, (.iconst 0, 43, 0, 0, 1)), (43, (.iload 0, 44, 3, 0, 0)), (44, (.ishl, 45, 0, 0, 0)), (45, (.ior, 46, 0, 0, 0)), (46, (.istore 0, 47, 2, 0, 0)), (47, (.iinc 0 0, 50, 3, 0, 1)), (50, (.goto 0, 53, 17, 0, 0)), (53, (.aload 0, 54, 0, 0, 0)), (54, (.iconst 0, 55, 0, 0, -1)), (55, (.putfield 0, 58, 12, 36, 0)), (58, (.aload 0, 59, 0, 0, 0)), (59, (.iload 0, 60, 2, 0, 0)), (60, (.iconst 0, 61, 0, 0, 0)), (61, (.invokevirtual 12, 64, 153, 3, 0)), (64, (.iload 0, 65, 1, 0, 0)), (65, (.iconst 0, 66, 0, 0, -1)), (66, (.if_icmp .ne 0, 69, 76, 0, 0)), (69, (.aload 0, 70, 0, 0, 0)), (70, (.getfield 0, 73, 12, 36, 0)), (73, (.goto 0, 76, 94, 0, 0)), (76, (.iload 0, 77, 1, 0, 0)), (77, (.aload 0, 78, 0, 0, 0)), (78, (.getfield 0, 81, 12, 36, 0)), (81, (.if_icmp .ge 0, 84, 93, 0, 0)), (84, (.aload 0, 85, 0, 0, 0)), (85, (.getfield 0, 88, 12, 35, 3)), (88, (.iload 0, 89, 1, 0, 0)), (89, (.iaload, 90, 0, 0, 0)), (90, (.goto 0, 93, 94, 0, 0)), (93, (.iconst 0, 94, 0, 0, -1)), (94, (.ireturn, 95, 0, 0, 0))]
def cd_M_firstIn : List (Nat × ab_E) := [(0, (.iconst 0, 1, 0, 0, 0)), (1, (.istore 0, 2, 3, 0, 0)), (2, (.iload 0, 3, 3, 0, 0)), (3, (.aload 0, 4, 0, 0, 0)), (4, (.getfield 0, 7, 12, 1, 3)), (7, (.iconst 0, 10, 0, 0, 357)), (10, (.iload 0, 11, 1, 0, 0)), (11, (.iadd, 12, 0, 0, 0)), (12, (.iaload, 13, 0, 0, 0)), (13, (.if_icmp .ge 0, 16, 43, 0, 0)), (16, (.aload 0, 17, 0, 0, 0)), (17, (.getfield 0, 20, 12, 1, 3)), (20, (.iconst 0, 23, 0, 0, 363)), (23, (.iconst 0, 25, 0, 0, 8)), (25, (.iload 0, 26, 1, 0, 0)), (26, (.imul, 27, 0, 0, 0)), (27, (.iadd, 28, 0, 0, 0)), (28, (.iload 0, 29, 3, 0, 0)), (29, (.iadd, 30, 0, 0, 0)), (30, (.iaload, 31, 0, 0, 0)), (31, (.iload 0, 32, 2, 0, 0)), (32, (.if_icmp .ne 0, 35, 37, 0, 0)), (35, (.iload 0, 36, 3, 0, 0)), (36, (.ireturn, 37, 0, 0, 0)), (37, (.iinc 0 0, 40, 3, 0, 1)), (40, (.goto 0, 43, 2, 0, 0)), (43, (.iconst 0, 44, 0, 0, -1)), (44, (.ireturn, 45, 0, 0, 0))]
def cd_M_areUnfit : List (Nat × ab_E) := [(0, (.iconst 0, 1, 0, 0, 0)), (1, (.istore 0, 2, 3, 0, 0)), (2, (.iload 0, 3, 3, 0, 0)), (3, (.aload 0, 4, 0, 0, 0)), (4, (.getfield 0, 7, 12, 1, 3)), (7, (.iconst 0, 8, 0, 0, 0)), (8, (.iaload, 9, 0, 0, 0)), (9, (.if_icmp .ge 0, 12, 117, 0, 0)), (12, (.iconst 0, 13, 0, 0, 0)), (13, (.istore 0, 15, 4, 0, 0)), (15, (.iload 0, 17, 4, 0, 0)), (17, (.aload 0, 18, 0, 0, 0)), (18, (.getfield 0, 21, 12, 1, 3)), (21, (.iconst 0, 22, 0, 0, 0)), (22, (.iaload, 23, 0, 0, 0)), (23, (.if_icmp .ge 0, 26, 111, 0, 0)), (26, (.aload 0, 27, 0, 0, 0)), (27, (.iload 0, 28, 1, 0, 0)), (28, (.iload 0, 29, 3, 0, 0)), (29, (.invokevirtual 12, 32, 155, 3, 1)), (32, (.iconst 0, 33, 0, 0, -1)), (33, (.if_icmp .eq 0, 36, 105, 0, 0)), (36, (.aload 0, 37, 0, 0, 0)), (37, (.iload 0, 38, 1, 0, 0)), (38, (.iload 0, 40, 4, 0, 0)), (40, (.invokevirtual 12, 43, 155, 3, 1)), (43, (.iconst 0, 44, 0, 0, -1)), (44, (.if_icmp .eq 0, 47, 105, 0, 0)), (47, (.aload 0, 48, 0, 0, 0)), (48, (.iload 0, 49, 2, 0, 0)), (49, (.iload 0, 50, 3, 0, 0)), (50, (.invokevirtual 12, 53, 155, 3, 1)), (53, (.iconst 0, 54, 0, 0, -1)), (54, (.if_icmp .eq 0, 57, 105, 0, 0)), (57, (.aload 0, 58, 0, 0, 0)), (58, (.iload 0, 59, 2, 0, 0)), (59, (.iload 0, 61, 4, 0, 0)), (61, (.invokevirtual 12, 64, 155, 3, 1)), (64, (.iconst 0, 65, 0, 0, -1)), (65, (.if_icmp .ne 0, 68, 71, 0, 0)), (68, (.goto 0, 71, 105, 0, 0)), (71, (.aload 0, 72, 0, 0, 0)), (72, (.iload 0, 73, 1, 0, 0)), (73, (.iload 0, 74, 3, 0, 0)), (74, (.invokevirtual 12, 77, 155, 3, 1)), (77, (.aload 0, 78, 0, 0, 0)), (78, (.iload 0, 79, 1, 0, 0)), (79, (.iload 0, 81, 4, 0, 0)), (81, (.invokevirtual 12, 84, 155, 3, 1)), (84, (.if_icmp .ge 0, 87, 105, 0, 0)), (87, (.aload 0, 88, 0, 0, 0)), (88, (.iload 0, 89, 2, 0, 0)), (89, (.iload 0, 90, 3, 0, 0)), (90, (.invokevirtual 12, 93, 155, 3, 1)), (93, (.aload 0, 94, 0, 0, 0)), (94, (.iload 0, 95, 2, 0, 0)), (95, (.iload 0, 97, 4, 0, 0)), (97, (.invokevirtual 12, 100, 155, 3, 1)), (100, (.if_icmp .le 0, 103, 105, 0, 0)), (103, (.iconst 0, 104, 0, 0, 1)), (104, (.ireturn, 105, 1, 0, 0)), (105, (.iinc 0 0, 108, 4, 0, 1)), (108, (.goto 0, 111, 15, 0, 0)), (111, (.iinc 0 0, 114, 3, 0, 1)), (114, (.goto 0, 117, 2, 0, 0)), (117, (.iconst 0, 118, 0, 0, 0)), (118, (.ireturn, 119, 1, 0, 0))]
def cd_M_unfit : List (Nat × ab_E) := [(0, (.aload 0, 1, 0, 0, 0)), (1, (.iconst 0, 2, 0, 0, 0)), (2, (.putfield 0, 5, 12, 0, 0)), (5, (.iconst 0, 6, 0, 0, 0)), (6, (.istore 0, 7, 1, 0, 0)), (7, (.iload 0, 8, 1, 0, 0)), (8, (.aload 0, 9, 0, 0, 0)), (9, (.getfield 0, 12, 12, 1, 3)), (12, (.iconst 0, 15, 0, 0, 356)), (15, (.iaload, 16, 0, 0, 0)), (16, (.if_icmp .ge 0, 19, 63, 0, 0)), (19, (.iload 0, 20, 1, 0, 0)), (20, (.iconst 0, 21, 0, 0, 1)), (21, (.iadd, 22, 0, 0, 0)), (22, (.istore 0, 23, 2, 0, 0)), (23, (.iload 0, 24, 2, 0, 0)), (24, (.aload 0, 25, 0, 0, 0)), (25, (.getfield 0, 28, 12, 1, 3)), (28, (.iconst 0, 31, 0, 0, 356)), (31, (.iaload, 32, 0, 0, 0)), (32, (.if_icmp .ge 0, 35, 57, 0, 0)), (35, (.aload 0, 36, 0, 0, 0)), (36, (.iload 0, 37, 1, 0, 0)), (37, (.iload 0, 38, 2, 0, 0)), (38, (.invokevirtual 12, 41, 156, 3, 1)), (41, (.ifCond .eq 0, 44, 51, 0, 0)), (44, (.iconst 0, 46, 0, 0, 10)), (46, (.iload 0, 47, 1, 0, 0)), (47, (.imul, 48, 0, 0, 0)), (48, (.iload 0, 49, 2, 0, 0)), (49, (.iadd, 50, 0, 0, 0)), (50, (.ireturn, 51, 0, 0, 0)), (51, (.iinc 0 0, 54, 2, 0, 1)), (54, (.goto 0, 57, 23, 0, 0)), (57, (.iinc 0 0, 60, 1, 0, 1)), (60, (.goto 0, 63, 7, 0, 0)), (63, (.iconst 0, 64, 0, 0, -1)), (64, (.ireturn, 65, 0, 0, 0))]
def cd_M_gaps : List (Nat × ab_E) := [(0, (.aload 0, 1, 0, 0, 0)), (1, (.iconst 0, 2, 0, 0, 0)), (2, (.putfield 0, 5, 12, 0, 0)), (5, (.iconst 0, 6, 0, 0, 1)), (6, (.aload 0, 7, 0, 0, 0)), (7, (.getfield 0, 10, 12, 1, 3)), (10, (.iconst 0, 11, 0, 0, 0)), (11, (.iaload, 12, 0, 0, 0)), (12, (.ishl, 13, 0, 0, 0)), (13, (.iconst 0, 14, 0, 0, 1)), (14, (.isub, 15, 0, 0, 0)), (15, (.istore 0, 16, 1, 0, 0)), (16, (.iconst 0, 17, 0, 0, 0)), (17, (.istore 0, 18, 2, 0, 0)), (18, (.iload 0, 19, 2, 0, 0)), (19, (.aload 0, 20, 0, 0, 0)), (20, (.getfield 0, 23, 12, 1, 3)), (23, (.iconst 0, 26, 0, 0, 356)), (26, (.iaload, 27, 0, 0, 0)), (27, (.if_icmp .ge 0, 30, 80, 0, 0)), (30, (.iconst 0, 31, 0, 0, 0)), (31, (.istore 0, 32, 3, 0, 0)), (32, (.iload 0, 33, 3, 0, 0)), (33, (.aload 0, 34, 0, 0, 0)), (34, (.getfield 0, 37, 12, 1, 3)), (37, (.iconst 0, 40, 0, 0, 357)), (40, (.iload 0, 41, 2, 0, 0)), (41, (.iadd, 42, 0, 0, 0)), (42, (.iaload, 43, 0, 0, 0)), (43, (.if_icmp .ge 0, 46, 74, 0, 0)), (46, (.iload 0, 47, 1, 0, 0)), (47, (.iconst 0, 48, 0, 0, 1)), (48, (.aload 0, 49, 0, 0, 0)), (49, (.getfield 0, 52, 12, 1, 3)), (52, (.iconst 0, 55, 0, 0, 363)), (55, (.iconst 0, 57, 0, 0, 8)), (57, (.iload 0, 58, 2, 0, 0)), (58, (.imul, 59, 0, 0, 0)), (59, (.iadd, 60, 0, 0, 0)), (60, (.iload 0, 61, 3, 0, 0)), (61, (.iadd, 62, 0, 0, 0)), (62, (.iaload, 63, 0, 0, 0)), (63, (.ishl, 64, 0, 0, 0)), (64, (.iconst 0, 65, 0, 0, -1)), (65, (.ixor, 66, 0, 0, 0)), (66, (.iand, 67, 0, 0, 0)), (67, (.istore 0, 68, 1, 0, 0)), (68, (.iinc 0 0, 71, 3, 0, 1)), (71, (.goto 0, 74, 32, 0, 0)), (74, (.iinc 0 0, 77, 2, 0, 1)), (77, (.goto 0, 80, 18, 0, 0)), (80, (.iload 0, 81, 1, 0, 0)), (81, (.ireturn, 82, 0, 0, 0))]
def cd_M_cut : List (Nat × ab_E) := [(0, (.iload 0, 1, 2, 0, 0)), (1, (.ifCond .ne 0, 4, 11, 0, 0)), (4, (.lload 0, 5, 0, 0, 0)), (5, (.l2i, 6, 0, 0, 0)), (6, (.i2b, 7, 0, 0, 0)), (7, (.i2l, 8, 0, 0, 0)), (8, (.goto 0, 11, 35, 0, 0)), (11, (.iload 0, 12, 2, 0, 0)), (12, (.iconst 0, 13, 0, 0, 1)), (13, (.if_icmp .ne 0, 16, 23, 0, 0)), (16, (.lload 0, 17, 0, 0, 0)), (17, (.l2i, 18, 0, 0, 0)), (18, (.i2s, 19, 0, 0, 0)), (19, (.i2l, 20, 0, 0, 0)), (20, (.goto 0, 23, 35, 0, 0)), (23, (.iload 0, 24, 2, 0, 0)), (24, (.iconst 0, 25, 0, 0, 2)), (25, (.if_icmp .ne 0, 28, 34, 0, 0)), (28, (.lload 0, 29, 0, 0, 0)), (29, (.l2i, 30, 0, 0, 0)), (30, (.i2l, 31, 0, 0, 0)), (31, (.goto 0, 34, 35, 0, 0)), (34, (.lload 0, 35, 0, 0, 0)), (35, (.lreturn, 36, 0, 0, 0))]
def cd_M_numbers : List (Nat × ab_E) := [(0, (.aload 0, 1, 0, 0, 0)), (1, (.iconst 0, 2, 0, 0, 0)), (2, (.putfield 0, 5, 12, 0, 0)), (5, (.iload 0, 6, 1, 0, 0)), (6, (.i2l, 7, 0, 0, 0)), (7, (.ldc2_w 0, 8, 0, 0, 0)), (8, (.ldc2_w 0, 11, 0, 0, 3)), (11, (.invokestatic 0, 14, 53, 3, 1)), (14, (.ifCond .eq 0, 17, 29, 0, 0)), (17, (.iload 0, 18, 2, 0, 0)), (18, (.i2l, 19, 0, 0, 0)), (19, (.ldc2_w 0, 20, 0, 0, 0)), (20, (.ldc2_w 0, 23, 0, 0, 3)), (23, (.invokestatic 0, 26, 53, 3, 1)), (26, (.ifCond .ne 0, 29, 32, 0, 0)), (29, (.iconst 0, 31, 0, 0, -2)), (31, (.ireturn, 32, 0, 0, 0)), (32, (.iload 0, 33, 3, 0, 0)), (33, (.i2l, 34, 0, 0, 0)), (34, (.ldc2_w 0, 35, 0, 0, 0)), (35, (.ldc2_w 0, 38, 0, 0, 40)), (38, (.invokestatic 0, 41, 53, 3, 1)), (41, (.ifCond .ne 0, 44, 47, 0, 0)), (44, (.iconst 0, 46, 0, 0, -3)), (46, (.ireturn, 47, 0, 0, 0)), (47, (.aload 0, 48, 0, 0, 0)), (48, (.getfield 0, 51, 12, 37, 3)), (51, (.iload 0, 52, 1, 0, 0)), (52, (.iload 0, 53, 2, 0, 0)), (53, (.iastore, 54, 0, 0, 0)), (54, (.aload 0, 55, 0, 0, 0)), (55, (.getfield 0, 58, 12, 38, 3)), (58, (.iload 0, 59, 1, 0, 0)), (59, (.iload 0, 60, 3, 0, 0)), (60, (.iastore, 61, 0, 0, 0)), (61, (.iconst 0, 62, 0, 0, 0)), (62, (.istore 0, 64, 4, 0, 0)), (64, (.iload 0, 66, 4, 0, 0)), (66, (.iload 0, 67, 3, 0, 0)), (67, (.if_icmp .ge 0, 70, 89, 0, 0)), (70, (.aload 0, 71, 0, 0, 0)), (71, (.getfield 0, 74, 12, 39, 3)), (74, (.iconst 0, 76, 0, 0, 40)), (76, (.iload 0, 77, 1, 0, 0)), (77, (.imul, 78, 0, 0, 0)), (78, (.iload 0, 80, 4, 0, 0)), (80, (.iadd, 81, 0, 0, 0)), (81, (.ldc2_w 0, 82, 0, 0, 0)), (82, (.lastore, 83, 0, 0, 0)), (83, (.iinc 0 0, 86, 4, 0, 1)), (86, (.goto 0, 89, 64, 0, 0)), (89, (.iconst 0, 90, 0, 0, 0)), (90, (.ireturn, 91, 0, 0, 0))]
def cd_M_write : List (Nat × ab_E) := [(0, (.aload 0, 1, 0, 0, 0)), (1, (.iconst 0, 2, 0, 0, 0)), (2, (.putfield 0, 5, 12, 0, 0)), (5, (.iload 0, 6, 1, 0, 0)), (6, (.i2l, 7, 0, 0, 0)), (7, (.ldc2_w 0, 8, 0, 0, 0)), (8, (.ldc2_w 0, 11, 0, 0, 3)), (11, (.invokestatic 0, 14, 53, 3, 1)), (14, (.ifCond .ne 0, 17, 21, 0, 0)), (17, (.ldc2_w 0, 20, 0, 0, -2)), (20, (.lreturn, 21, 0, 0, 0)), (21, (.aload 0, 22, 0, 0, 0)), (22, (.getfield 0, 25, 12, 37, 3)), (25, (.iload 0, 26, 1, 0, 0)), (26, (.iaload, 27, 0, 0, 0)), (27, (.iconst 0, 28, 0, 0, -1)), (28, (.if_icmp .ne 0, 31, 35, 0, 0)), (31, (.ldc2_w 0, 34, 0, 0, -6)), (34, (.lreturn, 35, 0, 0, 0)), (35, (.iload 0, 36, 2, 0, 0)), (36, (.i2l, 37, 0, 0, 0)), (37, (.ldc2_w 0, 38, 0, 0, 0)), (38, (.aload 0, 39, 0, 0, 0)), (39, (.getfield 0, 42, 12, 38, 3)), (42, (.iload 0, 43, 1, 0, 0)), (43, (.iaload, 44, 0, 0, 0)), (44, (.iconst 0, 45, 0, 0, 1)), (45, (.isub, 46, 0, 0, 0)), (46, (.i2l, 47, 0, 0, 0)), (47, (.invokestatic 0, 50, 53, 3, 1)), (50, (.ifCond .ne 0, 53, 57, 0, 0)), (53, (.ldc2_w 0, 56, 0, 0, -7)), (56, (.lreturn, 57, 0, 0, 0)), (57, (.aload 0, 58, 0, 0, 0)), (58, (.getfield 0, 61, 12, 39, 3)), (61, (.iconst 0, 63, 0, 0, 40)), (63, (.iload 0, 64, 1, 0, 0)), (64, (.imul, 65, 0, 0, 0)), (65, (.iload 0, 66, 2, 0, 0)), (66, (.iadd, 67, 0, 0, 0)), (67, (.lload 0, 68, 3, 0, 0)), (68, (.aload 0, 69, 0, 0, 0)), (69, (.getfield 0, 72, 12, 37, 3)), (72, (.iload 0, 73, 1, 0, 0)), (73, (.iaload, 74, 0, 0, 0)), (74, (.invokestatic 0, 77, 159, 2, 2)), (77, (.lastore, 78, 0, 0, 0)), (78, (.aload 0, 79, 0, 0, 0)), (79, (.getfield 0, 82, 12, 39, 3)), (82, (.iconst 0, 84, 0, 0, 40)), (84, (.iload 0, 85, 1, 0, 0)), (85, (.imul, 86, 0, 0, 0)), (86, (.iload 0, 87, 2, 0, 0)), (87, (.iadd, 88, 0, 0, 0)), (88, (.laload, 89, 0, 0, 0)), (89, (.lreturn, 90, 0, 0, 0))]
def cd_M_copy : List (Nat × ab_E) := [(0, (.aload 0, 1, 0, 0, 0)), (1, (.iconst 0, 2, 0, 0, 0)), (2, (.putfield 0, 5, 12, 0, 0)), (5, (.aload 0, 6, 0, 0, 0)), (6, (.iload 0, 7, 1, 0, 0)), (7, (.i2l, 8, 0, 0, 0)), (8, (.invokevirtual 12, 11, 75, 2, 1)), (11, (.ifCond .eq 0, 14, 26, 0, 0)), (14, (.iload 0, 15, 2, 0, 0)), (15, (.i2l, 16, 0, 0, 0)), (16, (.ldc2_w 0, 17, 0, 0, 0)), (17, (.ldc2_w 0, 20, 0, 0, 3)), (20, (.invokestatic 0, 23, 53, 3, 1)), (23, (.ifCond .ne 0, 26, 29, 0, 0)), (26, (.iconst 0, 28, 0, 0, -2)), (28, (.ireturn, 29, 0, 0, 0)), (29, (.aload 0, 30, 0, 0, 0)), (30, (.getfield 0, 33, 12, 37, 3)), (33, (.iload 0, 34, 2, 0, 0)), (34, (.iaload, 35, 0, 0, 0)), (35, (.iconst 0, 36, 0, 0, -1)), (36, (.if_icmp .ne 0, 39, 42, 0, 0)), (39, (.iconst 0, 41, 0, 0, -6)), (41, (.ireturn, 42, 0, 0, 0)), (42, (.aload 0, 43, 0, 0, 0)), (43, (.getfield 0, 46, 12, 38, 3)), (46, (.iload 0, 47, 2, 0, 0)), (47, (.iaload, 48, 0, 0, 0)), (48, (.aload 0, 49, 0, 0, 0)), (49, (.iload 0, 50, 1, 0, 0)), (50, (.invokevirtual 12, 53, 80, 2, 1)), (53, (.if_icmp .ge 0, 56, 59, 0, 0)), (56, (.iconst 0, 58, 0, 0, -7)), (58, (.ireturn, 59, 0, 0, 0)), (59, (.iconst 0, 60, 0, 0, 0)), (60, (.istore 0, 61, 3, 0, 0)), (61, (.iload 0, 62, 3, 0, 0)), (62, (.aload 0, 63, 0, 0, 0)), (63, (.iload 0, 64, 1, 0, 0)), (64, (.invokevirtual 12, 67, 80, 2, 1)), (67, (.if_icmp .ge 0, 70, 94, 0, 0)), (70, (.aload 0, 71, 0, 0, 0)), (71, (.getfield 0, 74, 12, 39, 3)), (74, (.iconst 0, 76, 0, 0, 40)), (76, (.iload 0, 77, 2, 0, 0)), (77, (.imul, 78, 0, 0, 0)), (78, (.iload 0, 79, 3, 0, 0)), (79, (.iadd, 80, 0, 0, 0)), (80, (.aload 0, 81, 0, 0, 0)), (81, (.iload 0, 82, 1, 0, 0)), (82, (.iload 0, 83, 3, 0, 0)), (83, (.invokevirtual 12, 86, 81, 3, 1)), (86, (.i2l, 87, 0, 0, 0)), (87, (.lastore, 88, 0, 0, 0)), (88, (.iinc 0 0, 91, 3, 0, 1)), (91, (.goto 0, 94, 61, 0, 0)), (94, (.aload 0, 95, 0, 0, 0)), (95, (.iload 0, 96, 1, 0, 0)), (96, (.invokevirtual 12, 99, 80, 2, 1)), (99, (.ireturn, 100, 0, 0, 0))]
def cd_M_image : List (Nat × ab_E) := [(0, (.aload 0, 1, 0, 0, 0)), (1, (.iconst 0, 2, 0, 0, 0)), (2, (.putfield 0, 5, 12, 0, 0)), (5, (.iload 0, 6, 1, 0, 0)), (6, (.i2l, 7, 0, 0, 0)), (7, (.ldc2_w 0, 8, 0, 0, 0)), (8, (.ldc2_w 0, 9, 0, 0, 1)), (9, (.invokestatic 0, 12, 53, 3, 1)), (12, (.ifCond .ne 0, 15, 18, 0, 0)), (15, (.iconst 0, 17, 0, 0, -2)), (17, (.ireturn, 18, 0, 0, 0)), (18, (.iconst 0, 19, 0, 0, 0)), (19, (.istore 0, 20, 2, 0, 0)), (20, (.iload 0, 21, 2, 0, 0)), (21, (.iconst 0, 24, 0, 0, 411)), (24, (.if_icmp .ge 0, 27, 53, 0, 0)), (27, (.aload 0, 28, 0, 0, 0)), (28, (.getfield 0, 31, 12, 1, 3)), (31, (.iconst 0, 34, 0, 0, 411)), (34, (.iload 0, 35, 1, 0, 0)), (35, (.iconst 0, 36, 0, 0, 1)), (36, (.iadd, 37, 0, 0, 0)), (37, (.imul, 38, 0, 0, 0)), (38, (.iload 0, 39, 2, 0, 0)), (39, (.iadd, 40, 0, 0, 0)), (40, (.aload 0, 41, 0, 0, 0)), (41, (.getfield 0, 44, 12, 1, 3)), (44, (.iload 0, 45, 2, 0, 0)), (45, (.iaload, 46, 0, 0, 0)), (46, (.iastore, 47, 0, 0, 0)), (47, (.iinc 0 0, 50, 2, 0, 1)), (50, (.goto 0, 53, 20, 0, 0)), (53, (.aload 0, 54, 0, 0, 0)), (54, (.getfield 0, 57, 12, 2, 3)), (57, (.iload 0, 58, 1, 0, 0)), (58, (.iconst 0, 59, 0, 0, 1)), (59, (.bastore, 60, 0, 0, 0)), (60, (.iconst 0, 61, 0, 0, 0)), (61, (.ireturn, 62, 0, 0, 0))]
def cd_M_restore : List (Nat × ab_E) := [(0, (.aload 0, 1, 0, 0, 0)), (1, (.iconst 0, 2, 0, 0, 0)), (2, (.putfield 0, 5, 12, 0, 0)), (5, (.iload 0, 6, 1, 0, 0)), (6, (.i2l, 7, 0, 0, 0)), (7, (.ldc2_w 0, 8, 0, 0, 0)), (8, (.ldc2_w 0, 9, 0, 0, 1)), (9, (.invokestatic 0, 12, 53, 3, 1)), (12, (.ifCond .ne 0, 15, 18, 0, 0)), (15, (.iconst 0, 17, 0, 0, -2)), (17, (.ireturn, 18, 0, 0, 0)), (18, (.aload 0, 19, 0, 0, 0)), (19, (.getfield 0, 22, 12, 2, 3)), (22, (.iload 0, 23, 1, 0, 0)), (23, (.baload, 24, 0, 0, 0)), (24, (.ifCond .ne 0, 27, 30, 0, 0)), (27, (.iconst 0, 29, 0, 0, -5)), (29, (.ireturn, 30, 0, 0, 0)), (30, (.iconst 0, 31, 0, 0, 0)), (31, (.istore 0, 32, 2, 0, 0)), (32, (.iload 0, 33, 2, 0, 0)), (33, (.iconst 0, 36, 0, 0, 411)), (36, (.if_icmp .ge 0, 39, 65, 0, 0)), (39, (.aload 0, 40, 0, 0, 0)), (40, (.getfield 0, 43, 12, 1, 3)), (43, (.iload 0, 44, 2, 0, 0)), (44, (.aload 0, 45, 0, 0, 0)), (45, (.getfield 0, 48, 12, 1, 3)), (48, (.iconst 0, 51, 0, 0, 411)), (51, (.iload 0, 52, 1, 0, 0)), (52, (.iconst 0, 53, 0, 0, 1)), (53, (.iadd, 54, 0, 0, 0)), (54, (.imul, 55, 0, 0, 0)), (55, (.iload 0, 56, 2, 0, 0)), (56, (.iadd, 57, 0, 0, 0)), (57, (.iaload, 58, 0, 0, 0)), (58, (.iastore, 59, 0, 0, 0)), (59, (.iinc 0 0, 62, 2, 0, 1)), (62, (.goto 0, 65, 32, 0, 0)), (65, (.iconst 0, 66, 0, 0, 0)), (66, (.ireturn, 67, 0, 0, 0))]
def cd_M_count : List (Nat × ab_E) := [(0, (.aload 0, 1, 0, 0, 0)), (1, (.iconst 0, 2, 0, 0, 0)), (2, (.putfield 0, 5, 12, 0, 0)), (5, (.iload 0, 6, 1, 0, 0)), (6, (.lookupswitch 0 #[(0, 48), (1, 55), (2, 62), (3, 70), (4, 79), (5, 88), (6, 97)], 48, 102, 0, 0)), (48, (.aload 0, 49, 0, 0, 0)), (49, (.getfield 0, 52, 12, 1, 3)), (52, (.iconst 0, 53, 0, 0, 0)), (53, (.iaload, 54, 0, 0, 0)), (54, (.ireturn, 55, 0, 0, 0)), (55, (.aload 0, 56, 0, 0, 0)), (56, (.getfield 0, 59, 12, 1, 3)), (59, (.iconst 0, 60, 0, 0, 1)), (60, (.iaload, 61, 0, 0, 0)), (61, (.ireturn, 62, 0, 0, 0)), (62, (.aload 0, 63, 0, 0, 0)), (63, (.getfield 0, 66, 12, 1, 3)), (66, (.iconst 0, 68, 0, 0, 50)), (68, (.iaload, 69, 0, 0, 0)), (69, (.ireturn, 70, 0, 0, 0)), (70, (.aload 0, 71, 0, 0, 0)), (71, (.getfield 0, 74, 12, 1, 3)), (74, (.iconst 0, 77, 0, 0, 152)), (77, (.iaload, 78, 0, 0, 0)), (78, (.ireturn, 79, 0, 0, 0)), (79, (.aload 0, 80, 0, 0, 0)), (80, (.getfield 0, 83, 12, 1, 3)), (83, (.iconst 0, 86, 0, 0, 356)), (86, (.iaload, 87, 0, 0, 0)), (87, (.ireturn, 88, 0, 0, 0)), (88, (.aload 0, 89, 0, 0, 0)), (89, (.getfield 0, 92, 12, 1, 3)), (92, (.iconst 0, 95, 0, 0, 151)), (95, (.iaload, 96, 0, 0, 0)), (96, (.ireturn, 97, 0, 0, 0)), (97, (.aload 0, 98, 0, 0, 0)), (98, (.getfield 0, 101, 12, 5, 0)), (101, (.ireturn, 102, 0, 0, 0)), (102, (.iconst 0, 103, 0, 0, -1)), (103, (.ireturn, 104, 0, 0, 0))]
def cd_Ahead_init : List (Nat × ab_E) := [(0, (.aload 0, 1, 0, 0, 0)), (1, (.d2l, 4, 0, 0, 0)), (4, (.aload 0, 5, 0, 0, 0)), (5, (.new 0, 8, 3, 0, 0)), (8, (.dup, 9, 0, 0, 0)), (9, (.invokespecial 3, 12, 203, 1, 0)), (12, (.putfield 0, 15, 0, 0, 3)), (15, (.aload 0, 16, 0, 0, 0)), (16, (.new 0, 19, 3, 0, 0)), (19, (.dup, 20, 0, 0, 0)), (20, (.invokespecial 3, 23, 203, 1, 0)), (23, (.putfield 0, 26, 0, 1, 3)), (26, (.aload 0, 27, 0, 0, 0)), (27, (.new 0, 30, 3, 0, 0)), (30, (.dup, 31, 0, 0, 0)), (31, (.invokespecial 3, 34, 203, 1, 0)), (34, (.putfield 0, 37, 0, 2, 3)), (37, (.aload 0, 38, 0, 0, 0)), (38, (.iconst 0, 39, 0, 0, 3)), (39, (.newarray .int, 41, 43, 0, 0)), (41, (.putfield 0, 44, 0, 3, 3)), (44, (.aload 0, 45, 0, 0, 0)), (45, (.iconst 0, 46, 0, 0, 3)), (46, (.newarray .int, 48, 44, 0, 0)), (48, (.putfield 0, 51, 0, 4, 3)), (51, (.return_, 52, 0, 0, 0))]
def cd_Ahead_chooseSayings : List (Nat × ab_E) := [(0, (.aload 0, 1, 0, 0, 0)), (1, (.getfield 0, 4, 0, 2, 3)), (4, (.aload 0, 5, 2, 0, 0)), (5, (.getfield 0, 8, 3, 0, 0)), (8, (.invokevirtual 3, 11, 204, 2, 0)), (11, (.aload 0, 12, 0, 0, 0)), (12, (.getfield 0, 15, 0, 2, 3)), (15, (.aload 0, 16, 2, 0, 0)), (16, (.getfield 0, 19, 3, 1, 0)), (19, (.putfield 0, 22, 3, 1, 0)), (22, (.aload 0, 23, 0, 0, 0)), (23, (.getfield 0, 26, 0, 2, 3)), (26, (.aload 0, 27, 1, 0, 0)), (27, (.iload 0, 28, 3, 0, 0)), (28, (.invokevirtual 3, 31, 215, 3, 1)), (31, (.pop, 32, 0, 0, 0)), (32, (.aload 0, 33, 0, 0, 0)), (33, (.aload 0, 34, 2, 0, 0)), (34, (.iconst 0, 35, 0, 0, 3)), (35, (.invokevirtual 0, 38, 169, 3, 0)), (38, (.aload 0, 39, 0, 0, 0)), (39, (.aload 0, 40, 1, 0, 0)), (40, (.aload 0, 41, 2, 0, 0)), (41, (.getfield 0, 44, 3, 3, 0)), (44, (.iconst 0, 45, 0, 0, 0)), (45, (.invokevirtual 0, 48, 170, 4, 0)), (48, (.return_, 49, 0, 0, 0))]
def cd_Ahead_chooseQuestions : List (Nat × ab_E) := [(0, (.aload 0, 1, 0, 0, 0)), (1, (.aload 0, 2, 2, 0, 0)), (2, (.iload 0, 4, 4, 0, 0)), (4, (.invokevirtual 0, 7, 169, 3, 0)), (7, (.aload 0, 8, 0, 0, 0)), (8, (.aload 0, 9, 1, 0, 0)), (9, (.iload 0, 10, 3, 0, 0)), (10, (.iconst 0, 11, 0, 0, 0)), (11, (.invokevirtual 0, 14, 171, 4, 0)), (14, (.return_, 15, 0, 0, 0))]
def cd_Ahead_begin : List (Nat × ab_E) := [(0, (.aload 0, 1, 0, 0, 0)), (1, (.iload 0, 2, 2, 0, 0)), (2, (.putfield 0, 5, 0, 7, 0)), (5, (.aload 0, 6, 0, 0, 0)), (6, (.iconst 0, 7, 0, 0, 0)), (7, (.putfield 0, 10, 0, 5, 0)), (10, (.aload 0, 11, 0, 0, 0)), (11, (.iconst 0, 12, 0, 0, -1)), (12, (.putfield 0, 15, 0, 6, 0)), (15, (.aload 0, 16, 0, 0, 0)), (16, (.getfield 0, 19, 0, 0, 3)), (19, (.aload 0, 20, 1, 0, 0)), (20, (.invokevirtual 3, 23, 206, 2, 0)), (23, (.return_, 24, 0, 0, 0))]
def cd_Ahead_sayOn : List (Nat × ab_E) := [(0, (.aload 0, 1, 0, 0, 0)), (1, (.getfield 0, 4, 0, 1, 3)), (4, (.aload 0, 5, 0, 0, 0)), (5, (.getfield 0, 8, 0, 0, 3)), (8, (.invokevirtual 3, 11, 206, 2, 0)), (11, (.aload 0, 12, 0, 0, 0)), (12, (.getfield 0, 15, 0, 1, 3)), (15, (.aload 0, 16, 0, 0, 0)), (16, (.getfield 0, 19, 0, 2, 3)), (19, (.invokevirtual 3, 22, 216, 2, 0)), (22, (.aload 0, 23, 0, 0, 0)), (23, (.aload 0, 24, 1, 0, 0)), (24, (.aload 0, 25, 0, 0, 0)), (25, (.getfield 0, 28, 0, 1, 3)), (28, (.getfield 0, 31, 3, 3, 0)), (31, (.invokevirtual 5, 34, 242, 2, 1)), (34, (.iload 0, 35, 3, 0, 0)), (35, (.invokevirtual 0, 38, 172, 3, 0)), (38, (.iload 0, 39, 3, 0, 0)), (39, (.aload 0, 40, 0, 0, 0)), (40, (.getfield 0, 43, 0, 7, 0)), (43, (.if_icmp .ge 0, 46, 55, 0, 0)), (46, (.iload 0, 47, 3, 0, 0)), (47, (.aload 0, 48, 0, 0, 0)), (48, (.getfield 0, 51, 0, 3, 3)), (51, (.arraylength, 52, 0, 0, 0)), (52, (.if_icmp .lt 0, 55, 56, 0, 0)), (55, (.return_, 56, 0, 0, 0)), (56, (.aload 0, 57, 0, 0, 0)), (57, (.getfield 0, 60, 0, 0, 3)), (60, (.getfield 0, 63, 3, 4, 2)), (63, (.lstore 0, 65, 4, 0, 0)), (65, (.aload 0, 66, 0, 0, 0)), (66, (.getfield 0, 69, 0, 0, 3)), (69, (.getfield 0, 72, 3, 3, 0)), (72, (.istore 0, 74, 6, 0, 0)), (74, (.iconst 0, 75, 0, 0, 0)), (75, (.istore 0, 77, 7, 0, 0)), (77, (.iload 0, 79, 7, 0, 0)), (79, (.aload 0, 80, 1, 0, 0)), (80, (.getfield 0, 83, 5, 0, 0)), (83, (.if_icmp .ge 0, 86, 150, 0, 0)), (86, (.iload 0, 87, 2, 0, 0)), (87, (.iload 0, 89, 6, 0, 0)), (89, (.iand, 90, 0, 0, 0)), (90, (.iload 0, 92, 7, 0, 0)), (92, (.ishr, 93, 0, 0, 0)), (93, (.iconst 0, 94, 0, 0, 1)), (94, (.iand, 95, 0, 0, 0)), (95, (.ifCond .eq 0, 98, 144, 0, 0)), (98, (.aload 0, 99, 0, 0, 0)), (99, (.getfield 0, 102, 0, 3, 3)), (102, (.iload 0, 103, 3, 0, 0)), (103, (.iload 0, 105, 7, 0, 0)), (105, (.iastore, 106, 0, 0, 0)), (106, (.aload 0, 107, 0, 0, 0)), (107, (.getfield 0, 110, 0, 0, 3)), (110, (.aload 0, 111, 1, 0, 0)), (111, (.iload 0, 113, 7, 0, 0)), (113, (.invokevirtual 3, 116, 214, 3, 1)), (116, (.pop, 117, 0, 0, 0)), (117, (.aload 0, 118, 0, 0, 0)), (118, (.aload 0, 119, 1, 0, 0)), (119, (.iload 0, 120, 2, 0, 0)), (120, (.iconst 0, 121, 0, 0, 1)), (121, (.iload 0, 123, 7, 0, 0)), (123, (.ishl, 124, 0, 0, 0)), (124, (.iconst 0, 125, 0, 0, -1)), (125, (.ixor, 126, 0, 0, 0)), (126, (.iand, 127, 0, 0, 0)), (127, (.iload 0, 128, 3, 0, 0)), (128, (.iconst 0, 129, 0, 0, 1)), (129, (.iadd, 130, 0, 0, 0)), (130, (.invokevirtual 0, 133, 170, 4, 0)), (133, (.aload 0, 134, 0, 0, 0)), (134, (.getfield 0, 137, 0, 0, 3)), (137, (.lload 0, 139, 4, 0, 0)), (139, (.iload 0, 141, 6, 0, 0)), (141, (.invokevirtual 3, 144, 207, 3, 0)), (144, (.iinc 0 0, 147, 7, 0, 1)), (147, (.goto 0, 150, 77, 0, 0)), (150, (.return_, 151, 0, 0, 0))]
def cd_Ahead_askOn : List (Nat × ab_E) := [(0, (.aload 0, 1, 0, 0, 0)), (1, (.aload 0, 2, 1, 0, 0)), (2, (.aload 0, 3, 0, 0, 0)), (3, (.getfield 0, 6, 0, 0, 3)), (6, (.getfield 0, 9, 3, 3, 0)), (9, (.invokevirtual 5, 12, 242, 2, 1)), (12, (.iload 0, 13, 3, 0, 0)), (13, (.invokevirtual 0, 16, 172, 3, 0)), (16, (.iload 0, 17, 3, 0, 0)), (17, (.aload 0, 18, 0, 0, 0)), (18, (.getfield 0, 21, 0, 7, 0)), (21, (.if_icmp .ge 0, 24, 33, 0, 0)), (24, (.iload 0, 25, 3, 0, 0)), (25, (.aload 0, 26, 0, 0, 0)), (26, (.getfield 0, 29, 0, 3, 3)), (29, (.arraylength, 30, 0, 0, 0)), (30, (.if_icmp .lt 0, 33, 34, 0, 0)), (33, (.return_, 34, 0, 0, 0)), (34, (.aload 0, 35, 0, 0, 0)), (35, (.getfield 0, 38, 0, 0, 3)), (38, (.getfield 0, 41, 3, 4, 2)), (41, (.lstore 0, 43, 4, 0, 0)), (43, (.aload 0, 44, 0, 0, 0)), (44, (.getfield 0, 47, 0, 0, 3)), (47, (.getfield 0, 50, 3, 3, 0)), (50, (.istore 0, 52, 6, 0, 0)), (52, (.iconst 0, 53, 0, 0, 0)), (53, (.istore 0, 55, 7, 0, 0)), (55, (.iload 0, 57, 7, 0, 0)), (57, (.aload 0, 58, 1, 0, 0)), (58, (.getfield 0, 61, 5, 0, 0)), (61, (.if_icmp .ge 0, 64, 124, 0, 0)), (64, (.iload 0, 65, 2, 0, 0)), (65, (.iload 0, 67, 7, 0, 0)), (67, (.ishr, 68, 0, 0, 0)), (68, (.iconst 0, 69, 0, 0, 1)), (69, (.iand, 70, 0, 0, 0)), (70, (.ifCond .eq 0, 73, 118, 0, 0)), (73, (.aload 0, 74, 0, 0, 0)), (74, (.getfield 0, 77, 0, 3, 3)), (77, (.iload 0, 78, 3, 0, 0)), (78, (.iload 0, 80, 7, 0, 0)), (80, (.iastore, 81, 0, 0, 0)), (81, (.aload 0, 82, 0, 0, 0)), (82, (.getfield 0, 85, 0, 0, 3)), (85, (.iload 0, 87, 7, 0, 0)), (87, (.invokevirtual 3, 90, 211, 2, 1)), (90, (.pop, 91, 0, 0, 0)), (91, (.aload 0, 92, 0, 0, 0)), (92, (.aload 0, 93, 1, 0, 0)), (93, (.iload 0, 94, 2, 0, 0)), (94, (.iconst 0, 95, 0, 0, 1)), (95, (.iload 0, 97, 7, 0, 0)), (97, (.ishl, 98, 0, 0, 0)), (98, (.iconst 0, 99, 0, 0, -1)), (99, (.ixor, 100, 0, 0, 0)), (100, (.iand, 101, 0, 0, 0)), (101, (.iload 0, 102, 3, 0, 0)), (102, (.iconst 0, 103, 0, 0, 1)), (103, (.iadd, 104, 0, 0, 0)), (104, (.invokevirtual 0, 107, 171, 4, 0)), (107, (.aload 0, 108, 0, 0, 0)), (108, (.getfield 0, 111, 0, 0, 3)), (111, (.lload 0, 113, 4, 0, 0)), (113, (.iload 0, 115, 6, 0, 0)), (115, (.invokevirtual 3, 118, 207, 3, 0)), (118, (.iinc 0 0, 121, 7, 0, 1)), (121, (.goto 0, 124, 55, 0, 0)), (124, (.return_, 125, 0, 0, 0))]
def cd_Ahead_weigh : List (Nat × ab_E) := [(0, (.iload 0, 1, 1, 0, 0)), (1, (.aload 0, 2, 0, 0, 0)), (2, (.getfield 0, 5, 0, 6, 0)), (5, (.if_icmp .gt 0, 8, 24, 0, 0)), (8, (.iload 0, 9, 1, 0, 0)), (9, (.aload 0, 10, 0, 0, 0)), (10, (.getfield 0, 13, 0, 6, 0)), (13, (.if_icmp .ne 0, 16, 52, 0, 0)), (16, (.iload 0, 17, 2, 0, 0)), (17, (.aload 0, 18, 0, 0, 0)), (18, (.getfield 0, 21, 0, 5, 0)), (21, (.if_icmp .ge 0, 24, 52, 0, 0)), (24, (.aload 0, 25, 0, 0, 0)), (25, (.iload 0, 26, 1, 0, 0)), (26, (.putfield 0, 29, 0, 6, 0)), (29, (.aload 0, 30, 0, 0, 0)), (30, (.iload 0, 31, 2, 0, 0)), (31, (.putfield 0, 34, 0, 5, 0)), (34, (.aload 0, 35, 0, 0, 0)), (35, (.getfield 0, 38, 0, 3, 3)), (38, (.iconst 0, 39, 0, 0, 0)), (39, (.aload 0, 40, 0, 0, 0)), (40, (.getfield 0, 43, 0, 4, 3)), (43, (.iconst 0, 44, 0, 0, 0)), (44, (.aload 0, 45, 0, 0, 0)), (45, (.getfield 0, 48, 0, 3, 3)), (48, (.arraylength, 49, 0, 0, 0)), (49, (.caload, 52, 0, 0, 0)), (52, (.return_, 53, 0, 0, 0))]
def cd_Ahead_answer : List (Nat × ab_E) := [(0, (.iload 0, 1, 1, 0, 0)), (1, (.ifCond .ne 0, 4, 9, 0, 0)), (4, (.aload 0, 5, 0, 0, 0)), (5, (.getfield 0, 8, 0, 6, 0)), (8, (.ireturn, 9, 0, 0, 0)), (9, (.iload 0, 10, 1, 0, 0)), (10, (.iconst 0, 11, 0, 0, 1)), (11, (.if_icmp .ne 0, 14, 19, 0, 0)), (14, (.aload 0, 15, 0, 0, 0)), (15, (.getfield 0, 18, 0, 5, 0)), (18, (.ireturn, 19, 0, 0, 0)), (19, (.iload 0, 20, 1, 0, 0)), (20, (.iconst 0, 22, 0, 0, 10)), (22, (.isub, 23, 0, 0, 0)), (23, (.istore 0, 24, 2, 0, 0)), (24, (.iload 0, 25, 2, 0, 0)), (25, (.ifCond .lt 0, 28, 54, 0, 0)), (28, (.iload 0, 29, 2, 0, 0)), (29, (.aload 0, 30, 0, 0, 0)), (30, (.getfield 0, 33, 0, 5, 0)), (33, (.if_icmp .ge 0, 36, 54, 0, 0)), (36, (.iload 0, 37, 2, 0, 0)), (37, (.aload 0, 38, 0, 0, 0)), (38, (.getfield 0, 41, 0, 4, 3)), (41, (.arraylength, 42, 0, 0, 0)), (42, (.if_icmp .ge 0, 45, 54, 0, 0)), (45, (.aload 0, 46, 0, 0, 0)), (46, (.getfield 0, 49, 0, 4, 3)), (49, (.iload 0, 50, 2, 0, 0)), (50, (.iaload, 51, 0, 0, 0)), (51, (.goto 0, 54, 55, 0, 0)), (54, (.iconst 0, 55, 0, 0, -1)), (55, (.ireturn, 56, 0, 0, 0))]
def cd_Carriers_init : List (Nat × ab_E) := [(0, (.aload 0, 1, 0, 0, 0)), (1, (.d2l, 4, 0, 0, 0)), (4, (.aload 0, 5, 0, 0, 0)), (5, (.iconst 0, 7, 0, 0, 16)), (7, (.newarray .int, 9, 45, 0, 0)), (9, (.putfield 0, 12, 1, 0, 3)), (12, (.return_, 13, 0, 0, 0))]
def cd_Carriers_fewest : List (Nat × ab_E) := [(0, (.aload 0, 1, 1, 0, 0)), (1, (.getfield 0, 4, 5, 5, 3)), (4, (.iconst 0, 5, 0, 0, 0)), (5, (.aload 0, 6, 0, 0, 0)), (6, (.getfield 0, 9, 1, 0, 3)), (9, (.iconst 0, 10, 0, 0, 0)), (10, (.aload 0, 11, 0, 0, 0)), (11, (.getfield 0, 14, 1, 0, 3)), (14, (.arraylength, 15, 0, 0, 0)), (15, (.caload, 18, 0, 0, 0)), (18, (.aload 0, 19, 0, 0, 0)), (19, (.iload 0, 20, 3, 0, 0)), (20, (.putfield 0, 23, 1, 1, 0)), (23, (.aload 0, 24, 0, 0, 0)), (24, (.iload 0, 26, 4, 0, 0)), (26, (.ifCond .eq 0, 29, 33, 0, 0)), (29, (.iconst 0, 30, 0, 0, 0)), (30, (.goto 0, 33, 34, 0, 0)), (33, (.iload 0, 34, 2, 0, 0)), (34, (.putfield 0, 37, 1, 2, 0)), (37, (.aload 0, 38, 0, 0, 0)), (38, (.iload 0, 40, 4, 0, 0)), (40, (.ifCond .eq 0, 43, 47, 0, 0)), (43, (.iload 0, 44, 2, 0, 0)), (44, (.goto 0, 47, 48, 0, 0)), (47, (.iconst 0, 48, 0, 0, 0)), (48, (.putfield 0, 51, 1, 3, 0)), (51, (.iconst 0, 52, 0, 0, 0)), (52, (.istore 0, 54, 5, 0, 0)), (54, (.iload 0, 56, 5, 0, 0)), (56, (.iconst 0, 58, 0, 0, 16)), (58, (.if_icmp .ge 0, 61, 87, 0, 0)), (61, (.aload 0, 62, 0, 0, 0)), (62, (.aload 0, 63, 0, 0, 0)), (63, (.getfield 0, 66, 1, 2, 0)), (66, (.aload 0, 67, 0, 0, 0)), (67, (.getfield 0, 70, 1, 3, 0)), (70, (.iload 0, 72, 5, 0, 0)), (72, (.invokevirtual 1, 75, 178, 4, 1)), (75, (.ifCond .eq 0, 78, 81, 0, 0)), (78, (.iload 0, 80, 5, 0, 0)), (80, (.ireturn, 81, 0, 0, 0)), (81, (.iinc 0 0, 84, 5, 0, 1)), (84, (.goto 0, 87, 54, 0, 0)), (87, (.iconst 0, 89, 0, 0, 16)), (89, (.ireturn, 90, 0, 0, 0))]
def cd_Carriers_loadOf : List (Nat × ab_E) := [(0, (.iconst 0, 1, 0, 0, -1)), (1, (.istore 0, 2, 3, 0, 0)), (2, (.iconst 0, 3, 0, 0, 0)), (3, (.istore 0, 5, 4, 0, 0)), (5, (.iload 0, 7, 4, 0, 0)), (7, (.iload 0, 8, 1, 0, 0)), (8, (.if_icmp .gt 0, 11, 75, 0, 0)), (11, (.iload 0, 13, 4, 0, 0)), (13, (.iload 0, 14, 2, 0, 0)), (14, (.if_icmp .ge 0, 17, 75, 0, 0)), (17, (.aload 0, 18, 0, 0, 0)), (18, (.iconst 0, 20, 0, 0, 15)), (20, (.iconst 0, 21, 0, 0, 0)), (21, (.iload 0, 22, 2, 0, 0)), (22, (.iconst 0, 23, 0, 0, 1)), (23, (.isub, 24, 0, 0, 0)), (24, (.iload 0, 26, 4, 0, 0)), (26, (.isub, 27, 0, 0, 0)), (27, (.invokevirtual 1, 30, 177, 4, 1)), (30, (.istore 0, 31, 3, 0, 0)), (31, (.iload 0, 32, 3, 0, 0)), (32, (.iconst 0, 33, 0, 0, -1)), (33, (.if_icmp .ne 0, 36, 38, 0, 0)), (36, (.iconst 0, 37, 0, 0, -1)), (37, (.ireturn, 38, 0, 0, 0)), (38, (.aload 0, 39, 0, 0, 0)), (39, (.aload 0, 40, 0, 0, 0)), (40, (.getfield 0, 43, 1, 2, 0)), (43, (.iload 0, 44, 3, 0, 0)), (44, (.iconst 0, 45, 0, 0, -1)), (45, (.ixor, 46, 0, 0, 0)), (46, (.iand, 47, 0, 0, 0)), (47, (.aload 0, 48, 0, 0, 0)), (48, (.getfield 0, 51, 1, 3, 0)), (51, (.iload 0, 52, 3, 0, 0)), (52, (.iand, 53, 0, 0, 0)), (53, (.ior, 54, 0, 0, 0)), (54, (.putfield 0, 57, 1, 2, 0)), (57, (.aload 0, 58, 0, 0, 0)), (58, (.dup, 59, 0, 0, 0)), (59, (.getfield 0, 62, 1, 3, 0)), (62, (.iload 0, 63, 3, 0, 0)), (63, (.iconst 0, 64, 0, 0, -1)), (64, (.ixor, 65, 0, 0, 0)), (65, (.iand, 66, 0, 0, 0)), (66, (.putfield 0, 69, 1, 3, 0)), (69, (.iinc 0 0, 72, 4, 0, 1)), (72, (.goto 0, 75, 5, 0, 0)), (75, (.iload 0, 76, 3, 0, 0)), (76, (.ireturn, 77, 0, 0, 0))]
def cd_Carriers_leastLoad : List (Nat × ab_E) := [(0, (.iconst 0, 1, 0, 0, -1)), (1, (.iload 0, 2, 1, 0, 0)), (2, (.iconst 0, 3, 0, 0, 1)), (3, (.iadd, 4, 0, 0, 0)), (4, (.ishl, 5, 0, 0, 0)), (5, (.istore 0, 7, 4, 0, 0)), (7, (.aload 0, 8, 0, 0, 0)), (8, (.getfield 0, 11, 1, 2, 0)), (11, (.iload 0, 12, 2, 0, 0)), (12, (.iconst 0, 13, 0, 0, -1)), (13, (.ixor, 14, 0, 0, 0)), (14, (.iand, 15, 0, 0, 0)), (15, (.aload 0, 16, 0, 0, 0)), (16, (.getfield 0, 19, 1, 3, 0)), (19, (.iload 0, 20, 2, 0, 0)), (20, (.iand, 21, 0, 0, 0)), (21, (.ior, 22, 0, 0, 0)), (22, (.iload 0, 24, 4, 0, 0)), (24, (.iand, 25, 0, 0, 0)), (25, (.istore 0, 27, 5, 0, 0)), (27, (.aload 0, 28, 0, 0, 0)), (28, (.getfield 0, 31, 1, 3, 0)), (31, (.iload 0, 32, 2, 0, 0)), (32, (.iconst 0, 33, 0, 0, -1)), (33, (.ixor, 34, 0, 0, 0)), (34, (.iand, 35, 0, 0, 0)), (35, (.iload 0, 37, 4, 0, 0)), (37, (.iand, 38, 0, 0, 0)), (38, (.istore 0, 40, 6, 0, 0)), (40, (.aload 0, 41, 0, 0, 0)), (41, (.iload 0, 43, 5, 0, 0)), (43, (.iload 0, 45, 6, 0, 0)), (45, (.iload 0, 46, 3, 0, 0)), (46, (.invokevirtual 1, 49, 178, 4, 1)), (49, (.ifCond .ne 0, 52, 54, 0, 0)), (52, (.iconst 0, 53, 0, 0, -1)), (53, (.ireturn, 54, 0, 0, 0)), (54, (.iload 0, 55, 1, 0, 0)), (55, (.ifCond .ge 0, 58, 60, 0, 0)), (58, (.iload 0, 59, 2, 0, 0)), (59, (.ireturn, 60, 0, 0, 0)), (60, (.aload 0, 61, 0, 0, 0)), (61, (.iload 0, 62, 1, 0, 0)), (62, (.iconst 0, 63, 0, 0, 1)), (63, (.isub, 64, 0, 0, 0)), (64, (.iload 0, 65, 2, 0, 0)), (65, (.iload 0, 66, 3, 0, 0)), (66, (.invokevirtual 1, 69, 177, 4, 1)), (69, (.istore 0, 71, 7, 0, 0)), (71, (.iload 0, 73, 7, 0, 0)), (73, (.iconst 0, 74, 0, 0, -1)), (74, (.if_icmp .eq 0, 77, 80, 0, 0)), (77, (.iload 0, 79, 7, 0, 0)), (79, (.ireturn, 80, 0, 0, 0)), (80, (.aload 0, 81, 0, 0, 0)), (81, (.getfield 0, 84, 1, 2, 0)), (84, (.aload 0, 85, 0, 0, 0)), (85, (.getfield 0, 88, 1, 3, 0)), (88, (.ior, 89, 0, 0, 0)), (89, (.iload 0, 90, 1, 0, 0)), (90, (.ishr, 91, 0, 0, 0)), (91, (.iconst 0, 92, 0, 0, 1)), (92, (.iand, 93, 0, 0, 0)), (93, (.ifCond .eq 0, 96, 122, 0, 0)), (96, (.aload 0, 97, 0, 0, 0)), (97, (.getfield 0, 100, 1, 0, 3)), (100, (.iload 0, 101, 1, 0, 0)), (101, (.iaload, 102, 0, 0, 0)), (102, (.iload 0, 103, 2, 0, 0)), (103, (.iand, 104, 0, 0, 0)), (104, (.ifCond .ne 0, 107, 122, 0, 0)), (107, (.iload 0, 108, 2, 0, 0)), (108, (.invokestatic 0, 111, 291, 1, 1)), (111, (.aload 0, 112, 0, 0, 0)), (112, (.getfield 0, 115, 1, 1, 0)), (115, (.if_icmp .ge 0, 118, 122, 0, 0)), (118, (.iconst 0, 119, 0, 0, 1)), (119, (.goto 0, 122, 123, 0, 0)), (122, (.iconst 0, 123, 0, 0, 0)), (123, (.istore 0, 125, 8, 0, 0)), (125, (.iload 0, 127, 8, 0, 0)), (127, (.ifCond .eq 0, 130, 146, 0, 0)), (130, (.aload 0, 131, 0, 0, 0)), (131, (.iload 0, 132, 1, 0, 0)), (132, (.iconst 0, 133, 0, 0, 1)), (133, (.isub, 134, 0, 0, 0)), (134, (.iload 0, 135, 2, 0, 0)), (135, (.iconst 0, 136, 0, 0, 1)), (136, (.iload 0, 137, 1, 0, 0)), (137, (.ishl, 138, 0, 0, 0)), (138, (.ior, 139, 0, 0, 0)), (139, (.iload 0, 140, 3, 0, 0)), (140, (.invokevirtual 1, 143, 177, 4, 1)), (143, (.goto 0, 146, 147, 0, 0)), (146, (.iconst 0, 147, 0, 0, -1)), (147, (.ireturn, 148, 0, 0, 0))]
def cd_Carriers_canCarry : List (Nat × ab_E) := [(0, (.iload 0, 1, 1, 0, 0)), (1, (.iload 0, 2, 2, 0, 0)), (2, (.ior, 3, 0, 0, 0)), (3, (.istore 0, 5, 4, 0, 0)), (5, (.iload 0, 7, 4, 0, 0)), (7, (.ifCond .ne 0, 10, 12, 0, 0)), (10, (.iconst 0, 11, 0, 0, 1)), (11, (.ireturn, 12, 1, 0, 0)), (12, (.iload 0, 13, 3, 0, 0)), (13, (.iload 0, 14, 2, 0, 0)), (14, (.ifCond .ne 0, 17, 21, 0, 0)), (17, (.iconst 0, 18, 0, 0, 1)), (18, (.goto 0, 21, 22, 0, 0)), (21, (.iconst 0, 22, 0, 0, 2)), (22, (.if_icmp .lt 0, 25, 45, 0, 0)), (25, (.iload 0, 26, 1, 0, 0)), (26, (.invokestatic 0, 29, 291, 1, 1)), (29, (.iconst 0, 30, 0, 0, 2)), (30, (.iload 0, 31, 2, 0, 0)), (31, (.invokestatic 0, 34, 291, 1, 1)), (34, (.imul, 35, 0, 0, 0)), (35, (.iadd, 36, 0, 0, 0)), (36, (.iload 0, 37, 3, 0, 0)), (37, (.aload 0, 38, 0, 0, 0)), (38, (.getfield 0, 41, 1, 1, 0)), (41, (.imul, 42, 0, 0, 0)), (42, (.if_icmp .le 0, 45, 47, 0, 0)), (45, (.iconst 0, 46, 0, 0, 0)), (46, (.ireturn, 47, 1, 0, 0)), (47, (.aload 0, 48, 0, 0, 0)), (48, (.iload 0, 50, 4, 0, 0)), (50, (.invokevirtual 1, 53, 180, 2, 1)), (53, (.istore 0, 55, 5, 0, 0)), (55, (.aload 0, 56, 0, 0, 0)), (56, (.getfield 0, 59, 1, 0, 3)), (59, (.iload 0, 61, 5, 0, 0)), (61, (.iaload, 62, 0, 0, 0)), (62, (.iload 0, 64, 4, 0, 0)), (64, (.iand, 65, 0, 0, 0)), (65, (.invokestatic 0, 68, 291, 1, 1)), (68, (.istore 0, 70, 6, 0, 0)), (70, (.iload 0, 72, 6, 0, 0)), (72, (.ifCond .eq 0, 75, 85, 0, 0)), (75, (.iload 0, 76, 2, 0, 0)), (76, (.ifCond .ne 0, 79, 87, 0, 0)), (79, (.iload 0, 81, 6, 0, 0)), (81, (.iload 0, 82, 3, 0, 0)), (82, (.if_icmp .ge 0, 85, 87, 0, 0)), (85, (.iconst 0, 86, 0, 0, 1)), (86, (.ireturn, 87, 1, 0, 0)), (87, (.iload 0, 88, 3, 0, 0)), (88, (.iconst 0, 89, 0, 0, 1)), (89, (.if_icmp .le 0, 92, 118, 0, 0)), (92, (.aload 0, 93, 0, 0, 0)), (93, (.iload 0, 94, 1, 0, 0)), (94, (.aload 0, 95, 0, 0, 0)), (95, (.iload 0, 96, 1, 0, 0)), (96, (.iload 0, 98, 4, 0, 0)), (98, (.invokevirtual 1, 101, 181, 3, 1)), (101, (.iconst 0, 102, 0, 0, -1)), (102, (.ixor, 103, 0, 0, 0)), (103, (.iand, 104, 0, 0, 0)), (104, (.iload 0, 105, 2, 0, 0)), (105, (.iload 0, 106, 3, 0, 0)), (106, (.iload 0, 108, 5, 0, 0)), (108, (.invokevirtual 1, 111, 179, 5, 1)), (111, (.ifCond .eq 0, 114, 118, 0, 0)), (114, (.iconst 0, 115, 0, 0, 1)), (115, (.goto 0, 118, 119, 0, 0)), (118, (.iconst 0, 119, 0, 0, 0)), (119, (.ireturn, 120, 1, 0, 0))]
def cd_Carriers_canDivide : List (Nat × ab_E) := [(0, (.iload 0, 1, 1, 0, 0)), (1, (.iload 0, 2, 2, 0, 0)), (2, (.ior, 3, 0, 0, 0)), (3, (.istore 0, 5, 5, 0, 0)), (5, (.iload 0, 7, 5, 0, 0)), (7, (.aload 0, 8, 0, 0, 0)), (8, (.getfield 0, 11, 1, 0, 3)), (11, (.iload 0, 13, 4, 0, 0)), (13, (.iaload, 14, 0, 0, 0)), (14, (.iconst 0, 15, 0, 0, -1)), (15, (.ixor, 16, 0, 0, 0)), (16, (.iand, 17, 0, 0, 0)), (17, (.iconst 0, 18, 0, 0, 1)), (18, (.iload 0, 20, 4, 0, 0)), (20, (.ishl, 21, 0, 0, 0)), (21, (.iconst 0, 22, 0, 0, -1)), (22, (.ixor, 23, 0, 0, 0)), (23, (.iand, 24, 0, 0, 0)), (24, (.istore 0, 26, 6, 0, 0)), (26, (.iload 0, 28, 6, 0, 0)), (28, (.istore 0, 30, 7, 0, 0)), (30, (.iconst 0, 31, 0, 0, 0)), (31, (.istore 0, 33, 8, 0, 0)), (33, (.iload 0, 35, 8, 0, 0)), (35, (.iload 0, 37, 6, 0, 0)), (37, (.if_icmp .gt 0, 40, 150, 0, 0)), (40, (.iload 0, 42, 7, 0, 0)), (42, (.ifCond .lt 0, 45, 150, 0, 0)), (45, (.aload 0, 46, 0, 0, 0)), (46, (.iload 0, 48, 7, 0, 0)), (48, (.invokevirtual 1, 51, 182, 2, 1)), (51, (.istore 0, 53, 9, 0, 0)), (53, (.iload 0, 55, 9, 0, 0)), (55, (.iconst 0, 56, 0, 0, -1)), (56, (.if_icmp .eq 0, 59, 77, 0, 0)), (59, (.iload 0, 61, 7, 0, 0)), (61, (.iload 0, 63, 9, 0, 0)), (63, (.ishr, 64, 0, 0, 0)), (64, (.iload 0, 66, 9, 0, 0)), (66, (.ishl, 67, 0, 0, 0)), (67, (.iconst 0, 68, 0, 0, 1)), (68, (.isub, 69, 0, 0, 0)), (69, (.iload 0, 71, 6, 0, 0)), (71, (.iand, 72, 0, 0, 0)), (72, (.istore 0, 74, 7, 0, 0)), (74, (.goto 0, 77, 144, 0, 0)), (77, (.iload 0, 79, 7, 0, 0)), (79, (.iconst 0, 80, 0, 0, 1)), (80, (.iload 0, 82, 4, 0, 0)), (82, (.ishl, 83, 0, 0, 0)), (83, (.ior, 84, 0, 0, 0)), (84, (.istore 0, 86, 10, 0, 0)), (86, (.aload 0, 87, 0, 0, 0)), (87, (.iload 0, 89, 10, 0, 0)), (89, (.iload 0, 91, 5, 0, 0)), (91, (.invokevirtual 1, 94, 183, 3, 1)), (94, (.ifCond .eq 0, 97, 126, 0, 0)), (97, (.aload 0, 98, 0, 0, 0)), (98, (.iload 0, 99, 1, 0, 0)), (99, (.iload 0, 101, 10, 0, 0)), (101, (.iconst 0, 102, 0, 0, -1)), (102, (.ixor, 103, 0, 0, 0)), (103, (.iand, 104, 0, 0, 0)), (104, (.iload 0, 105, 2, 0, 0)), (105, (.iload 0, 107, 10, 0, 0)), (107, (.iand, 108, 0, 0, 0)), (108, (.ior, 109, 0, 0, 0)), (109, (.iload 0, 110, 2, 0, 0)), (110, (.iload 0, 112, 10, 0, 0)), (112, (.iconst 0, 113, 0, 0, -1)), (113, (.ixor, 114, 0, 0, 0)), (114, (.iand, 115, 0, 0, 0)), (115, (.iload 0, 116, 3, 0, 0)), (116, (.iconst 0, 117, 0, 0, 1)), (117, (.isub, 118, 0, 0, 0)), (118, (.invokevirtual 1, 121, 178, 4, 1)), (121, (.ifCond .eq 0, 124, 126, 0, 0)), (124, (.iconst 0, 125, 0, 0, 1)), (125, (.ireturn, 126, 1, 0, 0)), (126, (.iload 0, 128, 7, 0, 0)), (128, (.ifCond .ne 0, 131, 135, 0, 0)), (131, (.iconst 0, 132, 0, 0, -1)), (132, (.goto 0, 135, 142, 0, 0)), (135, (.iload 0, 137, 7, 0, 0)), (137, (.iconst 0, 138, 0, 0, 1)), (138, (.isub, 139, 0, 0, 0)), (139, (.iload 0, 141, 6, 0, 0)), (141, (.iand, 142, 0, 0, 0)), (142, (.istore 0, 144, 7, 0, 0)), (144, (.iinc 0 0, 147, 8, 0, 1)), (147, (.goto 0, 150, 33, 0, 0)), (150, (.iconst 0, 151, 0, 0, 0)), (151, (.ireturn, 152, 1, 0, 0))]
def cd_Carriers_hardestOf : List (Nat × ab_E) := [(0, (.iconst 0, 1, 0, 0, 0)), (1, (.istore 0, 2, 2, 0, 0)), (2, (.iconst 0, 3, 0, 0, -1)), (3, (.istore 0, 4, 3, 0, 0)), (4, (.iconst 0, 5, 0, 0, 0)), (5, (.istore 0, 7, 4, 0, 0)), (7, (.iload 0, 9, 4, 0, 0)), (9, (.iconst 0, 11, 0, 0, 16)), (11, (.if_icmp .ge 0, 14, 55, 0, 0)), (14, (.aload 0, 15, 0, 0, 0)), (15, (.getfield 0, 18, 1, 0, 3)), (18, (.iload 0, 20, 4, 0, 0)), (20, (.iaload, 21, 0, 0, 0)), (21, (.iload 0, 22, 1, 0, 0)), (22, (.iand, 23, 0, 0, 0)), (23, (.invokestatic 0, 26, 291, 1, 1)), (26, (.istore 0, 28, 5, 0, 0)), (28, (.iload 0, 29, 1, 0, 0)), (29, (.iload 0, 31, 4, 0, 0)), (31, (.ishr, 32, 0, 0, 0)), (32, (.iconst 0, 33, 0, 0, 1)), (33, (.iand, 34, 0, 0, 0)), (34, (.ifCond .eq 0, 37, 49, 0, 0)), (37, (.iload 0, 39, 5, 0, 0)), (39, (.iload 0, 40, 3, 0, 0)), (40, (.if_icmp .le 0, 43, 49, 0, 0)), (43, (.iload 0, 45, 5, 0, 0)), (45, (.istore 0, 46, 3, 0, 0)), (46, (.iload 0, 48, 4, 0, 0)), (48, (.istore 0, 49, 2, 0, 0)), (49, (.iinc 0 0, 52, 4, 0, 1)), (52, (.goto 0, 55, 7, 0, 0)), (55, (.iload 0, 56, 2, 0, 0)), (56, (.ireturn, 57, 0, 0, 0))]
def cd_Carriers_easyOf : List (Nat × ab_E) := [(0, (.iconst 0, 1, 0, 0, 0)), (1, (.istore 0, 2, 3, 0, 0)), (2, (.iconst 0, 3, 0, 0, 0)), (3, (.istore 0, 5, 4, 0, 0)), (5, (.iload 0, 7, 4, 0, 0)), (7, (.iconst 0, 9, 0, 0, 16)), (9, (.if_icmp .ge 0, 12, 46, 0, 0)), (12, (.iload 0, 13, 1, 0, 0)), (13, (.iload 0, 15, 4, 0, 0)), (15, (.ishr, 16, 0, 0, 0)), (16, (.iconst 0, 17, 0, 0, 1)), (17, (.iand, 18, 0, 0, 0)), (18, (.ifCond .eq 0, 21, 40, 0, 0)), (21, (.aload 0, 22, 0, 0, 0)), (22, (.getfield 0, 25, 1, 0, 3)), (25, (.iload 0, 27, 4, 0, 0)), (27, (.iaload, 28, 0, 0, 0)), (28, (.iload 0, 29, 2, 0, 0)), (29, (.iand, 30, 0, 0, 0)), (30, (.ifCond .ne 0, 33, 40, 0, 0)), (33, (.iload 0, 34, 3, 0, 0)), (34, (.iconst 0, 35, 0, 0, 1)), (35, (.iload 0, 37, 4, 0, 0)), (37, (.ishl, 38, 0, 0, 0)), (38, (.ior, 39, 0, 0, 0)), (39, (.istore 0, 40, 3, 0, 0)), (40, (.iinc 0 0, 43, 4, 0, 1)), (43, (.goto 0, 46, 5, 0, 0)), (46, (.iload 0, 47, 3, 0, 0)), (47, (.ireturn, 48, 0, 0, 0))]
def cd_Carriers_tooMuchAt : List (Nat × ab_E) := [(0, (.iconst 0, 1, 0, 0, 0)), (1, (.istore 0, 2, 2, 0, 0)), (2, (.iconst 0, 4, 0, 0, 15)), (4, (.istore 0, 5, 3, 0, 0)), (5, (.iload 0, 6, 3, 0, 0)), (6, (.ifCond .lt 0, 9, 55, 0, 0)), (9, (.iload 0, 10, 1, 0, 0)), (10, (.iload 0, 11, 3, 0, 0)), (11, (.ishr, 12, 0, 0, 0)), (12, (.iconst 0, 13, 0, 0, 1)), (13, (.iand, 14, 0, 0, 0)), (14, (.ifCond .eq 0, 17, 49, 0, 0)), (17, (.aload 0, 18, 0, 0, 0)), (18, (.getfield 0, 21, 1, 0, 3)), (21, (.iload 0, 22, 3, 0, 0)), (22, (.iaload, 23, 0, 0, 0)), (23, (.iload 0, 24, 2, 0, 0)), (24, (.iand, 25, 0, 0, 0)), (25, (.ifCond .ne 0, 28, 41, 0, 0)), (28, (.iload 0, 29, 2, 0, 0)), (29, (.invokestatic 0, 32, 291, 1, 1)), (32, (.aload 0, 33, 0, 0, 0)), (33, (.getfield 0, 36, 1, 1, 0)), (36, (.iconst 0, 37, 0, 0, 1)), (37, (.isub, 38, 0, 0, 0)), (38, (.if_icmp .lt 0, 41, 43, 0, 0)), (41, (.iload 0, 42, 3, 0, 0)), (42, (.ireturn, 43, 0, 0, 0)), (43, (.iload 0, 44, 2, 0, 0)), (44, (.iconst 0, 45, 0, 0, 1)), (45, (.iload 0, 46, 3, 0, 0)), (46, (.ishl, 47, 0, 0, 0)), (47, (.ior, 48, 0, 0, 0)), (48, (.istore 0, 49, 2, 0, 0)), (49, (.iinc 0 0, 52, 3, 0, -1)), (52, (.goto 0, 55, 5, 0, 0)), (55, (.iconst 0, 56, 0, 0, -1)), (56, (.ireturn, 57, 0, 0, 0))]
def cd_Carriers_isFull : List (Nat × ab_E) := [(0, (.iload 0, 1, 1, 0, 0)), (1, (.invokestatic 0, 4, 291, 1, 1)), (4, (.aload 0, 5, 0, 0, 0)), (5, (.getfield 0, 8, 1, 1, 0)), (8, (.if_icmp .lt 0, 11, 13, 0, 0)), (11, (.iconst 0, 12, 0, 0, 1)), (12, (.ireturn, 13, 1, 0, 0)), (13, (.iconst 0, 14, 0, 0, 0)), (14, (.istore 0, 15, 3, 0, 0)), (15, (.iload 0, 16, 3, 0, 0)), (16, (.iconst 0, 18, 0, 0, 16)), (18, (.if_icmp .ge 0, 21, 52, 0, 0)), (21, (.iload 0, 22, 2, 0, 0)), (22, (.iload 0, 23, 1, 0, 0)), (23, (.iconst 0, 24, 0, 0, -1)), (24, (.ixor, 25, 0, 0, 0)), (25, (.iand, 26, 0, 0, 0)), (26, (.iload 0, 27, 3, 0, 0)), (27, (.ishr, 28, 0, 0, 0)), (28, (.iconst 0, 29, 0, 0, 1)), (29, (.iand, 30, 0, 0, 0)), (30, (.ifCond .eq 0, 33, 46, 0, 0)), (33, (.aload 0, 34, 0, 0, 0)), (34, (.getfield 0, 37, 1, 0, 3)), (37, (.iload 0, 38, 3, 0, 0)), (38, (.iaload, 39, 0, 0, 0)), (39, (.iload 0, 40, 1, 0, 0)), (40, (.iand, 41, 0, 0, 0)), (41, (.ifCond .ne 0, 44, 46, 0, 0)), (44, (.iconst 0, 45, 0, 0, 0)), (45, (.ireturn, 46, 1, 0, 0)), (46, (.iinc 0 0, 49, 3, 0, 1)), (49, (.goto 0, 52, 15, 0, 0)), (52, (.iconst 0, 53, 0, 0, 1)), (53, (.ireturn, 54, 1, 0, 0))]
def cd_Company_init : List (Nat × ab_E) := [(0, (.aload 0, 1, 0, 0, 0)), (1, (.d2l, 4, 0, 0, 0)), (4, (.aload 0, 5, 0, 0, 0)), (5, (.iconst 0, 7, 0, 0, 6)), (7, (.anewarray 0, 10, 46, 0, 0)), (10, (.putfield 0, 13, 2, 0, 3)), (13, (.iconst 0, 14, 0, 0, 0)), (14, (.istore 0, 15, 1, 0, 0)), (15, (.iload 0, 16, 1, 0, 0)), (16, (.aload 0, 17, 0, 0, 0)), (17, (.getfield 0, 20, 2, 0, 3)), (20, (.arraylength, 21, 0, 0, 0)), (21, (.if_icmp .ge 0, 24, 43, 0, 0)), (24, (.aload 0, 25, 0, 0, 0)), (25, (.getfield 0, 28, 2, 0, 3)), (28, (.iload 0, 29, 1, 0, 0)), (29, (.new 0, 32, 3, 0, 0)), (32, (.dup, 33, 0, 0, 0)), (33, (.invokespecial 3, 36, 203, 1, 0)), (36, (.aastore, 37, 3, 46, 0)), (37, (.iinc 0 0, 40, 1, 0, 1)), (40, (.goto 0, 43, 15, 0, 0)), (43, (.return_, 44, 0, 0, 0))]
def cd_Company_likeOf : List (Nat × ab_E) := [(0, (.aload 0, 1, 0, 0, 0)), (1, (.aload 0, 2, 1, 0, 0)), (2, (.getfield 0, 5, 2, 1, 0)), (5, (.putfield 0, 8, 2, 1, 0)), (8, (.iconst 0, 9, 0, 0, 0)), (9, (.istore 0, 10, 2, 0, 0)), (10, (.iload 0, 11, 2, 0, 0)), (11, (.aload 0, 12, 0, 0, 0)), (12, (.getfield 0, 15, 2, 1, 0)), (15, (.if_icmp .ge 0, 18, 39, 0, 0)), (18, (.aload 0, 19, 0, 0, 0)), (19, (.getfield 0, 22, 2, 0, 3)), (22, (.iload 0, 23, 2, 0, 0)), (23, (.aaload, 24, 0, 0, 0)), (24, (.aload 0, 25, 1, 0, 0)), (25, (.getfield 0, 28, 2, 0, 3)), (28, (.iload 0, 29, 2, 0, 0)), (29, (.aaload, 30, 0, 0, 0)), (30, (.invokevirtual 3, 33, 205, 2, 0)), (33, (.iinc 0 0, 36, 2, 0, 1)), (36, (.goto 0, 39, 10, 0, 0)), (39, (.return_, 40, 0, 0, 0))]
def cd_Company_isOne : List (Nat × ab_E) := [(0, (.lload 0, 1, 1, 0, 0)), (1, (.ldc2_w 0, 2, 0, 0, 0)), (2, (.lcmp, 3, 0, 0, 0)), (3, (.ifCond .lt 0, 6, 20, 0, 0)), (6, (.lload 0, 7, 1, 0, 0)), (7, (.aload 0, 8, 0, 0, 0)), (8, (.getfield 0, 11, 2, 1, 0)), (11, (.i2l, 12, 0, 0, 0)), (12, (.lcmp, 13, 0, 0, 0)), (13, (.ifCond .ge 0, 16, 20, 0, 0)), (16, (.iconst 0, 17, 0, 0, 1)), (17, (.goto 0, 20, 21, 0, 0)), (20, (.iconst 0, 21, 0, 0, 0)), (21, (.ireturn, 22, 1, 0, 0))]
def cd_Company_areTwo : List (Nat × ab_E) := [(0, (.aload 0, 1, 0, 0, 0)), (1, (.lload 0, 2, 1, 0, 0)), (2, (.invokevirtual 2, 5, 186, 2, 1)), (5, (.ifCond .eq 0, 8, 26, 0, 0)), (8, (.aload 0, 9, 0, 0, 0)), (9, (.lload 0, 10, 3, 0, 0)), (10, (.invokevirtual 2, 13, 186, 2, 1)), (13, (.ifCond .eq 0, 16, 26, 0, 0)), (16, (.lload 0, 17, 1, 0, 0)), (17, (.lload 0, 18, 3, 0, 0)), (18, (.lcmp, 19, 0, 0, 0)), (19, (.ifCond .eq 0, 22, 26, 0, 0)), (22, (.iconst 0, 23, 0, 0, 1)), (23, (.goto 0, 26, 27, 0, 0)), (26, (.iconst 0, 27, 0, 0, 0)), (27, (.ireturn, 28, 1, 0, 0))]
def cd_Company_addOne : List (Nat × ab_E) := [(0, (.aload 0, 1, 0, 0, 0)), (1, (.getfield 0, 4, 2, 1, 0)), (4, (.aload 0, 5, 0, 0, 0)), (5, (.getfield 0, 8, 2, 0, 3)), (8, (.arraylength, 9, 0, 0, 0)), (9, (.if_icmp .lt 0, 12, 15, 0, 0)), (12, (.iconst 0, 14, 0, 0, -4)), (14, (.ireturn, 15, 0, 0, 0)), (15, (.aload 0, 16, 0, 0, 0)), (16, (.getfield 0, 19, 2, 0, 3)), (19, (.aload 0, 20, 0, 0, 0)), (20, (.getfield 0, 23, 2, 1, 0)), (23, (.aaload, 24, 0, 0, 0)), (24, (.iload 0, 25, 1, 0, 0)), (25, (.invokevirtual 3, 28, 204, 2, 0)), (28, (.aload 0, 29, 0, 0, 0)), (29, (.dup, 30, 0, 0, 0)), (30, (.getfield 0, 33, 2, 1, 0)), (33, (.iconst 0, 34, 0, 0, 1)), (34, (.iadd, 35, 0, 0, 0)), (35, (.putfield 0, 38, 2, 1, 0)), (38, (.aload 0, 39, 0, 0, 0)), (39, (.getfield 0, 42, 2, 1, 0)), (42, (.iconst 0, 43, 0, 0, 1)), (43, (.isub, 44, 0, 0, 0)), (44, (.ireturn, 45, 0, 0, 0))]
def cd_Company_turnedPairs : List (Nat × ab_E) := [(0, (.iconst 0, 1, 0, 0, 0)), (1, (.istore 0, 2, 3, 0, 0)), (2, (.iconst 0, 3, 0, 0, 0)), (3, (.istore 0, 5, 4, 0, 0)), (5, (.iload 0, 7, 4, 0, 0)), (7, (.aload 0, 8, 1, 0, 0)), (8, (.getfield 0, 11, 3, 2, 0)), (11, (.if_icmp .ge 0, 14, 81, 0, 0)), (14, (.aload 0, 15, 2, 0, 0)), (15, (.aload 0, 16, 1, 0, 0)), (16, (.iload 0, 18, 4, 0, 0)), (18, (.invokevirtual 3, 21, 209, 2, 1)), (21, (.invokevirtual 3, 24, 210, 2, 1)), (24, (.istore 0, 26, 5, 0, 0)), (26, (.iload 0, 28, 4, 0, 0)), (28, (.iconst 0, 29, 0, 0, 1)), (29, (.iadd, 30, 0, 0, 0)), (30, (.istore 0, 32, 6, 0, 0)), (32, (.iload 0, 34, 6, 0, 0)), (34, (.aload 0, 35, 1, 0, 0)), (35, (.getfield 0, 38, 3, 2, 0)), (38, (.if_icmp .ge 0, 41, 75, 0, 0)), (41, (.aload 0, 42, 2, 0, 0)), (42, (.aload 0, 43, 1, 0, 0)), (43, (.iload 0, 45, 6, 0, 0)), (45, (.invokevirtual 3, 48, 209, 2, 1)), (48, (.invokevirtual 3, 51, 210, 2, 1)), (51, (.istore 0, 53, 7, 0, 0)), (53, (.iload 0, 55, 7, 0, 0)), (55, (.iconst 0, 56, 0, 0, -1)), (56, (.if_icmp .eq 0, 59, 69, 0, 0)), (59, (.iload 0, 61, 7, 0, 0)), (61, (.iload 0, 63, 5, 0, 0)), (63, (.if_icmp .ge 0, 66, 69, 0, 0)), (66, (.iinc 0 0, 69, 3, 0, 1)), (69, (.iinc 0 0, 72, 6, 0, 1)), (72, (.goto 0, 75, 32, 0, 0)), (75, (.iinc 0 0, 78, 4, 0, 1)), (78, (.goto 0, 81, 5, 0, 0)), (81, (.iload 0, 82, 3, 0, 0)), (82, (.ireturn, 83, 0, 0, 0))]
def cd_Company_act : List (Nat × ab_E) := [(0, (.aload 0, 1, 0, 0, 0)), (1, (.iconst 0, 2, 0, 0, 0)), (2, (.putfield 0, 5, 2, 2, 0)), (5, (.iconst 0, 6, 0, 0, 0)), (6, (.istore 0, 8, 4, 0, 0)), (8, (.iload 0, 10, 4, 0, 0)), (10, (.aload 0, 11, 3, 0, 0)), (11, (.getfield 0, 14, 8, 1, 0)), (14, (.if_icmp .ge 0, 17, 69, 0, 0)), (17, (.aload 0, 18, 0, 0, 0)), (18, (.aload 0, 19, 1, 0, 0)), (19, (.iload 0, 20, 2, 0, 0)), (20, (.aload 0, 21, 3, 0, 0)), (21, (.getfield 0, 24, 8, 0, 3)), (24, (.iload 0, 26, 4, 0, 0)), (26, (.laload, 27, 0, 0, 0)), (27, (.invokevirtual 2, 30, 191, 4, 1)), (30, (.ifCond .ne 0, 33, 36, 0, 0)), (33, (.iload 0, 35, 4, 0, 0)), (35, (.ireturn, 36, 0, 0, 0)), (36, (.aload 0, 37, 1, 0, 0)), (37, (.aload 0, 38, 0, 0, 0)), (38, (.getfield 0, 41, 2, 0, 3)), (41, (.iload 0, 42, 2, 0, 0)), (42, (.aaload, 43, 0, 0, 0)), (43, (.getfield 0, 46, 3, 3, 0)), (46, (.invokevirtual 5, 49, 243, 2, 1)), (49, (.iconst 0, 50, 0, 0, -1)), (50, (.if_icmp .eq 0, 53, 63, 0, 0)), (53, (.aload 0, 54, 0, 0, 0)), (54, (.dup, 55, 0, 0, 0)), (55, (.getfield 0, 58, 2, 2, 0)), (58, (.iconst 0, 59, 0, 0, 1)), (59, (.iadd, 60, 0, 0, 0)), (60, (.putfield 0, 63, 2, 2, 0)), (63, (.iinc 0 0, 66, 4, 0, 1)), (66, (.goto 0, 69, 8, 0, 0)), (69, (.aload 0, 70, 3, 0, 0)), (70, (.getfield 0, 73, 8, 1, 0)), (73, (.ireturn, 74, 0, 0, 0))]
def cd_Company_actOnce : List (Nat × ab_E) := [(0, (.aload 0, 1, 0, 0, 0)), (1, (.getfield 0, 4, 2, 0, 3)), (4, (.iload 0, 5, 2, 0, 0)), (5, (.aaload, 6, 0, 0, 0)), (6, (.astore 0, 8, 5, 0, 0)), (8, (.lload 0, 9, 3, 0, 0)), (9, (.ldc2_w 0, 12, 0, 0, 20)), (12, (.lcmp, 13, 0, 0, 0)), (13, (.ifCond .ge 0, 16, 24, 0, 0)), (16, (.aload 0, 17, 1, 0, 0)), (17, (.aload 0, 19, 5, 0, 0)), (19, (.lload 0, 20, 3, 0, 0)), (20, (.invokestatic 0, 23, 192, 3, 1)), (23, (.ireturn, 24, 1, 0, 0)), (24, (.lload 0, 25, 3, 0, 0)), (25, (.ldc2_w 0, 28, 0, 0, 40)), (28, (.lcmp, 29, 0, 0, 0)), (29, (.ifCond .ge 0, 32, 44, 0, 0)), (32, (.aload 0, 33, 1, 0, 0)), (33, (.aload 0, 35, 5, 0, 0)), (35, (.lload 0, 36, 3, 0, 0)), (36, (.ldc2_w 0, 39, 0, 0, 20)), (39, (.lsub, 40, 0, 0, 0)), (40, (.invokestatic 0, 43, 193, 3, 1)), (43, (.ireturn, 44, 1, 0, 0)), (44, (.lload 0, 45, 3, 0, 0)), (45, (.ldc2_w 0, 48, 0, 0, 60)), (48, (.lcmp, 49, 0, 0, 0)), (49, (.ifCond .ge 0, 52, 64, 0, 0)), (52, (.aload 0, 53, 1, 0, 0)), (53, (.aload 0, 55, 5, 0, 0)), (55, (.lload 0, 56, 3, 0, 0)), (56, (.ldc2_w 0, 59, 0, 0, 40)), (59, (.lsub, 60, 0, 0, 0)), (60, (.invokestatic 0, 63, 194, 3, 1)), (63, (.ireturn, 64, 1, 0, 0)), (64, (.lload 0, 65, 3, 0, 0)), (65, (.ldc2_w 0, 68, 0, 0, 60)), (68, (.lsub, 69, 0, 0, 0)), (69, (.lstore 0, 71, 6, 0, 0)), (71, (.aload 0, 72, 0, 0, 0)), (72, (.iload 0, 73, 2, 0, 0)), (73, (.i2l, 74, 0, 0, 0)), (74, (.lload 0, 76, 6, 0, 0)), (76, (.invokevirtual 2, 79, 187, 3, 1)), (79, (.ifCond .eq 0, 82, 103, 0, 0)), (82, (.aload 0, 83, 1, 0, 0)), (83, (.aload 0, 85, 5, 0, 0)), (85, (.aload 0, 86, 0, 0, 0)), (86, (.getfield 0, 89, 2, 0, 3)), (89, (.lload 0, 91, 6, 0, 0)), (91, (.l2i, 92, 0, 0, 0)), (92, (.aaload, 93, 0, 0, 0)), (93, (.invokestatic 0, 96, 195, 3, 1)), (96, (.ifCond .eq 0, 99, 103, 0, 0)), (99, (.iconst 0, 100, 0, 0, 1)), (100, (.goto 0, 103, 104, 0, 0)), (103, (.iconst 0, 104, 0, 0, 0)), (104, (.ireturn, 105, 1, 0, 0))]
def cd_Company_hearIfThere : List (Nat × ab_E) := [(0, (.aload 0, 1, 0, 0, 0)), (1, (.lload 0, 2, 2, 0, 0)), (2, (.invokevirtual 5, 5, 235, 2, 1)), (5, (.ifCond .ne 0, 8, 10, 0, 0)), (8, (.iconst 0, 9, 0, 0, 0)), (9, (.ireturn, 10, 1, 0, 0)), (10, (.aload 0, 11, 1, 0, 0)), (11, (.lload 0, 12, 2, 0, 0)), (12, (.l2i, 13, 0, 0, 0)), (13, (.invokevirtual 3, 16, 211, 2, 1)), (16, (.pop, 17, 0, 0, 0)), (17, (.iconst 0, 18, 0, 0, 1)), (18, (.ireturn, 19, 1, 0, 0))]
def cd_Company_sayIfHeld : List (Nat × ab_E) := [(0, (.aload 0, 1, 0, 0, 0)), (1, (.lload 0, 2, 2, 0, 0)), (2, (.invokevirtual 5, 5, 235, 2, 1)), (5, (.ifCond .eq 0, 8, 17, 0, 0)), (8, (.aload 0, 9, 1, 0, 0)), (9, (.lload 0, 10, 2, 0, 0)), (10, (.l2i, 11, 0, 0, 0)), (11, (.invokevirtual 3, 14, 208, 2, 1)), (14, (.ifCond .ne 0, 17, 19, 0, 0)), (17, (.iconst 0, 18, 0, 0, 0)), (18, (.ireturn, 19, 1, 0, 0)), (19, (.aload 0, 20, 1, 0, 0)), (20, (.aload 0, 21, 0, 0, 0)), (21, (.lload 0, 22, 2, 0, 0)), (22, (.l2i, 23, 0, 0, 0)), (23, (.invokevirtual 3, 26, 214, 3, 1)), (26, (.pop, 27, 0, 0, 0)), (27, (.iconst 0, 28, 0, 0, 1)), (28, (.ireturn, 29, 1, 0, 0))]
def cd_Company_walkIfThere : List (Nat × ab_E) := [(0, (.aload 0, 1, 0, 0, 0)), (1, (.lload 0, 2, 2, 0, 0)), (2, (.invokevirtual 5, 5, 236, 2, 1)), (5, (.ifCond .ne 0, 8, 10, 0, 0)), (8, (.iconst 0, 9, 0, 0, 0)), (9, (.ireturn, 10, 1, 0, 0)), (10, (.aload 0, 11, 1, 0, 0)), (11, (.aload 0, 12, 0, 0, 0)), (12, (.lload 0, 13, 2, 0, 0)), (13, (.l2i, 14, 0, 0, 0)), (14, (.invokevirtual 3, 17, 215, 3, 1)), (17, (.pop, 18, 0, 0, 0)), (18, (.iconst 0, 19, 0, 0, 1)), (19, (.ireturn, 20, 1, 0, 0))]
def cd_Company_listenIfNear : List (Nat × ab_E) := [(0, (.aload 0, 1, 1, 0, 0)), (1, (.getfield 0, 4, 3, 1, 0)), (4, (.aload 0, 5, 2, 0, 0)), (5, (.getfield 0, 8, 3, 1, 0)), (8, (.if_icmp .eq 0, 11, 13, 0, 0)), (11, (.iconst 0, 12, 0, 0, 0)), (12, (.ireturn, 13, 1, 0, 0)), (13, (.aload 0, 14, 2, 0, 0)), (14, (.getfield 0, 17, 3, 4, 2)), (17, (.lstore 0, 18, 3, 0, 0)), (18, (.aload 0, 19, 2, 0, 0)), (19, (.getfield 0, 22, 3, 2, 0)), (22, (.istore 0, 24, 5, 0, 0)), (24, (.iconst 0, 25, 0, 0, 0)), (25, (.istore 0, 27, 6, 0, 0)), (27, (.iload 0, 29, 6, 0, 0)), (29, (.iload 0, 31, 5, 0, 0)), (31, (.if_icmp .ge 0, 34, 76, 0, 0)), (34, (.lload 0, 35, 3, 0, 0)), (35, (.iconst 0, 36, 0, 0, 4)), (36, (.iload 0, 38, 6, 0, 0)), (38, (.imul, 39, 0, 0, 0)), (39, (.lushr, 40, 0, 0, 0)), (40, (.l2i, 41, 0, 0, 0)), (41, (.iconst 0, 43, 0, 0, 15)), (43, (.iand, 44, 0, 0, 0)), (44, (.istore 0, 46, 7, 0, 0)), (46, (.aload 0, 47, 2, 0, 0)), (47, (.iload 0, 49, 7, 0, 0)), (49, (.invokevirtual 3, 52, 208, 2, 1)), (52, (.ifCond .eq 0, 55, 70, 0, 0)), (55, (.aload 0, 56, 2, 0, 0)), (56, (.aload 0, 57, 0, 0, 0)), (57, (.iload 0, 59, 7, 0, 0)), (59, (.invokevirtual 3, 62, 214, 3, 1)), (62, (.pop, 63, 0, 0, 0)), (63, (.aload 0, 64, 1, 0, 0)), (64, (.iload 0, 66, 7, 0, 0)), (66, (.invokevirtual 3, 69, 211, 2, 1)), (69, (.pop, 70, 0, 0, 0)), (70, (.iinc 0 0, 73, 6, 0, 1)), (73, (.goto 0, 76, 27, 0, 0)), (76, (.iconst 0, 77, 0, 0, 1)), (77, (.ireturn, 78, 1, 0, 0))]
def cd_Company_spendDay : List (Nat × ab_E) := [(0, (.aload 0, 1, 0, 0, 0)), (1, (.iload 0, 2, 2, 0, 0)), (2, (.putfield 0, 5, 2, 3, 0)), (5, (.aload 0, 6, 0, 0, 0)), (6, (.invokevirtual 2, 9, 199, 1, 1)), (9, (.istore 0, 11, 4, 0, 0)), (11, (.iconst 0, 12, 0, 0, 0)), (12, (.istore 0, 14, 5, 0, 0)), (14, (.iload 0, 16, 5, 0, 0)), (16, (.iload 0, 17, 3, 0, 0)), (17, (.if_icmp .ge 0, 20, 56, 0, 0)), (20, (.iconst 0, 21, 0, 0, 0)), (21, (.istore 0, 23, 6, 0, 0)), (23, (.iload 0, 25, 6, 0, 0)), (25, (.aload 0, 26, 0, 0, 0)), (26, (.getfield 0, 29, 2, 1, 0)), (29, (.if_icmp .ge 0, 32, 50, 0, 0)), (32, (.aload 0, 33, 0, 0, 0)), (33, (.aload 0, 34, 1, 0, 0)), (34, (.aload 0, 35, 0, 0, 0)), (35, (.getfield 0, 38, 2, 0, 3)), (38, (.iload 0, 40, 6, 0, 0)), (40, (.aaload, 41, 0, 0, 0)), (41, (.invokevirtual 2, 44, 197, 3, 0)), (44, (.iinc 0 0, 47, 6, 0, 1)), (47, (.goto 0, 50, 23, 0, 0)), (50, (.iinc 0 0, 53, 5, 0, 1)), (53, (.goto 0, 56, 14, 0, 0)), (56, (.aload 0, 57, 0, 0, 0)), (57, (.invokevirtual 2, 60, 199, 1, 1)), (60, (.iload 0, 62, 4, 0, 0)), (62, (.isub, 63, 0, 0, 0)), (63, (.ireturn, 64, 0, 0, 0))]
def cd_Company_spendOnce : List (Nat × ab_E) := [(0, (.aload 0, 1, 0, 0, 0)), (1, (.invokevirtual 2, 4, 198, 1, 1)), (4, (.iconst 0, 5, 0, 0, 4)), (5, (.irem, 6, 0, 0, 0)), (6, (.istore 0, 7, 3, 0, 0)), (7, (.iload 0, 8, 3, 0, 0)), (8, (.ifCond .ne 0, 11, 35, 0, 0)), (11, (.aload 0, 12, 1, 0, 0)), (12, (.getfield 0, 15, 5, 0, 0)), (15, (.ifCond .le 0, 18, 91, 0, 0)), (18, (.aload 0, 19, 2, 0, 0)), (19, (.aload 0, 20, 0, 0, 0)), (20, (.invokevirtual 2, 23, 198, 1, 1)), (23, (.aload 0, 24, 1, 0, 0)), (24, (.getfield 0, 27, 5, 0, 0)), (27, (.irem, 28, 0, 0, 0)), (28, (.invokevirtual 3, 31, 211, 2, 1)), (31, (.pop, 32, 0, 0, 0)), (32, (.goto 0, 35, 91, 0, 0)), (35, (.iload 0, 36, 3, 0, 0)), (36, (.iconst 0, 37, 0, 0, 1)), (37, (.if_icmp .ne 0, 40, 69, 0, 0)), (40, (.aload 0, 41, 2, 0, 0)), (41, (.getfield 0, 44, 3, 2, 0)), (44, (.ifCond .le 0, 47, 91, 0, 0)), (47, (.aload 0, 48, 2, 0, 0)), (48, (.aload 0, 49, 1, 0, 0)), (49, (.aload 0, 50, 2, 0, 0)), (50, (.aload 0, 51, 0, 0, 0)), (51, (.invokevirtual 2, 54, 198, 1, 1)), (54, (.aload 0, 55, 2, 0, 0)), (55, (.getfield 0, 58, 3, 2, 0)), (58, (.irem, 59, 0, 0, 0)), (59, (.invokevirtual 3, 62, 209, 2, 1)), (62, (.invokevirtual 3, 65, 214, 3, 1)), (65, (.pop, 66, 0, 0, 0)), (66, (.goto 0, 69, 91, 0, 0)), (69, (.aload 0, 70, 1, 0, 0)), (70, (.getfield 0, 73, 5, 3, 0)), (73, (.ifCond .le 0, 76, 91, 0, 0)), (76, (.aload 0, 77, 2, 0, 0)), (77, (.aload 0, 78, 1, 0, 0)), (78, (.aload 0, 79, 0, 0, 0)), (79, (.invokevirtual 2, 82, 198, 1, 1)), (82, (.aload 0, 83, 1, 0, 0)), (83, (.getfield 0, 86, 5, 3, 0)), (86, (.irem, 87, 0, 0, 0)), (87, (.invokevirtual 3, 90, 215, 3, 1)), (90, (.pop, 91, 0, 0, 0)), (91, (.return_, 92, 0, 0, 0))]
end
end
section
section
def cd_Company_draw : List (Nat × ab_E) := [(0, (.aload 0, 1, 0, 0, 0)), (1, (.iconst 0, 3, 0, 0, 1103515245)), (3, (.aload 0, 4, 0, 0, 0)), (4, (.getfield 0, 7, 2, 3, 0)), (7, (.imul, 8, 0, 0, 0)), (8, (.iconst 0, 11, 0, 0, 12345)), (11, (.iadd, 12, 0, 0, 0)), (12, (.putfield 0, 15, 2, 3, 0)), (15, (.aload 0, 16, 0, 0, 0)), (16, (.getfield 0, 19, 2, 3, 0)), (19, (.iconst 0, 21, 0, 0, 16)), (21, (.iushr, 22, 0, 0, 0)), (22, (.ireturn, 23, 0, 0, 0))]
def cd_Company_lostByAll : List (Nat × ab_E) := [(0, (.iconst 0, 1, 0, 0, 0)), (1, (.istore 0, 2, 1, 0, 0)), (2, (.iconst 0, 3, 0, 0, 0)), (3, (.istore 0, 4, 2, 0, 0)), (4, (.iload 0, 5, 2, 0, 0)), (5, (.aload 0, 6, 0, 0, 0)), (6, (.getfield 0, 9, 2, 1, 0)), (9, (.if_icmp .ge 0, 12, 30, 0, 0)), (12, (.iload 0, 13, 1, 0, 0)), (13, (.aload 0, 14, 0, 0, 0)), (14, (.getfield 0, 17, 2, 0, 3)), (17, (.iload 0, 18, 2, 0, 0)), (18, (.aaload, 19, 0, 0, 0)), (19, (.getfield 0, 22, 3, 5, 0)), (22, (.iadd, 23, 0, 0, 0)), (23, (.istore 0, 24, 1, 0, 0)), (24, (.iinc 0 0, 27, 2, 0, 1)), (27, (.goto 0, 30, 4, 0, 0)), (30, (.iload 0, 31, 1, 0, 0)), (31, (.ireturn, 32, 0, 0, 0))]
def cd_Company_heldByHimAlone : List (Nat × ab_E) := [(0, (.aload 0, 1, 0, 0, 0)), (1, (.getfield 0, 4, 2, 0, 3)), (4, (.iload 0, 5, 1, 0, 0)), (5, (.aaload, 6, 0, 0, 0)), (6, (.getfield 0, 9, 3, 3, 0)), (9, (.aload 0, 10, 0, 0, 0)), (10, (.iconst 0, 11, 0, 0, 1)), (11, (.iload 0, 12, 1, 0, 0)), (12, (.ishl, 13, 0, 0, 0)), (13, (.iconst 0, 14, 0, 0, -1)), (14, (.ixor, 15, 0, 0, 0)), (15, (.invokevirtual 2, 18, 201, 2, 1)), (18, (.iconst 0, 19, 0, 0, -1)), (19, (.ixor, 20, 0, 0, 0)), (20, (.iand, 21, 0, 0, 0)), (21, (.ireturn, 22, 0, 0, 0))]
def cd_Company_heldBy : List (Nat × ab_E) := [(0, (.iconst 0, 1, 0, 0, 0)), (1, (.istore 0, 2, 2, 0, 0)), (2, (.iconst 0, 3, 0, 0, 0)), (3, (.istore 0, 4, 3, 0, 0)), (4, (.iload 0, 5, 3, 0, 0)), (5, (.aload 0, 6, 0, 0, 0)), (6, (.getfield 0, 9, 2, 1, 0)), (9, (.if_icmp .ge 0, 12, 38, 0, 0)), (12, (.iload 0, 13, 1, 0, 0)), (13, (.iload 0, 14, 3, 0, 0)), (14, (.ishr, 15, 0, 0, 0)), (15, (.iconst 0, 16, 0, 0, 1)), (16, (.iand, 17, 0, 0, 0)), (17, (.ifCond .eq 0, 20, 32, 0, 0)), (20, (.iload 0, 21, 2, 0, 0)), (21, (.aload 0, 22, 0, 0, 0)), (22, (.getfield 0, 25, 2, 0, 3)), (25, (.iload 0, 26, 3, 0, 0)), (26, (.aaload, 27, 0, 0, 0)), (27, (.getfield 0, 30, 3, 3, 0)), (30, (.ior, 31, 0, 0, 0)), (31, (.istore 0, 32, 2, 0, 0)), (32, (.iinc 0 0, 35, 3, 0, 1)), (35, (.goto 0, 38, 4, 0, 0)), (38, (.iload 0, 39, 2, 0, 0)), (39, (.ireturn, 40, 0, 0, 0))]
def cd_Company_fewestHolding : List (Nat × ab_E) := [(0, (.iconst 0, 1, 0, 0, 1)), (1, (.aload 0, 2, 0, 0, 0)), (2, (.getfield 0, 5, 2, 1, 0)), (5, (.ishl, 6, 0, 0, 0)), (6, (.iconst 0, 7, 0, 0, 1)), (7, (.isub, 8, 0, 0, 0)), (8, (.istore 0, 9, 2, 0, 0)), (9, (.iload 0, 10, 1, 0, 0)), (10, (.aload 0, 11, 0, 0, 0)), (11, (.iload 0, 12, 2, 0, 0)), (12, (.invokevirtual 2, 15, 201, 2, 1)), (15, (.iand, 16, 0, 0, 0)), (16, (.istore 0, 17, 3, 0, 0)), (17, (.iload 0, 18, 2, 0, 0)), (18, (.istore 0, 20, 4, 0, 0)), (20, (.iconst 0, 21, 0, 0, 0)), (21, (.istore 0, 23, 5, 0, 0)), (23, (.iload 0, 25, 5, 0, 0)), (25, (.iload 0, 26, 2, 0, 0)), (26, (.if_icmp .ge 0, 29, 65, 0, 0)), (29, (.iload 0, 31, 5, 0, 0)), (31, (.invokestatic 0, 34, 291, 1, 1)), (34, (.iload 0, 36, 4, 0, 0)), (36, (.invokestatic 0, 39, 291, 1, 1)), (39, (.if_icmp .ge 0, 42, 59, 0, 0)), (42, (.iload 0, 43, 3, 0, 0)), (43, (.aload 0, 44, 0, 0, 0)), (44, (.iload 0, 46, 5, 0, 0)), (46, (.invokevirtual 2, 49, 201, 2, 1)), (49, (.iconst 0, 50, 0, 0, -1)), (50, (.ixor, 51, 0, 0, 0)), (51, (.iand, 52, 0, 0, 0)), (52, (.ifCond .ne 0, 55, 59, 0, 0)), (55, (.iload 0, 57, 5, 0, 0)), (57, (.istore 0, 59, 4, 0, 0)), (59, (.iinc 0 0, 62, 5, 0, 1)), (62, (.goto 0, 65, 23, 0, 0)), (65, (.iload 0, 67, 4, 0, 0)), (67, (.ireturn, 68, 0, 0, 0))]
def cd_Courier_init : List (Nat × ab_E) := [(0, (.aload 0, 1, 0, 0, 0)), (1, (.d2l, 4, 0, 0, 0)), (4, (.aload 0, 5, 0, 0, 0)), (5, (.iconst 0, 6, 0, 0, 1)), (6, (.putfield 0, 9, 3, 0, 0)), (9, (.aload 0, 10, 0, 0, 0)), (10, (.iconst 0, 12, 0, 0, 16)), (12, (.newarray .int, 14, 47, 0, 0)), (14, (.putfield 0, 17, 3, 6, 3)), (17, (.return_, 18, 0, 0, 0))]
def cd_Courier_begin : List (Nat × ab_E) := [(0, (.aload 0, 1, 0, 0, 0)), (1, (.iload 0, 2, 1, 0, 0)), (2, (.putfield 0, 5, 3, 0, 0)), (5, (.aload 0, 6, 0, 0, 0)), (6, (.iconst 0, 7, 0, 0, 0)), (7, (.putfield 0, 10, 3, 1, 0)), (10, (.aload 0, 11, 0, 0, 0)), (11, (.iconst 0, 12, 0, 0, 0)), (12, (.putfield 0, 15, 3, 5, 0)), (15, (.aload 0, 16, 0, 0, 0)), (16, (.getfield 0, 19, 3, 6, 3)), (19, (.iconst 0, 20, 0, 0, -1)), (20, (.invokestatic 0, 23, 295, 2, 0)), (23, (.aload 0, 24, 0, 0, 0)), (24, (.ldc2_w 0, 25, 0, 0, 0)), (25, (.iconst 0, 26, 0, 0, 0)), (26, (.invokevirtual 3, 29, 207, 3, 0)), (29, (.return_, 30, 0, 0, 0))]
def cd_Courier_likeOf : List (Nat × ab_E) := [(0, (.aload 0, 1, 0, 0, 0)), (1, (.aload 0, 2, 1, 0, 0)), (2, (.invokevirtual 3, 5, 206, 2, 0)), (5, (.aload 0, 6, 0, 0, 0)), (6, (.aload 0, 7, 1, 0, 0)), (7, (.getfield 0, 10, 3, 5, 0)), (10, (.putfield 0, 13, 3, 5, 0)), (13, (.aload 0, 14, 1, 0, 0)), (14, (.getfield 0, 17, 3, 6, 3)), (17, (.iconst 0, 18, 0, 0, 0)), (18, (.aload 0, 19, 0, 0, 0)), (19, (.getfield 0, 22, 3, 6, 3)), (22, (.iconst 0, 23, 0, 0, 0)), (23, (.aload 0, 24, 0, 0, 0)), (24, (.getfield 0, 27, 3, 6, 3)), (27, (.arraylength, 28, 0, 0, 0)), (28, (.caload, 31, 0, 0, 0)), (31, (.return_, 32, 0, 0, 0))]
def cd_Courier_likeMindOf : List (Nat × ab_E) := [(0, (.aload 0, 1, 0, 0, 0)), (1, (.aload 0, 2, 1, 0, 0)), (2, (.getfield 0, 5, 3, 0, 0)), (5, (.putfield 0, 8, 3, 0, 0)), (8, (.aload 0, 9, 0, 0, 0)), (9, (.aload 0, 10, 1, 0, 0)), (10, (.getfield 0, 13, 3, 1, 0)), (13, (.putfield 0, 16, 3, 1, 0)), (16, (.aload 0, 17, 0, 0, 0)), (17, (.aload 0, 18, 1, 0, 0)), (18, (.getfield 0, 21, 3, 4, 2)), (21, (.aload 0, 22, 1, 0, 0)), (22, (.getfield 0, 25, 3, 3, 0)), (25, (.invokevirtual 3, 28, 207, 3, 0)), (28, (.return_, 29, 0, 0, 0))]
def cd_Courier_setMind : List (Nat × ab_E) := [(0, (.aload 0, 1, 0, 0, 0)), (1, (.lload 0, 2, 1, 0, 0)), (2, (.putfield 0, 5, 3, 4, 2)), (5, (.aload 0, 6, 0, 0, 0)), (6, (.iload 0, 7, 3, 0, 0)), (7, (.putfield 0, 10, 3, 3, 0)), (10, (.aload 0, 11, 0, 0, 0)), (11, (.iload 0, 12, 3, 0, 0)), (12, (.invokestatic 0, 15, 291, 1, 1)), (15, (.putfield 0, 18, 3, 2, 0)), (18, (.return_, 19, 0, 0, 0))]
def cd_Courier_has : List (Nat × ab_E) := [(0, (.aload 0, 1, 0, 0, 0)), (1, (.getfield 0, 4, 3, 3, 0)), (4, (.iload 0, 5, 1, 0, 0)), (5, (.ishr, 6, 0, 0, 0)), (6, (.iconst 0, 7, 0, 0, 1)), (7, (.iand, 8, 0, 0, 0)), (8, (.ifCond .eq 0, 11, 15, 0, 0)), (11, (.iconst 0, 12, 0, 0, 1)), (12, (.goto 0, 15, 16, 0, 0)), (15, (.iconst 0, 16, 0, 0, 0)), (16, (.ireturn, 17, 1, 0, 0))]
def cd_Courier_thingAt : List (Nat × ab_E) := [(0, (.aload 0, 1, 0, 0, 0)), (1, (.getfield 0, 4, 3, 4, 2)), (4, (.iconst 0, 5, 0, 0, 4)), (5, (.iload 0, 6, 1, 0, 0)), (6, (.imul, 7, 0, 0, 0)), (7, (.lushr, 8, 0, 0, 0)), (8, (.l2i, 9, 0, 0, 0)), (9, (.iconst 0, 11, 0, 0, 15)), (11, (.iand, 12, 0, 0, 0)), (12, (.ireturn, 13, 0, 0, 0))]
def cd_Courier_placeOf : List (Nat × ab_E) := [(0, (.iconst 0, 1, 0, 0, 0)), (1, (.istore 0, 2, 2, 0, 0)), (2, (.iload 0, 3, 2, 0, 0)), (3, (.aload 0, 4, 0, 0, 0)), (4, (.getfield 0, 7, 3, 2, 0)), (7, (.if_icmp .ge 0, 10, 27, 0, 0)), (10, (.aload 0, 11, 0, 0, 0)), (11, (.iload 0, 12, 2, 0, 0)), (12, (.invokevirtual 3, 15, 209, 2, 1)), (15, (.iload 0, 16, 1, 0, 0)), (16, (.if_icmp .ne 0, 19, 21, 0, 0)), (19, (.iload 0, 20, 2, 0, 0)), (20, (.ireturn, 21, 0, 0, 0)), (21, (.iinc 0 0, 24, 2, 0, 1)), (24, (.goto 0, 27, 2, 0, 0)), (27, (.iconst 0, 28, 0, 0, -1)), (28, (.ireturn, 29, 0, 0, 0))]
def cd_Courier_hear : List (Nat × ab_E) := [(0, (.aload 0, 1, 0, 0, 0)), (1, (.iload 0, 2, 1, 0, 0)), (2, (.invokevirtual 3, 5, 208, 2, 1)), (5, (.ifCond .eq 0, 8, 15, 0, 0)), (8, (.aload 0, 9, 0, 0, 0)), (9, (.iload 0, 10, 1, 0, 0)), (10, (.invokevirtual 3, 13, 212, 2, 0)), (13, (.iconst 0, 14, 0, 0, -1)), (14, (.ireturn, 15, 0, 0, 0)), (15, (.aload 0, 16, 0, 0, 0)), (16, (.aload 0, 17, 0, 0, 0)), (17, (.getfield 0, 20, 3, 4, 2)), (20, (.iconst 0, 21, 0, 0, 4)), (21, (.lshl, 22, 0, 0, 0)), (22, (.iload 0, 23, 1, 0, 0)), (23, (.i2l, 24, 0, 0, 0)), (24, (.lor, 25, 0, 0, 0)), (25, (.putfield 0, 28, 3, 4, 2)), (28, (.aload 0, 29, 0, 0, 0)), (29, (.dup, 30, 0, 0, 0)), (30, (.getfield 0, 33, 3, 3, 0)), (33, (.iconst 0, 34, 0, 0, 1)), (34, (.iload 0, 35, 1, 0, 0)), (35, (.ishl, 36, 0, 0, 0)), (36, (.ior, 37, 0, 0, 0)), (37, (.putfield 0, 40, 3, 3, 0)), (40, (.aload 0, 41, 0, 0, 0)), (41, (.dup, 42, 0, 0, 0)), (42, (.getfield 0, 45, 3, 2, 0)), (45, (.iconst 0, 46, 0, 0, 1)), (46, (.iadd, 47, 0, 0, 0)), (47, (.putfield 0, 50, 3, 2, 0)), (50, (.aload 0, 51, 0, 0, 0)), (51, (.getfield 0, 54, 3, 2, 0)), (54, (.aload 0, 55, 0, 0, 0)), (55, (.getfield 0, 58, 3, 0, 0)), (58, (.if_icmp .le 0, 61, 68, 0, 0)), (61, (.aload 0, 62, 0, 0, 0)), (62, (.invokevirtual 3, 65, 213, 1, 1)), (65, (.goto 0, 68, 69, 0, 0)), (68, (.iconst 0, 69, 0, 0, -1)), (69, (.ireturn, 70, 0, 0, 0))]
def cd_Courier_bringForward : List (Nat × ab_E) := [(0, (.iconst 0, 1, 0, 0, 4)), (1, (.aload 0, 2, 0, 0, 0)), (2, (.iload 0, 3, 1, 0, 0)), (3, (.invokevirtual 3, 6, 210, 2, 1)), (6, (.iconst 0, 7, 0, 0, 0)), (7, (.invokestatic 0, 10, 293, 2, 1)), (10, (.imul, 11, 0, 0, 0)), (11, (.istore 0, 12, 2, 0, 0)), (12, (.aload 0, 13, 0, 0, 0)), (13, (.getfield 0, 16, 3, 4, 2)), (16, (.ldc2_w 0, 17, 0, 0, 1)), (17, (.iload 0, 18, 2, 0, 0)), (18, (.lshl, 19, 0, 0, 0)), (19, (.ldc2_w 0, 20, 0, 0, 1)), (20, (.lsub, 21, 0, 0, 0)), (21, (.land, 22, 0, 0, 0)), (22, (.lstore 0, 23, 3, 0, 0)), (23, (.aload 0, 24, 0, 0, 0)), (24, (.getfield 0, 27, 3, 4, 2)), (27, (.iload 0, 28, 2, 0, 0)), (28, (.iconst 0, 29, 0, 0, 4)), (29, (.iadd, 30, 0, 0, 0)), (30, (.lushr, 31, 0, 0, 0)), (31, (.iload 0, 32, 2, 0, 0)), (32, (.iconst 0, 33, 0, 0, 4)), (33, (.iadd, 34, 0, 0, 0)), (34, (.lshl, 35, 0, 0, 0)), (35, (.lstore 0, 37, 5, 0, 0)), (37, (.aload 0, 38, 0, 0, 0)), (38, (.lload 0, 40, 5, 0, 0)), (40, (.lload 0, 41, 3, 0, 0)), (41, (.iconst 0, 42, 0, 0, 4)), (42, (.lshl, 43, 0, 0, 0)), (43, (.lor, 44, 0, 0, 0)), (44, (.iload 0, 45, 1, 0, 0)), (45, (.i2l, 46, 0, 0, 0)), (46, (.lor, 47, 0, 0, 0)), (47, (.putfield 0, 50, 3, 4, 2)), (50, (.return_, 51, 0, 0, 0))]
def cd_Courier_loseLast : List (Nat × ab_E) := [(0, (.aload 0, 1, 0, 0, 0)), (1, (.dup, 2, 0, 0, 0)), (2, (.getfield 0, 5, 3, 2, 0)), (5, (.iconst 0, 6, 0, 0, 1)), (6, (.isub, 7, 0, 0, 0)), (7, (.putfield 0, 10, 3, 2, 0)), (10, (.aload 0, 11, 0, 0, 0)), (11, (.aload 0, 12, 0, 0, 0)), (12, (.getfield 0, 15, 3, 2, 0)), (15, (.invokevirtual 3, 18, 209, 2, 1)), (18, (.istore 0, 19, 1, 0, 0)), (19, (.aload 0, 20, 0, 0, 0)), (20, (.dup, 21, 0, 0, 0)), (21, (.getfield 0, 24, 3, 4, 2)), (24, (.ldc2_w 0, 25, 0, 0, 1)), (25, (.iconst 0, 26, 0, 0, 4)), (26, (.aload 0, 27, 0, 0, 0)), (27, (.getfield 0, 30, 3, 2, 0)), (30, (.imul, 31, 0, 0, 0)), (31, (.lshl, 32, 0, 0, 0)), (32, (.ldc2_w 0, 33, 0, 0, 1)), (33, (.lsub, 34, 0, 0, 0)), (34, (.land, 35, 0, 0, 0)), (35, (.putfield 0, 38, 3, 4, 2)), (38, (.aload 0, 39, 0, 0, 0)), (39, (.dup, 40, 0, 0, 0)), (40, (.getfield 0, 43, 3, 3, 0)), (43, (.iconst 0, 44, 0, 0, 1)), (44, (.iload 0, 45, 1, 0, 0)), (45, (.ishl, 46, 0, 0, 0)), (46, (.iconst 0, 47, 0, 0, -1)), (47, (.ixor, 48, 0, 0, 0)), (48, (.iand, 49, 0, 0, 0)), (49, (.putfield 0, 52, 3, 3, 0)), (52, (.aload 0, 53, 0, 0, 0)), (53, (.dup, 54, 0, 0, 0)), (54, (.getfield 0, 57, 3, 5, 0)), (57, (.iconst 0, 58, 0, 0, 1)), (58, (.iadd, 59, 0, 0, 0)), (59, (.putfield 0, 62, 3, 5, 0)), (62, (.aload 0, 63, 0, 0, 0)), (63, (.getfield 0, 66, 3, 6, 3)), (66, (.iload 0, 67, 1, 0, 0)), (67, (.aload 0, 68, 0, 0, 0)), (68, (.getfield 0, 71, 3, 1, 0)), (71, (.iastore, 72, 0, 0, 0)), (72, (.iload 0, 73, 1, 0, 0)), (73, (.ireturn, 74, 0, 0, 0))]
def cd_Courier_say : List (Nat × ab_E) := [(0, (.aload 0, 1, 0, 0, 0)), (1, (.getfield 0, 4, 3, 5, 0)), (4, (.istore 0, 5, 3, 0, 0)), (5, (.aload 0, 6, 0, 0, 0)), (6, (.iload 0, 7, 2, 0, 0)), (7, (.invokevirtual 3, 10, 211, 2, 1)), (10, (.pop, 11, 0, 0, 0)), (11, (.aload 0, 12, 1, 0, 0)), (12, (.getfield 0, 15, 5, 4, 3)), (15, (.iload 0, 16, 2, 0, 0)), (16, (.iaload, 17, 0, 0, 0)), (17, (.istore 0, 19, 4, 0, 0)), (19, (.iconst 0, 20, 0, 0, 0)), (20, (.istore 0, 22, 5, 0, 0)), (22, (.iload 0, 24, 5, 0, 0)), (24, (.aload 0, 25, 1, 0, 0)), (25, (.getfield 0, 28, 5, 0, 0)), (28, (.if_icmp .ge 0, 31, 62, 0, 0)), (31, (.iload 0, 33, 4, 0, 0)), (33, (.iload 0, 35, 5, 0, 0)), (35, (.ishr, 36, 0, 0, 0)), (36, (.ifCond .eq 0, 39, 62, 0, 0)), (39, (.iload 0, 41, 4, 0, 0)), (41, (.iload 0, 43, 5, 0, 0)), (43, (.ishr, 44, 0, 0, 0)), (44, (.iconst 0, 45, 0, 0, 1)), (45, (.iand, 46, 0, 0, 0)), (46, (.ifCond .eq 0, 49, 56, 0, 0)), (49, (.aload 0, 50, 0, 0, 0)), (50, (.iload 0, 52, 5, 0, 0)), (52, (.invokevirtual 3, 55, 211, 2, 1)), (55, (.pop, 56, 0, 0, 0)), (56, (.iinc 0 0, 59, 5, 0, 1)), (59, (.goto 0, 62, 22, 0, 0)), (62, (.aload 0, 63, 0, 0, 0)), (63, (.getfield 0, 66, 3, 5, 0)), (66, (.iload 0, 67, 3, 0, 0)), (67, (.isub, 68, 0, 0, 0)), (68, (.ireturn, 69, 0, 0, 0))]
def cd_Courier_walk : List (Nat × ab_E) := [(0, (.aload 0, 1, 0, 0, 0)), (1, (.getfield 0, 4, 3, 5, 0)), (4, (.istore 0, 5, 3, 0, 0)), (5, (.iload 0, 6, 2, 0, 0)), (6, (.aload 0, 7, 0, 0, 0)), (7, (.getfield 0, 10, 3, 1, 0)), (10, (.if_icmp .le 0, 13, 17, 0, 0)), (13, (.iconst 0, 14, 0, 0, 1)), (14, (.goto 0, 17, 18, 0, 0)), (17, (.iconst 0, 18, 0, 0, -1)), (18, (.istore 0, 20, 4, 0, 0)), (20, (.iload 0, 21, 2, 0, 0)), (21, (.aload 0, 22, 0, 0, 0)), (22, (.getfield 0, 25, 3, 1, 0)), (25, (.isub, 26, 0, 0, 0)), (26, (.invokestatic 0, 29, 292, 1, 1)), (29, (.istore 0, 31, 5, 0, 0)), (31, (.iload 0, 33, 5, 0, 0)), (33, (.ifCond .le 0, 36, 91, 0, 0)), (36, (.aload 0, 37, 0, 0, 0)), (37, (.dup, 38, 0, 0, 0)), (38, (.getfield 0, 41, 3, 1, 0)), (41, (.iload 0, 43, 4, 0, 0)), (43, (.iadd, 44, 0, 0, 0)), (44, (.putfield 0, 47, 3, 1, 0)), (47, (.iconst 0, 48, 0, 0, 0)), (48, (.istore 0, 50, 6, 0, 0)), (50, (.iload 0, 52, 6, 0, 0)), (52, (.aload 0, 53, 1, 0, 0)), (53, (.getfield 0, 56, 5, 7, 3)), (56, (.aload 0, 57, 0, 0, 0)), (57, (.getfield 0, 60, 3, 1, 0)), (60, (.iaload, 61, 0, 0, 0)), (61, (.if_icmp .ge 0, 64, 85, 0, 0)), (64, (.aload 0, 65, 0, 0, 0)), (65, (.aload 0, 66, 1, 0, 0)), (66, (.aload 0, 67, 0, 0, 0)), (67, (.getfield 0, 70, 3, 1, 0)), (70, (.iload 0, 72, 6, 0, 0)), (72, (.invokevirtual 5, 75, 239, 3, 1)), (75, (.invokevirtual 3, 78, 211, 2, 1)), (78, (.pop, 79, 0, 0, 0)), (79, (.iinc 0 0, 82, 6, 0, 1)), (82, (.goto 0, 85, 50, 0, 0)), (85, (.iinc 0 0, 88, 5, 0, -1)), (88, (.goto 0, 91, 31, 0, 0)), (91, (.aload 0, 92, 0, 0, 0)), (92, (.getfield 0, 95, 3, 5, 0)), (95, (.iload 0, 96, 3, 0, 0)), (96, (.isub, 97, 0, 0, 0)), (97, (.ireturn, 98, 0, 0, 0))]
def cd_Courier_hearLatestOf : List (Nat × ab_E) := [(0, (.aload 0, 1, 1, 0, 0)), (1, (.getfield 0, 4, 3, 2, 0)), (4, (.iconst 0, 5, 0, 0, 1)), (5, (.isub, 6, 0, 0, 0)), (6, (.istore 0, 7, 2, 0, 0)), (7, (.iload 0, 8, 2, 0, 0)), (8, (.ifCond .lt 0, 11, 27, 0, 0)), (11, (.aload 0, 12, 0, 0, 0)), (12, (.aload 0, 13, 1, 0, 0)), (13, (.iload 0, 14, 2, 0, 0)), (14, (.invokevirtual 3, 17, 209, 2, 1)), (17, (.invokevirtual 3, 20, 211, 2, 1)), (20, (.pop, 21, 0, 0, 0)), (21, (.iinc 0 0, 24, 2, 0, -1)), (24, (.goto 0, 27, 7, 0, 0)), (27, (.return_, 28, 0, 0, 0))]
def cd_Courier_recite : List (Nat × ab_E) := [(0, (.iconst 0, 1, 0, 0, 0)), (1, (.istore 0, 2, 3, 0, 0)), (2, (.iconst 0, 3, 0, 0, 0)), (3, (.istore 0, 5, 4, 0, 0)), (5, (.iload 0, 7, 4, 0, 0)), (7, (.aload 0, 8, 2, 0, 0)), (8, (.getfield 0, 11, 8, 1, 0)), (11, (.if_icmp .ge 0, 14, 60, 0, 0)), (14, (.aload 0, 15, 2, 0, 0)), (15, (.getfield 0, 18, 8, 0, 3)), (18, (.iload 0, 20, 4, 0, 0)), (20, (.laload, 21, 0, 0, 0)), (21, (.lstore 0, 23, 5, 0, 0)), (23, (.aload 0, 24, 1, 0, 0)), (24, (.lload 0, 26, 5, 0, 0)), (26, (.invokevirtual 5, 29, 235, 2, 1)), (29, (.ifCond .eq 0, 32, 54, 0, 0)), (32, (.aload 0, 33, 0, 0, 0)), (33, (.lload 0, 35, 5, 0, 0)), (35, (.l2i, 36, 0, 0, 0)), (36, (.invokevirtual 3, 39, 208, 2, 1)), (39, (.ifCond .eq 0, 42, 54, 0, 0)), (42, (.aload 0, 43, 0, 0, 0)), (43, (.aload 0, 44, 1, 0, 0)), (44, (.lload 0, 46, 5, 0, 0)), (46, (.l2i, 47, 0, 0, 0)), (47, (.invokevirtual 3, 50, 214, 3, 1)), (50, (.pop, 51, 0, 0, 0)), (51, (.iinc 0 0, 54, 3, 0, 1)), (54, (.iinc 0 0, 57, 4, 0, 1)), (57, (.goto 0, 60, 5, 0, 0)), (60, (.iload 0, 61, 3, 0, 0)), (61, (.ireturn, 62, 0, 0, 0))]
def cd_Courier_deliver : List (Nat × ab_E) := [(0, (.aload 0, 1, 0, 0, 0)), (1, (.getfield 0, 4, 3, 4, 2)), (4, (.lstore 0, 5, 2, 0, 0)), (5, (.iconst 0, 6, 0, 0, 0)), (6, (.istore 0, 8, 4, 0, 0)), (8, (.aload 0, 9, 0, 0, 0)), (9, (.getfield 0, 12, 3, 2, 0)), (12, (.iconst 0, 13, 0, 0, 1)), (13, (.isub, 14, 0, 0, 0)), (14, (.istore 0, 16, 5, 0, 0)), (16, (.iload 0, 18, 5, 0, 0)), (18, (.ifCond .lt 0, 21, 73, 0, 0)), (21, (.lload 0, 22, 2, 0, 0)), (22, (.iconst 0, 23, 0, 0, 4)), (23, (.iload 0, 25, 5, 0, 0)), (25, (.imul, 26, 0, 0, 0)), (26, (.lushr, 27, 0, 0, 0)), (27, (.l2i, 28, 0, 0, 0)), (28, (.iconst 0, 30, 0, 0, 15)), (30, (.iand, 31, 0, 0, 0)), (31, (.istore 0, 33, 6, 0, 0)), (33, (.aload 0, 34, 0, 0, 0)), (34, (.iload 0, 36, 6, 0, 0)), (36, (.invokevirtual 3, 39, 208, 2, 1)), (39, (.ifCond .eq 0, 42, 67, 0, 0)), (42, (.aload 0, 43, 0, 0, 0)), (43, (.aload 0, 44, 1, 0, 0)), (44, (.iload 0, 46, 6, 0, 0)), (46, (.invokevirtual 3, 49, 214, 3, 1)), (49, (.pop, 50, 0, 0, 0)), (50, (.iload 0, 52, 4, 0, 0)), (52, (.iconst 0, 53, 0, 0, 1)), (53, (.iload 0, 55, 6, 0, 0)), (55, (.ishl, 56, 0, 0, 0)), (56, (.aload 0, 57, 1, 0, 0)), (57, (.getfield 0, 60, 5, 4, 3)), (60, (.iload 0, 62, 6, 0, 0)), (62, (.iaload, 63, 0, 0, 0)), (63, (.ior, 64, 0, 0, 0)), (64, (.ior, 65, 0, 0, 0)), (65, (.istore 0, 67, 4, 0, 0)), (67, (.iinc 0 0, 70, 5, 0, -1)), (70, (.goto 0, 73, 16, 0, 0)), (73, (.iload 0, 75, 4, 0, 0)), (75, (.ireturn, 76, 0, 0, 0))]
def cd_Hearings_init : List (Nat × ab_E) := [(0, (.aload 0, 1, 0, 0, 0)), (1, (.d2l, 4, 0, 0, 0)), (4, (.aload 0, 5, 0, 0, 0)), (5, (.iconst 0, 7, 0, 0, 40)), (7, (.newarray .int, 9, 48, 0, 0)), (9, (.putfield 0, 12, 4, 0, 3)), (12, (.aload 0, 13, 0, 0, 0)), (13, (.new 0, 16, 3, 0, 0)), (16, (.dup, 17, 0, 0, 0)), (17, (.invokespecial 3, 20, 203, 1, 0)), (20, (.putfield 0, 23, 4, 3, 3)), (23, (.aload 0, 24, 0, 0, 0)), (24, (.new 0, 27, 3, 0, 0)), (27, (.dup, 28, 0, 0, 0)), (28, (.invokespecial 3, 31, 203, 1, 0)), (31, (.putfield 0, 34, 4, 4, 3)), (34, (.aload 0, 35, 0, 0, 0)), (35, (.new 0, 38, 3, 0, 0)), (38, (.dup, 39, 0, 0, 0)), (39, (.invokespecial 3, 42, 203, 1, 0)), (42, (.putfield 0, 45, 4, 5, 3)), (45, (.aload 0, 46, 0, 0, 0)), (46, (.iconst 0, 48, 0, 0, 6)), (48, (.newarray .int, 50, 49, 0, 0)), (50, (.putfield 0, 53, 4, 6, 3)), (53, (.aload 0, 54, 0, 0, 0)), (54, (.iconst 0, 56, 0, 0, 6)), (56, (.newarray .int, 58, 50, 0, 0)), (58, (.putfield 0, 61, 4, 7, 3)), (61, (.return_, 62, 0, 0, 0))]
def cd_Hearings_takeRow : List (Nat × ab_E) := [(0, (.aload 0, 1, 0, 0, 0)), (1, (.aload 0, 2, 1, 0, 0)), (2, (.getfield 0, 5, 8, 1, 0)), (5, (.putfield 0, 8, 4, 2, 0)), (8, (.iconst 0, 9, 0, 0, 0)), (9, (.istore 0, 10, 3, 0, 0)), (10, (.iload 0, 11, 3, 0, 0)), (11, (.aload 0, 12, 0, 0, 0)), (12, (.getfield 0, 15, 4, 2, 0)), (15, (.if_icmp .ge 0, 18, 52, 0, 0)), (18, (.aload 0, 19, 2, 0, 0)), (19, (.aload 0, 20, 1, 0, 0)), (20, (.getfield 0, 23, 8, 0, 3)), (23, (.iload 0, 24, 3, 0, 0)), (24, (.laload, 25, 0, 0, 0)), (25, (.invokevirtual 5, 28, 235, 2, 1)), (28, (.ifCond .ne 0, 31, 33, 0, 0)), (31, (.iconst 0, 32, 0, 0, 0)), (32, (.ireturn, 33, 1, 0, 0)), (33, (.aload 0, 34, 0, 0, 0)), (34, (.getfield 0, 37, 4, 0, 3)), (37, (.iload 0, 38, 3, 0, 0)), (38, (.aload 0, 39, 1, 0, 0)), (39, (.getfield 0, 42, 8, 0, 3)), (42, (.iload 0, 43, 3, 0, 0)), (43, (.laload, 44, 0, 0, 0)), (44, (.l2i, 45, 0, 0, 0)), (45, (.iastore, 46, 0, 0, 0)), (46, (.iinc 0 0, 49, 3, 0, 1)), (49, (.goto 0, 52, 10, 0, 0)), (52, (.iconst 0, 53, 0, 0, 1)), (53, (.ireturn, 54, 1, 0, 0))]
def cd_Hearings_inRow : List (Nat × ab_E) := [(0, (.iconst 0, 1, 0, 0, 0)), (1, (.istore 0, 2, 1, 0, 0)), (2, (.iconst 0, 3, 0, 0, 0)), (3, (.istore 0, 4, 2, 0, 0)), (4, (.iload 0, 5, 2, 0, 0)), (5, (.aload 0, 6, 0, 0, 0)), (6, (.getfield 0, 9, 4, 2, 0)), (9, (.if_icmp .ge 0, 12, 29, 0, 0)), (12, (.iload 0, 13, 1, 0, 0)), (13, (.iconst 0, 14, 0, 0, 1)), (14, (.aload 0, 15, 0, 0, 0)), (15, (.getfield 0, 18, 4, 0, 3)), (18, (.iload 0, 19, 2, 0, 0)), (19, (.iaload, 20, 0, 0, 0)), (20, (.ishl, 21, 0, 0, 0)), (21, (.ior, 22, 0, 0, 0)), (22, (.istore 0, 23, 1, 0, 0)), (23, (.iinc 0 0, 26, 2, 0, 1)), (26, (.goto 0, 29, 4, 0, 0)), (29, (.iload 0, 30, 1, 0, 0)), (30, (.ireturn, 31, 0, 0, 0))]
def cd_Hearings_newOnes : List (Nat × ab_E) := [(0, (.iload 0, 1, 2, 0, 0)), (1, (.iconst 0, 2, 0, 0, 2)), (2, (.if_icmp .ne 0, 5, 13, 0, 0)), (5, (.aload 0, 6, 0, 0, 0)), (6, (.iload 0, 7, 1, 0, 0)), (7, (.invokevirtual 4, 10, 224, 2, 1)), (10, (.goto 0, 13, 27, 0, 0)), (13, (.aload 0, 14, 0, 0, 0)), (14, (.iload 0, 15, 1, 0, 0)), (15, (.iload 0, 16, 2, 0, 0)), (16, (.ifCond .ne 0, 19, 23, 0, 0)), (19, (.iconst 0, 20, 0, 0, 1)), (20, (.goto 0, 23, 24, 0, 0)), (23, (.iconst 0, 24, 0, 0, 0)), (24, (.invokevirtual 4, 27, 223, 3, 1)), (27, (.ireturn, 28, 0, 0, 0))]
def cd_Hearings_newByRule : List (Nat × ab_E) := [(0, (.iconst 0, 1, 0, 0, 0)), (1, (.istore 0, 2, 3, 0, 0)), (2, (.aload 0, 3, 0, 0, 0)), (3, (.getfield 0, 6, 4, 3, 3)), (6, (.iload 0, 7, 1, 0, 0)), (7, (.invokevirtual 3, 10, 204, 2, 0)), (10, (.iconst 0, 11, 0, 0, 0)), (11, (.istore 0, 13, 4, 0, 0)), (13, (.iload 0, 15, 4, 0, 0)), (15, (.aload 0, 16, 0, 0, 0)), (16, (.getfield 0, 19, 4, 2, 0)), (19, (.if_icmp .ge 0, 22, 84, 0, 0)), (22, (.aload 0, 23, 0, 0, 0)), (23, (.getfield 0, 26, 4, 3, 3)), (26, (.aload 0, 27, 0, 0, 0)), (27, (.getfield 0, 30, 4, 0, 3)), (30, (.iload 0, 32, 4, 0, 0)), (32, (.iaload, 33, 0, 0, 0)), (33, (.invokevirtual 3, 36, 208, 2, 1)), (36, (.ifCond .ne 0, 39, 43, 0, 0)), (39, (.iconst 0, 40, 0, 0, 1)), (40, (.goto 0, 43, 44, 0, 0)), (43, (.iconst 0, 44, 0, 0, 0)), (44, (.istore 0, 46, 5, 0, 0)), (46, (.iload 0, 48, 5, 0, 0)), (48, (.ifCond .eq 0, 51, 54, 0, 0)), (51, (.iinc 0 0, 54, 3, 0, 1)), (54, (.iload 0, 56, 5, 0, 0)), (56, (.ifCond .ne 0, 59, 63, 0, 0)), (59, (.iload 0, 60, 2, 0, 0)), (60, (.ifCond .eq 0, 63, 78, 0, 0)), (63, (.aload 0, 64, 0, 0, 0)), (64, (.getfield 0, 67, 4, 3, 3)), (67, (.aload 0, 68, 0, 0, 0)), (68, (.getfield 0, 71, 4, 0, 3)), (71, (.iload 0, 73, 4, 0, 0)), (73, (.iaload, 74, 0, 0, 0)), (74, (.invokevirtual 3, 77, 211, 2, 1)), (77, (.pop, 78, 0, 0, 0)), (78, (.iinc 0 0, 81, 4, 0, 1)), (81, (.goto 0, 84, 13, 0, 0)), (84, (.aload 0, 85, 0, 0, 0)), (85, (.aload 0, 86, 0, 0, 0)), (86, (.getfield 0, 89, 4, 3, 3)), (89, (.getfield 0, 92, 3, 3, 0)), (92, (.putfield 0, 95, 4, 1, 0)), (95, (.iload 0, 96, 3, 0, 0)), (96, (.ireturn, 97, 0, 0, 0))]
def cd_Hearings_newByForesight : List (Nat × ab_E) := [(0, (.iconst 0, 1, 0, 0, 0)), (1, (.istore 0, 2, 2, 0, 0)), (2, (.aload 0, 3, 0, 0, 0)), (3, (.iconst 0, 4, 0, 0, 0)), (4, (.putfield 0, 7, 4, 1, 0)), (7, (.iconst 0, 8, 0, 0, 0)), (8, (.istore 0, 9, 3, 0, 0)), (9, (.iload 0, 10, 3, 0, 0)), (10, (.aload 0, 11, 0, 0, 0)), (11, (.getfield 0, 14, 4, 2, 0)), (14, (.if_icmp .ge 0, 17, 84, 0, 0)), (17, (.iconst 0, 18, 0, 0, 1)), (18, (.aload 0, 19, 0, 0, 0)), (19, (.getfield 0, 22, 4, 0, 3)), (22, (.iload 0, 23, 3, 0, 0)), (23, (.iaload, 24, 0, 0, 0)), (24, (.ishl, 25, 0, 0, 0)), (25, (.istore 0, 27, 4, 0, 0)), (27, (.aload 0, 28, 0, 0, 0)), (28, (.getfield 0, 31, 4, 1, 0)), (31, (.iload 0, 33, 4, 0, 0)), (33, (.iand, 34, 0, 0, 0)), (34, (.ifCond .ne 0, 37, 78, 0, 0)), (37, (.iinc 0 0, 40, 2, 0, 1)), (40, (.aload 0, 41, 0, 0, 0)), (41, (.getfield 0, 44, 4, 1, 0)), (44, (.invokestatic 0, 47, 291, 1, 1)), (47, (.iload 0, 48, 1, 0, 0)), (48, (.if_icmp .lt 0, 51, 67, 0, 0)), (51, (.aload 0, 52, 0, 0, 0)), (52, (.dup, 53, 0, 0, 0)), (53, (.getfield 0, 56, 4, 1, 0)), (56, (.aload 0, 57, 0, 0, 0)), (57, (.iload 0, 58, 3, 0, 0)), (58, (.invokevirtual 4, 61, 225, 2, 1)), (61, (.iconst 0, 62, 0, 0, -1)), (62, (.ixor, 63, 0, 0, 0)), (63, (.iand, 64, 0, 0, 0)), (64, (.putfield 0, 67, 4, 1, 0)), (67, (.aload 0, 68, 0, 0, 0)), (68, (.dup, 69, 0, 0, 0)), (69, (.getfield 0, 72, 4, 1, 0)), (72, (.iload 0, 74, 4, 0, 0)), (74, (.ior, 75, 0, 0, 0)), (75, (.putfield 0, 78, 4, 1, 0)), (78, (.iinc 0 0, 81, 3, 0, 1)), (81, (.goto 0, 84, 9, 0, 0)), (84, (.iload 0, 85, 2, 0, 0)), (85, (.ireturn, 86, 0, 0, 0))]
def cd_Hearings_neededLast : List (Nat × ab_E) := [(0, (.aload 0, 1, 0, 0, 0)), (1, (.getfield 0, 4, 4, 1, 0)), (4, (.istore 0, 5, 2, 0, 0)), (5, (.iload 0, 6, 1, 0, 0)), (6, (.iconst 0, 7, 0, 0, 1)), (7, (.iadd, 8, 0, 0, 0)), (8, (.istore 0, 9, 3, 0, 0)), (9, (.iload 0, 10, 3, 0, 0)), (10, (.aload 0, 11, 0, 0, 0)), (11, (.getfield 0, 14, 4, 2, 0)), (14, (.if_icmp .ge 0, 17, 44, 0, 0)), (17, (.iload 0, 18, 2, 0, 0)), (18, (.invokestatic 0, 21, 291, 1, 1)), (21, (.iconst 0, 22, 0, 0, 1)), (22, (.if_icmp .le 0, 25, 44, 0, 0)), (25, (.iload 0, 26, 2, 0, 0)), (26, (.iconst 0, 27, 0, 0, 1)), (27, (.aload 0, 28, 0, 0, 0)), (28, (.getfield 0, 31, 4, 0, 3)), (31, (.iload 0, 32, 3, 0, 0)), (32, (.iaload, 33, 0, 0, 0)), (33, (.ishl, 34, 0, 0, 0)), (34, (.iconst 0, 35, 0, 0, -1)), (35, (.ixor, 36, 0, 0, 0)), (36, (.iand, 37, 0, 0, 0)), (37, (.istore 0, 38, 2, 0, 0)), (38, (.iinc 0 0, 41, 3, 0, 1)), (41, (.goto 0, 44, 9, 0, 0)), (44, (.iload 0, 45, 2, 0, 0)), (45, (.iload 0, 46, 2, 0, 0)), (46, (.ineg, 47, 0, 0, 0)), (47, (.iand, 48, 0, 0, 0)), (48, (.ireturn, 49, 0, 0, 0))]
def cd_Hearings_unlikeSinceLast : List (Nat × ab_E) := [(0, (.iconst 0, 1, 0, 0, 0)), (1, (.istore 0, 2, 2, 0, 0)), (2, (.iload 0, 3, 1, 0, 0)), (3, (.iconst 0, 4, 0, 0, 1)), (4, (.isub, 5, 0, 0, 0)), (5, (.istore 0, 6, 3, 0, 0)), (6, (.iload 0, 7, 3, 0, 0)), (7, (.ifCond .lt 0, 10, 47, 0, 0)), (10, (.iload 0, 11, 2, 0, 0)), (11, (.iconst 0, 12, 0, 0, 1)), (12, (.aload 0, 13, 0, 0, 0)), (13, (.getfield 0, 16, 4, 0, 3)), (16, (.iload 0, 17, 3, 0, 0)), (17, (.iaload, 18, 0, 0, 0)), (18, (.ishl, 19, 0, 0, 0)), (19, (.ior, 20, 0, 0, 0)), (20, (.istore 0, 21, 2, 0, 0)), (21, (.aload 0, 22, 0, 0, 0)), (22, (.getfield 0, 25, 4, 0, 3)), (25, (.iload 0, 26, 3, 0, 0)), (26, (.iaload, 27, 0, 0, 0)), (27, (.aload 0, 28, 0, 0, 0)), (28, (.getfield 0, 31, 4, 0, 3)), (31, (.iload 0, 32, 1, 0, 0)), (32, (.iaload, 33, 0, 0, 0)), (33, (.if_icmp .ne 0, 36, 41, 0, 0)), (36, (.iload 0, 37, 2, 0, 0)), (37, (.invokestatic 0, 40, 291, 1, 1)), (40, (.ireturn, 41, 0, 0, 0)), (41, (.iinc 0 0, 44, 3, 0, -1)), (44, (.goto 0, 47, 6, 0, 0)), (47, (.iconst 0, 48, 0, 0, -1)), (48, (.ireturn, 49, 0, 0, 0))]
def cd_Hearings_comesThrough : List (Nat × ab_E) := [(0, (.aload 0, 1, 0, 0, 0)), (1, (.getfield 0, 4, 4, 3, 3)), (4, (.iload 0, 5, 2, 0, 0)), (5, (.invokevirtual 3, 8, 204, 2, 0)), (8, (.iconst 0, 9, 0, 0, 0)), (9, (.istore 0, 11, 4, 0, 0)), (11, (.iload 0, 13, 4, 0, 0)), (13, (.aload 0, 14, 0, 0, 0)), (14, (.getfield 0, 17, 4, 2, 0)), (17, (.if_icmp .ge 0, 20, 41, 0, 0)), (20, (.aload 0, 21, 0, 0, 0)), (21, (.getfield 0, 24, 4, 3, 3)), (24, (.aload 0, 25, 0, 0, 0)), (25, (.getfield 0, 28, 4, 0, 3)), (28, (.iload 0, 30, 4, 0, 0)), (30, (.iaload, 31, 0, 0, 0)), (31, (.invokevirtual 3, 34, 211, 2, 1)), (34, (.pop, 35, 0, 0, 0)), (35, (.iinc 0 0, 38, 4, 0, 1)), (38, (.goto 0, 41, 11, 0, 0)), (41, (.aload 0, 42, 0, 0, 0)), (42, (.getfield 0, 45, 4, 3, 3)), (45, (.aload 0, 46, 1, 0, 0)), (46, (.iload 0, 47, 3, 0, 0)), (47, (.invokevirtual 3, 50, 215, 3, 1)), (50, (.pop, 51, 0, 0, 0)), (51, (.aload 0, 52, 0, 0, 0)), (52, (.getfield 0, 55, 4, 3, 3)), (55, (.aload 0, 56, 1, 0, 0)), (56, (.invokevirtual 3, 59, 218, 2, 1)), (59, (.ireturn, 60, 0, 0, 0))]
def cd_Hearings_tellBest : List (Nat × ab_E) := [(0, (.aload 0, 1, 0, 0, 0)), (1, (.iload 0, 2, 2, 0, 0)), (2, (.invokestatic 0, 5, 291, 1, 1)), (5, (.putfield 0, 8, 4, 8, 0)), (8, (.aload 0, 9, 0, 0, 0)), (9, (.iconst 0, 10, 0, 0, -1)), (10, (.putfield 0, 13, 4, 9, 0)), (13, (.aload 0, 14, 0, 0, 0)), (14, (.iconst 0, 15, 0, 0, 0)), (15, (.putfield 0, 18, 4, 10, 0)), (18, (.aload 0, 19, 0, 0, 0)), (19, (.getfield 0, 22, 4, 4, 3)), (22, (.iload 0, 23, 3, 0, 0)), (23, (.invokevirtual 3, 26, 204, 2, 0)), (26, (.aload 0, 27, 0, 0, 0)), (27, (.getfield 0, 30, 4, 5, 3)), (30, (.iload 0, 31, 3, 0, 0)), (31, (.invokevirtual 3, 34, 204, 2, 0)), (34, (.aload 0, 35, 0, 0, 0)), (35, (.getfield 0, 38, 4, 5, 3)), (38, (.aload 0, 39, 1, 0, 0)), (39, (.iload 0, 41, 4, 0, 0)), (41, (.invokevirtual 3, 44, 215, 3, 1)), (44, (.pop, 45, 0, 0, 0)), (45, (.aload 0, 46, 0, 0, 0)), (46, (.aload 0, 47, 1, 0, 0)), (47, (.iload 0, 48, 2, 0, 0)), (48, (.iconst 0, 49, 0, 0, 0)), (49, (.invokevirtual 4, 52, 229, 4, 0)), (52, (.return_, 53, 0, 0, 0))]
def cd_Hearings_tellOn : List (Nat × ab_E) := [(0, (.iload 0, 1, 2, 0, 0)), (1, (.ifCond .eq 0, 4, 10, 0, 0)), (4, (.iload 0, 5, 3, 0, 0)), (5, (.iconst 0, 7, 0, 0, 6)), (7, (.if_icmp .lt 0, 10, 16, 0, 0)), (10, (.aload 0, 11, 0, 0, 0)), (11, (.aload 0, 12, 1, 0, 0)), (12, (.invokevirtual 4, 15, 230, 2, 0)), (15, (.return_, 16, 0, 0, 0)), (16, (.aload 0, 17, 0, 0, 0)), (17, (.getfield 0, 20, 4, 4, 3)), (20, (.getfield 0, 23, 3, 4, 2)), (23, (.lstore 0, 25, 4, 0, 0)), (25, (.aload 0, 26, 0, 0, 0)), (26, (.getfield 0, 29, 4, 4, 3)), (29, (.getfield 0, 32, 3, 3, 0)), (32, (.istore 0, 34, 6, 0, 0)), (34, (.iconst 0, 35, 0, 0, 0)), (35, (.istore 0, 37, 7, 0, 0)), (37, (.iload 0, 39, 7, 0, 0)), (39, (.aload 0, 40, 1, 0, 0)), (40, (.getfield 0, 43, 5, 0, 0)), (43, (.if_icmp .ge 0, 46, 106, 0, 0)), (46, (.iload 0, 47, 2, 0, 0)), (47, (.iload 0, 49, 7, 0, 0)), (49, (.ishr, 50, 0, 0, 0)), (50, (.iconst 0, 51, 0, 0, 1)), (51, (.iand, 52, 0, 0, 0)), (52, (.ifCond .eq 0, 55, 100, 0, 0)), (55, (.aload 0, 56, 0, 0, 0)), (56, (.getfield 0, 59, 4, 6, 3)), (59, (.iload 0, 60, 3, 0, 0)), (60, (.iload 0, 62, 7, 0, 0)), (62, (.iastore, 63, 0, 0, 0)), (63, (.aload 0, 64, 0, 0, 0)), (64, (.getfield 0, 67, 4, 4, 3)), (67, (.iload 0, 69, 7, 0, 0)), (69, (.invokevirtual 3, 72, 211, 2, 1)), (72, (.pop, 73, 0, 0, 0)), (73, (.aload 0, 74, 0, 0, 0)), (74, (.aload 0, 75, 1, 0, 0)), (75, (.iload 0, 76, 2, 0, 0)), (76, (.iconst 0, 77, 0, 0, 1)), (77, (.iload 0, 79, 7, 0, 0)), (79, (.ishl, 80, 0, 0, 0)), (80, (.iconst 0, 81, 0, 0, -1)), (81, (.ixor, 82, 0, 0, 0)), (82, (.iand, 83, 0, 0, 0)), (83, (.iload 0, 84, 3, 0, 0)), (84, (.iconst 0, 85, 0, 0, 1)), (85, (.iadd, 86, 0, 0, 0)), (86, (.invokevirtual 4, 89, 229, 4, 0)), (89, (.aload 0, 90, 0, 0, 0)), (90, (.getfield 0, 93, 4, 4, 3)), (93, (.lload 0, 95, 4, 0, 0)), (95, (.iload 0, 97, 6, 0, 0)), (97, (.invokevirtual 3, 100, 207, 3, 0)), (100, (.iinc 0 0, 103, 7, 0, 1)), (103, (.goto 0, 106, 37, 0, 0)), (106, (.return_, 107, 0, 0, 0))]
def cd_Hearings_weighOrder : List (Nat × ab_E) := [(0, (.aload 0, 1, 0, 0, 0)), (1, (.getfield 0, 4, 4, 3, 3)), (4, (.aload 0, 5, 0, 0, 0)), (5, (.getfield 0, 8, 4, 4, 3)), (8, (.invokevirtual 3, 11, 206, 2, 0)), (11, (.aload 0, 12, 0, 0, 0)), (12, (.getfield 0, 15, 4, 3, 3)), (15, (.aload 0, 16, 0, 0, 0)), (16, (.getfield 0, 19, 4, 5, 3)), (19, (.invokevirtual 3, 22, 216, 2, 0)), (22, (.aload 0, 23, 0, 0, 0)), (23, (.getfield 0, 26, 4, 3, 3)), (26, (.aload 0, 27, 1, 0, 0)), (27, (.invokevirtual 3, 30, 218, 2, 1)), (30, (.istore 0, 31, 2, 0, 0)), (31, (.aload 0, 32, 1, 0, 0)), (32, (.iload 0, 33, 2, 0, 0)), (33, (.invokevirtual 5, 36, 242, 2, 1)), (36, (.istore 0, 37, 3, 0, 0)), (37, (.iload 0, 38, 3, 0, 0)), (38, (.aload 0, 39, 0, 0, 0)), (39, (.getfield 0, 42, 4, 9, 0)), (42, (.if_icmp .le 0, 45, 73, 0, 0)), (45, (.aload 0, 46, 0, 0, 0)), (46, (.iload 0, 47, 3, 0, 0)), (47, (.putfield 0, 50, 4, 9, 0)), (50, (.aload 0, 51, 0, 0, 0)), (51, (.iload 0, 52, 2, 0, 0)), (52, (.putfield 0, 55, 4, 10, 0)), (55, (.aload 0, 56, 0, 0, 0)), (56, (.getfield 0, 59, 4, 6, 3)), (59, (.iconst 0, 60, 0, 0, 0)), (60, (.aload 0, 61, 0, 0, 0)), (61, (.getfield 0, 64, 4, 7, 3)), (64, (.iconst 0, 65, 0, 0, 0)), (65, (.aload 0, 66, 0, 0, 0)), (66, (.getfield 0, 69, 4, 6, 3)), (69, (.arraylength, 70, 0, 0, 0)), (70, (.caload, 73, 0, 0, 0)), (73, (.return_, 74, 0, 0, 0))]
def cd_Hearings_answerOfTold : List (Nat × ab_E) := [(0, (.iload 0, 1, 1, 0, 0)), (1, (.ifCond .ne 0, 4, 9, 0, 0)), (4, (.aload 0, 5, 0, 0, 0)), (5, (.getfield 0, 8, 4, 9, 0)), (8, (.ireturn, 9, 0, 0, 0)), (9, (.iload 0, 10, 1, 0, 0)), (10, (.iconst 0, 11, 0, 0, 1)), (11, (.if_icmp .ne 0, 14, 19, 0, 0)), (14, (.aload 0, 15, 0, 0, 0)), (15, (.getfield 0, 18, 4, 10, 0)), (18, (.ireturn, 19, 0, 0, 0)), (19, (.iload 0, 20, 1, 0, 0)), (20, (.iconst 0, 22, 0, 0, 10)), (22, (.isub, 23, 0, 0, 0)), (23, (.istore 0, 24, 2, 0, 0)), (24, (.iload 0, 25, 2, 0, 0)), (25, (.ifCond .lt 0, 28, 54, 0, 0)), (28, (.iload 0, 29, 2, 0, 0)), (29, (.aload 0, 30, 0, 0, 0)), (30, (.getfield 0, 33, 4, 8, 0)), (33, (.if_icmp .ge 0, 36, 54, 0, 0)), (36, (.iload 0, 37, 2, 0, 0)), (37, (.aload 0, 38, 0, 0, 0)), (38, (.getfield 0, 41, 4, 7, 3)), (41, (.arraylength, 42, 0, 0, 0)), (42, (.if_icmp .ge 0, 45, 54, 0, 0)), (45, (.aload 0, 46, 0, 0, 0)), (46, (.getfield 0, 49, 4, 7, 3)), (49, (.iload 0, 50, 2, 0, 0)), (50, (.iaload, 51, 0, 0, 0)), (51, (.goto 0, 54, 55, 0, 0)), (54, (.iconst 0, 55, 0, 0, -1)), (55, (.ireturn, 56, 0, 0, 0))]
def cd_Lore_init : List (Nat × ab_E) := [(0, (.aload 0, 1, 0, 0, 0)), (1, (.d2l, 4, 0, 0, 0)), (4, (.aload 0, 5, 0, 0, 0)), (5, (.iconst 0, 7, 0, 0, 9)), (7, (.putfield 0, 10, 5, 1, 0)), (10, (.aload 0, 11, 0, 0, 0)), (11, (.iconst 0, 13, 0, 0, 16)), (13, (.newarray .int, 15, 51, 0, 0)), (15, (.putfield 0, 18, 5, 4, 3)), (18, (.aload 0, 19, 0, 0, 0)), (19, (.iconst 0, 21, 0, 0, 16)), (21, (.newarray .int, 23, 52, 0, 0)), (23, (.putfield 0, 26, 5, 5, 3)), (26, (.aload 0, 27, 0, 0, 0)), (27, (.iconst 0, 29, 0, 0, 16)), (29, (.newarray .int, 31, 53, 0, 0)), (31, (.putfield 0, 34, 5, 6, 3)), (34, (.aload 0, 35, 0, 0, 0)), (35, (.iconst 0, 37, 0, 0, 10)), (37, (.newarray .int, 39, 54, 0, 0)), (39, (.putfield 0, 42, 5, 7, 3)), (42, (.aload 0, 43, 0, 0, 0)), (43, (.iconst 0, 45, 0, 0, 90)), (45, (.newarray .int, 47, 55, 0, 0)), (47, (.putfield 0, 50, 5, 8, 3)), (50, (.return_, 51, 0, 0, 0))]
def cd_Lore_clear : List (Nat × ab_E) := [(0, (.aload 0, 1, 0, 0, 0)), (1, (.iconst 0, 2, 0, 0, 0)), (2, (.putfield 0, 5, 5, 0, 0)), (5, (.aload 0, 6, 0, 0, 0)), (6, (.iconst 0, 8, 0, 0, 9)), (8, (.putfield 0, 11, 5, 1, 0)), (11, (.aload 0, 12, 0, 0, 0)), (12, (.iconst 0, 13, 0, 0, 0)), (13, (.putfield 0, 16, 5, 2, 0)), (16, (.aload 0, 17, 0, 0, 0)), (17, (.iconst 0, 18, 0, 0, 0)), (18, (.putfield 0, 21, 5, 3, 0)), (21, (.aload 0, 22, 0, 0, 0)), (22, (.getfield 0, 25, 5, 4, 3)), (25, (.iconst 0, 26, 0, 0, 0)), (26, (.invokestatic 0, 29, 295, 2, 0)), (29, (.aload 0, 30, 0, 0, 0)), (30, (.getfield 0, 33, 5, 5, 3)), (33, (.iconst 0, 34, 0, 0, 0)), (34, (.invokestatic 0, 37, 295, 2, 0)), (37, (.aload 0, 38, 0, 0, 0)), (38, (.getfield 0, 41, 5, 6, 3)), (41, (.iconst 0, 42, 0, 0, 1)), (42, (.invokestatic 0, 45, 295, 2, 0)), (45, (.aload 0, 46, 0, 0, 0)), (46, (.getfield 0, 49, 5, 7, 3)), (49, (.iconst 0, 50, 0, 0, 0)), (50, (.invokestatic 0, 53, 295, 2, 0)), (53, (.return_, 54, 0, 0, 0))]
def cd_Lore_likeOf : List (Nat × ab_E) := [(0, (.aload 0, 1, 0, 0, 0)), (1, (.aload 0, 2, 1, 0, 0)), (2, (.getfield 0, 5, 5, 0, 0)), (5, (.putfield 0, 8, 5, 0, 0)), (8, (.aload 0, 9, 0, 0, 0)), (9, (.aload 0, 10, 1, 0, 0)), (10, (.getfield 0, 13, 5, 1, 0)), (13, (.putfield 0, 16, 5, 1, 0)), (16, (.aload 0, 17, 0, 0, 0)), (17, (.aload 0, 18, 1, 0, 0)), (18, (.getfield 0, 21, 5, 2, 0)), (21, (.putfield 0, 24, 5, 2, 0)), (24, (.aload 0, 25, 0, 0, 0)), (25, (.aload 0, 26, 1, 0, 0)), (26, (.getfield 0, 29, 5, 3, 0)), (29, (.putfield 0, 32, 5, 3, 0)), (32, (.aload 0, 33, 1, 0, 0)), (33, (.getfield 0, 36, 5, 4, 3)), (36, (.iconst 0, 37, 0, 0, 0)), (37, (.aload 0, 38, 0, 0, 0)), (38, (.getfield 0, 41, 5, 4, 3)), (41, (.iconst 0, 42, 0, 0, 0)), (42, (.aload 0, 43, 0, 0, 0)), (43, (.getfield 0, 46, 5, 4, 3)), (46, (.arraylength, 47, 0, 0, 0)), (47, (.caload, 50, 0, 0, 0)), (50, (.aload 0, 51, 1, 0, 0)), (51, (.getfield 0, 54, 5, 5, 3)), (54, (.iconst 0, 55, 0, 0, 0)), (55, (.aload 0, 56, 0, 0, 0)), (56, (.getfield 0, 59, 5, 5, 3)), (59, (.iconst 0, 60, 0, 0, 0)), (60, (.aload 0, 61, 0, 0, 0)), (61, (.getfield 0, 64, 5, 5, 3)), (64, (.arraylength, 65, 0, 0, 0)), (65, (.caload, 68, 0, 0, 0)), (68, (.aload 0, 69, 1, 0, 0)), (69, (.getfield 0, 72, 5, 6, 3)), (72, (.iconst 0, 73, 0, 0, 0)), (73, (.aload 0, 74, 0, 0, 0)), (74, (.getfield 0, 77, 5, 6, 3)), (77, (.iconst 0, 78, 0, 0, 0)), (78, (.aload 0, 79, 0, 0, 0)), (79, (.getfield 0, 82, 5, 6, 3)), (82, (.arraylength, 83, 0, 0, 0)), (83, (.caload, 86, 0, 0, 0)), (86, (.aload 0, 87, 1, 0, 0)), (87, (.getfield 0, 90, 5, 7, 3)), (90, (.iconst 0, 91, 0, 0, 0)), (91, (.aload 0, 92, 0, 0, 0)), (92, (.getfield 0, 95, 5, 7, 3)), (95, (.iconst 0, 96, 0, 0, 0)), (96, (.aload 0, 97, 0, 0, 0)), (97, (.getfield 0, 100, 5, 7, 3)), (100, (.arraylength, 101, 0, 0, 0)), (101, (.caload, 104, 0, 0, 0)), (104, (.aload 0, 105, 1, 0, 0)), (105, (.getfield 0, 108, 5, 8, 3)), (108, (.iconst 0, 109, 0, 0, 0)), (109, (.aload 0, 110, 0, 0, 0)), (110, (.getfield 0, 113, 5, 8, 3)), (113, (.iconst 0, 114, 0, 0, 0)), (114, (.aload 0, 115, 0, 0, 0)), (115, (.getfield 0, 118, 5, 8, 3)), (118, (.arraylength, 119, 0, 0, 0)), (119, (.caload, 122, 0, 0, 0)), (122, (.return_, 123, 0, 0, 0))]
def cd_Lore_isThing : List (Nat × ab_E) := [(0, (.lload 0, 1, 1, 0, 0)), (1, (.ldc2_w 0, 2, 0, 0, 0)), (2, (.lcmp, 3, 0, 0, 0)), (3, (.ifCond .lt 0, 6, 20, 0, 0)), (6, (.lload 0, 7, 1, 0, 0)), (7, (.aload 0, 8, 0, 0, 0)), (8, (.getfield 0, 11, 5, 0, 0)), (11, (.i2l, 12, 0, 0, 0)), (12, (.lcmp, 13, 0, 0, 0)), (13, (.ifCond .ge 0, 16, 20, 0, 0)), (16, (.iconst 0, 17, 0, 0, 1)), (17, (.goto 0, 20, 21, 0, 0)), (20, (.iconst 0, 21, 0, 0, 0)), (21, (.ireturn, 22, 1, 0, 0))]
def cd_Lore_isInn : List (Nat × ab_E) := [(0, (.lload 0, 1, 1, 0, 0)), (1, (.ldc2_w 0, 2, 0, 0, 0)), (2, (.lcmp, 3, 0, 0, 0)), (3, (.ifCond .lt 0, 6, 20, 0, 0)), (6, (.lload 0, 7, 1, 0, 0)), (7, (.aload 0, 8, 0, 0, 0)), (8, (.getfield 0, 11, 5, 3, 0)), (11, (.i2l, 12, 0, 0, 0)), (12, (.lcmp, 13, 0, 0, 0)), (13, (.ifCond .ge 0, 16, 20, 0, 0)), (16, (.iconst 0, 17, 0, 0, 1)), (17, (.goto 0, 20, 21, 0, 0)), (20, (.iconst 0, 21, 0, 0, 0)), (21, (.ireturn, 22, 1, 0, 0))]
def cd_Lore_isSet : List (Nat × ab_E) := [(0, (.iload 0, 1, 1, 0, 0)), (1, (.aload 0, 2, 0, 0, 0)), (2, (.getfield 0, 5, 5, 0, 0)), (5, (.iushr, 6, 0, 0, 0)), (6, (.ifCond .ne 0, 9, 13, 0, 0)), (9, (.iconst 0, 10, 0, 0, 1)), (10, (.goto 0, 13, 14, 0, 0)), (13, (.iconst 0, 14, 0, 0, 0)), (14, (.ireturn, 15, 1, 0, 0))]
def cd_Lore_allThings : List (Nat × ab_E) := [(0, (.iconst 0, 1, 0, 0, 1)), (1, (.aload 0, 2, 0, 0, 0)), (2, (.getfield 0, 5, 5, 0, 0)), (5, (.ishl, 6, 0, 0, 0)), (6, (.iconst 0, 7, 0, 0, 1)), (7, (.isub, 8, 0, 0, 0)), (8, (.ireturn, 9, 0, 0, 0))]
def cd_Lore_newsAt : List (Nat × ab_E) := [(0, (.aload 0, 1, 0, 0, 0)), (1, (.getfield 0, 4, 5, 8, 3)), (4, (.iload 0, 5, 1, 0, 0)), (5, (.iconst 0, 7, 0, 0, 9)), (7, (.imul, 8, 0, 0, 0)), (8, (.iload 0, 9, 2, 0, 0)), (9, (.iadd, 10, 0, 0, 0)), (10, (.iaload, 11, 0, 0, 0)), (11, (.ireturn, 12, 0, 0, 0))]
def cd_Lore_addNews : List (Nat × ab_E) := [(0, (.aload 0, 1, 0, 0, 0)), (1, (.getfield 0, 4, 5, 7, 3)), (4, (.iload 0, 5, 1, 0, 0)), (5, (.iaload, 6, 0, 0, 0)), (6, (.iconst 0, 8, 0, 0, 9)), (8, (.if_icmp .lt 0, 11, 13, 0, 0)), (11, (.iconst 0, 12, 0, 0, 0)), (12, (.ireturn, 13, 1, 0, 0)), (13, (.aload 0, 14, 0, 0, 0)), (14, (.getfield 0, 17, 5, 8, 3)), (17, (.iload 0, 18, 1, 0, 0)), (18, (.iconst 0, 20, 0, 0, 9)), (20, (.imul, 21, 0, 0, 0)), (21, (.aload 0, 22, 0, 0, 0)), (22, (.getfield 0, 25, 5, 7, 3)), (25, (.iload 0, 26, 1, 0, 0)), (26, (.iaload, 27, 0, 0, 0)), (27, (.iadd, 28, 0, 0, 0)), (28, (.iload 0, 29, 2, 0, 0)), (29, (.iastore, 30, 0, 0, 0)), (30, (.aload 0, 31, 0, 0, 0)), (31, (.getfield 0, 34, 5, 7, 3)), (34, (.iload 0, 35, 1, 0, 0)), (35, (.dup2, 36, 0, 0, 0)), (36, (.iaload, 37, 0, 0, 0)), (37, (.iconst 0, 38, 0, 0, 1)), (38, (.iadd, 39, 0, 0, 0)), (39, (.iastore, 40, 0, 0, 0)), (40, (.iconst 0, 41, 0, 0, 1)), (41, (.ireturn, 42, 1, 0, 0))]
def cd_Lore_newsOnWay : List (Nat × ab_E) := [(0, (.iload 0, 1, 2, 0, 0)), (1, (.iload 0, 2, 1, 0, 0)), (2, (.if_icmp .le 0, 5, 9, 0, 0)), (5, (.iconst 0, 6, 0, 0, 1)), (6, (.goto 0, 9, 10, 0, 0)), (9, (.iconst 0, 10, 0, 0, -1)), (10, (.istore 0, 11, 3, 0, 0)), (11, (.iconst 0, 12, 0, 0, 0)), (12, (.istore 0, 14, 4, 0, 0)), (14, (.iload 0, 15, 1, 0, 0)), (15, (.istore 0, 17, 5, 0, 0)), (17, (.iload 0, 18, 2, 0, 0)), (18, (.iload 0, 19, 1, 0, 0)), (19, (.isub, 20, 0, 0, 0)), (20, (.invokestatic 0, 23, 292, 1, 1)), (23, (.istore 0, 25, 6, 0, 0)), (25, (.iload 0, 27, 6, 0, 0)), (27, (.ifCond .le 0, 30, 78, 0, 0)), (30, (.iload 0, 32, 5, 0, 0)), (32, (.iload 0, 33, 3, 0, 0)), (33, (.iadd, 34, 0, 0, 0)), (34, (.istore 0, 36, 5, 0, 0)), (36, (.iconst 0, 37, 0, 0, 0)), (37, (.istore 0, 39, 7, 0, 0)), (39, (.iload 0, 41, 7, 0, 0)), (41, (.aload 0, 42, 0, 0, 0)), (42, (.getfield 0, 45, 5, 7, 3)), (45, (.iload 0, 47, 5, 0, 0)), (47, (.iaload, 48, 0, 0, 0)), (48, (.if_icmp .ge 0, 51, 72, 0, 0)), (51, (.iload 0, 53, 4, 0, 0)), (53, (.iconst 0, 54, 0, 0, 1)), (54, (.aload 0, 55, 0, 0, 0)), (55, (.iload 0, 57, 5, 0, 0)), (57, (.iload 0, 59, 7, 0, 0)), (59, (.invokevirtual 5, 62, 239, 3, 1)), (62, (.ishl, 63, 0, 0, 0)), (63, (.ior, 64, 0, 0, 0)), (64, (.istore 0, 66, 4, 0, 0)), (66, (.iinc 0 0, 69, 7, 0, 1)), (69, (.goto 0, 72, 39, 0, 0)), (72, (.iinc 0 0, 75, 6, 0, -1)), (75, (.goto 0, 78, 25, 0, 0)), (78, (.iload 0, 80, 4, 0, 0)), (80, (.ireturn, 81, 0, 0, 0))]
def cd_Lore_worthOf : List (Nat × ab_E) := [(0, (.iconst 0, 1, 0, 0, 0)), (1, (.istore 0, 2, 2, 0, 0)), (2, (.iconst 0, 3, 0, 0, 0)), (3, (.istore 0, 4, 3, 0, 0)), (4, (.iload 0, 5, 3, 0, 0)), (5, (.aload 0, 6, 0, 0, 0)), (6, (.getfield 0, 9, 5, 0, 0)), (9, (.if_icmp .ge 0, 12, 35, 0, 0)), (12, (.iload 0, 13, 1, 0, 0)), (13, (.iload 0, 14, 3, 0, 0)), (14, (.ishr, 15, 0, 0, 0)), (15, (.iconst 0, 16, 0, 0, 1)), (16, (.iand, 17, 0, 0, 0)), (17, (.ifCond .eq 0, 20, 29, 0, 0)), (20, (.iload 0, 21, 2, 0, 0)), (21, (.aload 0, 22, 0, 0, 0)), (22, (.getfield 0, 25, 5, 6, 3)), (25, (.iload 0, 26, 3, 0, 0)), (26, (.iaload, 27, 0, 0, 0)), (27, (.iadd, 28, 0, 0, 0)), (28, (.istore 0, 29, 2, 0, 0)), (29, (.iinc 0 0, 32, 3, 0, 1)), (32, (.goto 0, 35, 4, 0, 0)), (35, (.iload 0, 36, 2, 0, 0)), (36, (.ireturn, 37, 0, 0, 0))]
def cd_Lore_secretPair : List (Nat × ab_E) := [(0, (.iconst 0, 1, 0, 0, 0)), (1, (.istore 0, 2, 2, 0, 0)), (2, (.iload 0, 3, 2, 0, 0)), (3, (.aload 0, 4, 0, 0, 0)), (4, (.getfield 0, 7, 5, 0, 0)), (7, (.if_icmp .ge 0, 10, 74, 0, 0)), (10, (.iload 0, 11, 1, 0, 0)), (11, (.iload 0, 12, 2, 0, 0)), (12, (.ishr, 13, 0, 0, 0)), (13, (.iconst 0, 14, 0, 0, 1)), (14, (.iand, 15, 0, 0, 0)), (15, (.ifCond .ne 0, 18, 22, 0, 0)), (18, (.iconst 0, 19, 0, 0, 0)), (19, (.goto 0, 22, 30, 0, 0)), (22, (.aload 0, 23, 0, 0, 0)), (23, (.getfield 0, 26, 5, 5, 3)), (26, (.iload 0, 27, 2, 0, 0)), (27, (.iaload, 28, 0, 0, 0)), (28, (.iload 0, 29, 1, 0, 0)), (29, (.iand, 30, 0, 0, 0)), (30, (.istore 0, 31, 3, 0, 0)), (31, (.iload 0, 32, 2, 0, 0)), (32, (.iconst 0, 33, 0, 0, 1)), (33, (.iadd, 34, 0, 0, 0)), (34, (.istore 0, 36, 4, 0, 0)), (36, (.iload 0, 38, 4, 0, 0)), (38, (.aload 0, 39, 0, 0, 0)), (39, (.getfield 0, 42, 5, 0, 0)), (42, (.if_icmp .ge 0, 45, 68, 0, 0)), (45, (.iload 0, 46, 3, 0, 0)), (46, (.iload 0, 48, 4, 0, 0)), (48, (.ishr, 49, 0, 0, 0)), (49, (.iconst 0, 50, 0, 0, 1)), (50, (.iand, 51, 0, 0, 0)), (51, (.ifCond .eq 0, 54, 62, 0, 0)), (54, (.iconst 0, 56, 0, 0, 20)), (56, (.iload 0, 57, 2, 0, 0)), (57, (.imul, 58, 0, 0, 0)), (58, (.iload 0, 60, 4, 0, 0)), (60, (.iadd, 61, 0, 0, 0)), (61, (.ireturn, 62, 0, 0, 0)), (62, (.iinc 0 0, 65, 4, 0, 1)), (65, (.goto 0, 68, 36, 0, 0)), (68, (.iinc 0 0, 71, 2, 0, 1)), (71, (.goto 0, 74, 2, 0, 0)), (74, (.iconst 0, 75, 0, 0, -1)), (75, (.ireturn, 76, 0, 0, 0))]
def cd_Lore_comeBack : List (Nat × ab_E) := [(0, (.iload 0, 1, 1, 0, 0)), (1, (.istore 0, 2, 2, 0, 0)), (2, (.iconst 0, 3, 0, 0, 0)), (3, (.istore 0, 4, 3, 0, 0)), (4, (.iload 0, 5, 3, 0, 0)), (5, (.aload 0, 6, 0, 0, 0)), (6, (.getfield 0, 9, 5, 0, 0)), (9, (.if_icmp .ge 0, 12, 71, 0, 0)), (12, (.iload 0, 13, 2, 0, 0)), (13, (.istore 0, 15, 4, 0, 0)), (15, (.iconst 0, 16, 0, 0, 0)), (16, (.istore 0, 18, 5, 0, 0)), (18, (.iload 0, 20, 5, 0, 0)), (20, (.aload 0, 21, 0, 0, 0)), (21, (.getfield 0, 24, 5, 0, 0)), (24, (.if_icmp .ge 0, 27, 54, 0, 0)), (27, (.iload 0, 28, 2, 0, 0)), (28, (.iload 0, 30, 5, 0, 0)), (30, (.ishr, 31, 0, 0, 0)), (31, (.iconst 0, 32, 0, 0, 1)), (32, (.iand, 33, 0, 0, 0)), (33, (.ifCond .eq 0, 36, 48, 0, 0)), (36, (.iload 0, 38, 4, 0, 0)), (38, (.aload 0, 39, 0, 0, 0)), (39, (.getfield 0, 42, 5, 4, 3)), (42, (.iload 0, 44, 5, 0, 0)), (44, (.iaload, 45, 0, 0, 0)), (45, (.ior, 46, 0, 0, 0)), (46, (.istore 0, 48, 4, 0, 0)), (48, (.iinc 0 0, 51, 5, 0, 1)), (51, (.goto 0, 54, 18, 0, 0)), (54, (.iload 0, 56, 4, 0, 0)), (56, (.iload 0, 57, 2, 0, 0)), (57, (.if_icmp .ne 0, 60, 62, 0, 0)), (60, (.iload 0, 61, 2, 0, 0)), (61, (.ireturn, 62, 0, 0, 0)), (62, (.iload 0, 64, 4, 0, 0)), (64, (.istore 0, 65, 2, 0, 0)), (65, (.iinc 0 0, 68, 3, 0, 1)), (68, (.goto 0, 71, 4, 0, 0)), (71, (.iload 0, 72, 2, 0, 0)), (72, (.ireturn, 73, 0, 0, 0))]
def cd_Pieces_init : List (Nat × ab_E) := [(0, (.aload 0, 1, 0, 0, 0)), (1, (.d2l, 4, 0, 0, 0)), (4, (.aload 0, 5, 0, 0, 0)), (5, (.iconst 0, 7, 0, 0, 6)), (7, (.newarray .int, 9, 56, 0, 0)), (9, (.putfield 0, 12, 6, 1, 3)), (12, (.aload 0, 13, 0, 0, 0)), (13, (.iconst 0, 15, 0, 0, 48)), (15, (.newarray .int, 17, 57, 0, 0)), (17, (.putfield 0, 20, 6, 2, 3)), (20, (.aload 0, 21, 0, 0, 0)), (21, (.iconst 0, 23, 0, 0, 36)), (23, (.newarray .int, 25, 58, 0, 0)), (25, (.putfield 0, 28, 6, 3, 3)), (28, (.aload 0, 29, 0, 0, 0)), (29, (.iconst 0, 31, 0, 0, 48)), (31, (.newarray .int, 33, 59, 0, 0)), (33, (.putfield 0, 36, 6, 4, 3)), (36, (.aload 0, 37, 0, 0, 0)), (37, (.iconst 0, 39, 0, 0, 48)), (39, (.newarray .int, 41, 60, 0, 0)), (41, (.putfield 0, 44, 6, 5, 3)), (44, (.return_, 45, 0, 0, 0))]
def cd_Pieces_likeOf : List (Nat × ab_E) := [(0, (.aload 0, 1, 0, 0, 0)), (1, (.aload 0, 2, 1, 0, 0)), (2, (.getfield 0, 5, 6, 0, 0)), (5, (.putfield 0, 8, 6, 0, 0)), (8, (.aload 0, 9, 1, 0, 0)), (9, (.getfield 0, 12, 6, 1, 3)), (12, (.iconst 0, 13, 0, 0, 0)), (13, (.aload 0, 14, 0, 0, 0)), (14, (.getfield 0, 17, 6, 1, 3)), (17, (.iconst 0, 18, 0, 0, 0)), (18, (.aload 0, 19, 0, 0, 0)), (19, (.getfield 0, 22, 6, 1, 3)), (22, (.arraylength, 23, 0, 0, 0)), (23, (.caload, 26, 0, 0, 0)), (26, (.aload 0, 27, 1, 0, 0)), (27, (.getfield 0, 30, 6, 2, 3)), (30, (.iconst 0, 31, 0, 0, 0)), (31, (.aload 0, 32, 0, 0, 0)), (32, (.getfield 0, 35, 6, 2, 3)), (35, (.iconst 0, 36, 0, 0, 0)), (36, (.aload 0, 37, 0, 0, 0)), (37, (.getfield 0, 40, 6, 2, 3)), (40, (.arraylength, 41, 0, 0, 0)), (41, (.caload, 44, 0, 0, 0)), (44, (.return_, 45, 0, 0, 0))]
def cd_Pieces_addOne : List (Nat × ab_E) := [(0, (.aload 0, 1, 0, 0, 0)), (1, (.getfield 0, 4, 6, 0, 0)), (4, (.iconst 0, 6, 0, 0, 6)), (6, (.if_icmp .ge 0, 9, 21, 0, 0)), (9, (.iload 0, 10, 2, 0, 0)), (10, (.iconst 0, 12, 0, 0, 8)), (12, (.if_icmp .gt 0, 15, 21, 0, 0)), (15, (.iload 0, 16, 2, 0, 0)), (16, (.aload 0, 17, 1, 0, 0)), (17, (.arraylength, 18, 0, 0, 0)), (18, (.if_icmp .le 0, 21, 24, 0, 0)), (21, (.iconst 0, 23, 0, 0, -4)), (23, (.ireturn, 24, 0, 0, 0)), (24, (.aload 0, 25, 1, 0, 0)), (25, (.iconst 0, 26, 0, 0, 0)), (26, (.aload 0, 27, 0, 0, 0)), (27, (.getfield 0, 30, 6, 2, 3)), (30, (.aload 0, 31, 0, 0, 0)), (31, (.getfield 0, 34, 6, 0, 0)), (34, (.iconst 0, 36, 0, 0, 8)), (36, (.imul, 37, 0, 0, 0)), (37, (.iload 0, 38, 2, 0, 0)), (38, (.caload, 41, 0, 0, 0)), (41, (.aload 0, 42, 0, 0, 0)), (42, (.getfield 0, 45, 6, 1, 3)), (45, (.aload 0, 46, 0, 0, 0)), (46, (.getfield 0, 49, 6, 0, 0)), (49, (.iload 0, 50, 2, 0, 0)), (50, (.iastore, 51, 0, 0, 0)), (51, (.aload 0, 52, 0, 0, 0)), (52, (.dup, 53, 0, 0, 0)), (53, (.getfield 0, 56, 6, 0, 0)), (56, (.iconst 0, 57, 0, 0, 1)), (57, (.iadd, 58, 0, 0, 0)), (58, (.putfield 0, 61, 6, 0, 0)), (61, (.aload 0, 62, 0, 0, 0)), (62, (.getfield 0, 65, 6, 0, 0)), (65, (.ireturn, 66, 0, 0, 0))]
def cd_Pieces_thingOf : List (Nat × ab_E) := [(0, (.aload 0, 1, 0, 0, 0)), (1, (.getfield 0, 4, 6, 2, 3)), (4, (.iload 0, 5, 1, 0, 0)), (5, (.iconst 0, 7, 0, 0, 8)), (7, (.imul, 8, 0, 0, 0)), (8, (.iload 0, 9, 2, 0, 0)), (9, (.iadd, 10, 0, 0, 0)), (10, (.iaload, 11, 0, 0, 0)), (11, (.ireturn, 12, 0, 0, 0))]
def cd_Pieces_inThem : List (Nat × ab_E) := [(0, (.iconst 0, 1, 0, 0, 0)), (1, (.istore 0, 2, 1, 0, 0)), (2, (.iconst 0, 3, 0, 0, 0)), (3, (.istore 0, 4, 2, 0, 0)), (4, (.iload 0, 5, 2, 0, 0)), (5, (.aload 0, 6, 0, 0, 0)), (6, (.getfield 0, 9, 6, 0, 0)), (9, (.if_icmp .ge 0, 12, 47, 0, 0)), (12, (.iconst 0, 13, 0, 0, 0)), (13, (.istore 0, 14, 3, 0, 0)), (14, (.iload 0, 15, 3, 0, 0)), (15, (.aload 0, 16, 0, 0, 0)), (16, (.getfield 0, 19, 6, 1, 3)), (19, (.iload 0, 20, 2, 0, 0)), (20, (.iaload, 21, 0, 0, 0)), (21, (.if_icmp .ge 0, 24, 41, 0, 0)), (24, (.iload 0, 25, 1, 0, 0)), (25, (.iconst 0, 26, 0, 0, 1)), (26, (.aload 0, 27, 0, 0, 0)), (27, (.iload 0, 28, 2, 0, 0)), (28, (.iload 0, 29, 3, 0, 0)), (29, (.invokevirtual 6, 32, 248, 3, 1)), (32, (.ishl, 33, 0, 0, 0)), (33, (.ior, 34, 0, 0, 0)), (34, (.istore 0, 35, 1, 0, 0)), (35, (.iinc 0 0, 38, 3, 0, 1)), (38, (.goto 0, 41, 14, 0, 0)), (41, (.iinc 0 0, 44, 2, 0, 1)), (44, (.goto 0, 47, 4, 0, 0)), (47, (.iload 0, 48, 1, 0, 0)), (48, (.ireturn, 49, 0, 0, 0))]
def cd_Pieces_areUnfit : List (Nat × ab_E) := [(0, (.iconst 0, 1, 0, 0, 0)), (1, (.istore 0, 2, 3, 0, 0)), (2, (.iload 0, 3, 3, 0, 0)), (3, (.iconst 0, 5, 0, 0, 16)), (5, (.if_icmp .ge 0, 8, 46, 0, 0)), (8, (.iload 0, 9, 3, 0, 0)), (9, (.iconst 0, 10, 0, 0, 1)), (10, (.iadd, 11, 0, 0, 0)), (11, (.istore 0, 13, 4, 0, 0)), (13, (.iload 0, 15, 4, 0, 0)), (15, (.iconst 0, 17, 0, 0, 16)), (17, (.if_icmp .ge 0, 20, 40, 0, 0)), (20, (.aload 0, 21, 0, 0, 0)), (21, (.iload 0, 22, 1, 0, 0)), (22, (.iload 0, 23, 2, 0, 0)), (23, (.iload 0, 24, 3, 0, 0)), (24, (.iload 0, 26, 4, 0, 0)), (26, (.invokevirtual 6, 29, 251, 5, 1)), (29, (.ifCond .eq 0, 32, 34, 0, 0)), (32, (.iconst 0, 33, 0, 0, 1)), (33, (.ireturn, 34, 1, 0, 0)), (34, (.iinc 0 0, 37, 4, 0, 1)), (37, (.goto 0, 40, 13, 0, 0)), (40, (.iinc 0 0, 43, 3, 0, 1)), (43, (.goto 0, 46, 2, 0, 0)), (46, (.iconst 0, 47, 0, 0, 0)), (47, (.ireturn, 48, 1, 0, 0))]
def cd_Pieces_isTurned : List (Nat × ab_E) := [(0, (.aload 0, 1, 0, 0, 0)), (1, (.iload 0, 2, 1, 0, 0)), (2, (.iload 0, 3, 3, 0, 0)), (3, (.invokevirtual 6, 6, 252, 3, 1)), (6, (.istore 0, 8, 5, 0, 0)), (8, (.aload 0, 9, 0, 0, 0)), (9, (.iload 0, 10, 1, 0, 0)), (10, (.iload 0, 12, 4, 0, 0)), (12, (.invokevirtual 6, 15, 252, 3, 1)), (15, (.istore 0, 17, 6, 0, 0)), (17, (.aload 0, 18, 0, 0, 0)), (18, (.iload 0, 19, 2, 0, 0)), (19, (.iload 0, 20, 3, 0, 0)), (20, (.invokevirtual 6, 23, 252, 3, 1)), (23, (.istore 0, 25, 7, 0, 0)), (25, (.aload 0, 26, 0, 0, 0)), (26, (.iload 0, 27, 2, 0, 0)), (27, (.iload 0, 29, 4, 0, 0)), (29, (.invokevirtual 6, 32, 252, 3, 1)), (32, (.istore 0, 34, 8, 0, 0)), (34, (.iload 0, 36, 5, 0, 0)), (36, (.iconst 0, 37, 0, 0, -1)), (37, (.if_icmp .eq 0, 40, 89, 0, 0)), (40, (.iload 0, 42, 6, 0, 0)), (42, (.iconst 0, 43, 0, 0, -1)), (43, (.if_icmp .eq 0, 46, 89, 0, 0)), (46, (.iload 0, 48, 7, 0, 0)), (48, (.iconst 0, 49, 0, 0, -1)), (49, (.if_icmp .eq 0, 52, 89, 0, 0)), (52, (.iload 0, 54, 8, 0, 0)), (54, (.iconst 0, 55, 0, 0, -1)), (55, (.if_icmp .eq 0, 58, 89, 0, 0)), (58, (.iload 0, 60, 5, 0, 0)), (60, (.iload 0, 62, 6, 0, 0)), (62, (.if_icmp .ge 0, 65, 69, 0, 0)), (65, (.iconst 0, 66, 0, 0, 1)), (66, (.goto 0, 69, 70, 0, 0)), (69, (.iconst 0, 70, 0, 0, 0)), (70, (.iload 0, 72, 7, 0, 0)), (72, (.iload 0, 74, 8, 0, 0)), (74, (.if_icmp .ge 0, 77, 81, 0, 0)), (77, (.iconst 0, 78, 0, 0, 1)), (78, (.goto 0, 81, 82, 0, 0)), (81, (.iconst 0, 82, 0, 0, 0)), (82, (.if_icmp .eq 0, 85, 89, 0, 0)), (85, (.iconst 0, 86, 0, 0, 1)), (86, (.goto 0, 89, 90, 0, 0)), (89, (.iconst 0, 90, 0, 0, 0)), (90, (.ireturn, 91, 1, 0, 0))]
def cd_Pieces_firstPlace : List (Nat × ab_E) := [(0, (.iconst 0, 1, 0, 0, 0)), (1, (.istore 0, 2, 3, 0, 0)), (2, (.iload 0, 3, 3, 0, 0)), (3, (.aload 0, 4, 0, 0, 0)), (4, (.getfield 0, 7, 6, 1, 3)), (7, (.iload 0, 8, 1, 0, 0)), (8, (.iaload, 9, 0, 0, 0)), (9, (.if_icmp .ge 0, 12, 30, 0, 0)), (12, (.aload 0, 13, 0, 0, 0)), (13, (.iload 0, 14, 1, 0, 0)), (14, (.iload 0, 15, 3, 0, 0)), (15, (.invokevirtual 6, 18, 248, 3, 1)), (18, (.iload 0, 19, 2, 0, 0)), (19, (.if_icmp .ne 0, 22, 24, 0, 0)), (22, (.iload 0, 23, 3, 0, 0)), (23, (.ireturn, 24, 0, 0, 0)), (24, (.iinc 0 0, 27, 3, 0, 1)), (27, (.goto 0, 30, 2, 0, 0)), (30, (.iconst 0, 31, 0, 0, -1)), (31, (.ireturn, 32, 0, 0, 0))]
def cd_Pieces_join : List (Nat × ab_E) := [(0, (.aload 0, 1, 0, 0, 0)), (1, (.iconst 0, 2, 0, 0, 0)), (2, (.putfield 0, 5, 6, 6, 0)), (5, (.iconst 0, 6, 0, 0, 0)), (6, (.istore 0, 7, 1, 0, 0)), (7, (.iconst 0, 8, 0, 0, 0)), (8, (.istore 0, 9, 2, 0, 0)), (9, (.iload 0, 10, 2, 0, 0)), (10, (.aload 0, 11, 0, 0, 0)), (11, (.getfield 0, 14, 6, 0, 0)), (14, (.if_icmp .ge 0, 17, 85, 0, 0)), (17, (.aload 0, 18, 0, 0, 0)), (18, (.dup, 19, 0, 0, 0)), (19, (.getfield 0, 22, 6, 6, 0)), (22, (.aload 0, 23, 0, 0, 0)), (23, (.getfield 0, 26, 6, 1, 3)), (26, (.iload 0, 27, 2, 0, 0)), (27, (.iaload, 28, 0, 0, 0)), (28, (.iadd, 29, 0, 0, 0)), (29, (.putfield 0, 32, 6, 6, 0)), (32, (.aload 0, 33, 0, 0, 0)), (33, (.iload 0, 34, 2, 0, 0)), (34, (.invokevirtual 6, 37, 254, 2, 1)), (37, (.ifCond .ne 0, 40, 46, 0, 0)), (40, (.iload 0, 41, 1, 0, 0)), (41, (.iconst 0, 42, 0, 0, 1)), (42, (.iload 0, 43, 2, 0, 0)), (43, (.ishl, 44, 0, 0, 0)), (44, (.ior, 45, 0, 0, 0)), (45, (.istore 0, 46, 1, 0, 0)), (46, (.iconst 0, 47, 0, 0, 0)), (47, (.istore 0, 48, 3, 0, 0)), (48, (.iload 0, 49, 3, 0, 0)), (49, (.aload 0, 50, 0, 0, 0)), (50, (.getfield 0, 53, 6, 0, 0)), (53, (.if_icmp .ge 0, 56, 79, 0, 0)), (56, (.aload 0, 57, 0, 0, 0)), (57, (.getfield 0, 60, 6, 3, 3)), (60, (.iload 0, 61, 2, 0, 0)), (61, (.iconst 0, 63, 0, 0, 6)), (63, (.imul, 64, 0, 0, 0)), (64, (.iload 0, 65, 3, 0, 0)), (65, (.iadd, 66, 0, 0, 0)), (66, (.aload 0, 67, 0, 0, 0)), (67, (.iload 0, 68, 2, 0, 0)), (68, (.iload 0, 69, 3, 0, 0)), (69, (.invokevirtual 6, 72, 255, 3, 1)), (72, (.iastore, 73, 0, 0, 0)), (73, (.iinc 0 0, 76, 3, 0, 1)), (76, (.goto 0, 79, 48, 0, 0)), (79, (.iinc 0 0, 82, 2, 0, 1)), (82, (.goto 0, 85, 9, 0, 0)), (85, (.aload 0, 86, 0, 0, 0)), (86, (.dup, 87, 0, 0, 0)), (87, (.getfield 0, 90, 6, 6, 0)), (90, (.iconst 0, 91, 0, 0, 1)), (91, (.iadd, 92, 0, 0, 0)), (92, (.putfield 0, 95, 6, 6, 0)), (95, (.aload 0, 96, 0, 0, 0)), (96, (.iload 0, 97, 1, 0, 0)), (97, (.iconst 0, 98, 0, 0, -1)), (98, (.iconst 0, 99, 0, 0, 0)), (99, (.iconst 0, 100, 0, 0, 0)), (100, (.invokevirtual 6, 103, 257, 5, 0)), (103, (.return_, 104, 0, 0, 0))]
def cd_Pieces_isWithinAnother : List (Nat × ab_E) := [(0, (.iconst 0, 1, 0, 0, 0)), (1, (.istore 0, 2, 2, 0, 0)), (2, (.iload 0, 3, 2, 0, 0)), (3, (.aload 0, 4, 0, 0, 0)), (4, (.getfield 0, 7, 6, 0, 0)), (7, (.if_icmp .ge 0, 10, 107, 0, 0)), (10, (.aload 0, 11, 0, 0, 0)), (11, (.getfield 0, 14, 6, 1, 3)), (14, (.iload 0, 15, 1, 0, 0)), (15, (.iaload, 16, 0, 0, 0)), (16, (.aload 0, 17, 0, 0, 0)), (17, (.getfield 0, 20, 6, 1, 3)), (20, (.iload 0, 21, 2, 0, 0)), (21, (.iaload, 22, 0, 0, 0)), (22, (.if_icmp .lt 0, 25, 45, 0, 0)), (25, (.aload 0, 26, 0, 0, 0)), (26, (.getfield 0, 29, 6, 1, 3)), (29, (.iload 0, 30, 1, 0, 0)), (30, (.iaload, 31, 0, 0, 0)), (31, (.aload 0, 32, 0, 0, 0)), (32, (.getfield 0, 35, 6, 1, 3)), (35, (.iload 0, 36, 2, 0, 0)), (36, (.iaload, 37, 0, 0, 0)), (37, (.if_icmp .ne 0, 40, 49, 0, 0)), (40, (.iload 0, 41, 2, 0, 0)), (41, (.iload 0, 42, 1, 0, 0)), (42, (.if_icmp .ge 0, 45, 49, 0, 0)), (45, (.iconst 0, 46, 0, 0, 1)), (46, (.goto 0, 49, 50, 0, 0)), (49, (.iconst 0, 50, 0, 0, 0)), (50, (.istore 0, 51, 3, 0, 0)), (51, (.iconst 0, 52, 0, 0, 0)), (52, (.istore 0, 54, 4, 0, 0)), (54, (.iload 0, 55, 3, 0, 0)), (55, (.ifCond .eq 0, 58, 101, 0, 0)), (58, (.iload 0, 60, 4, 0, 0)), (60, (.aload 0, 61, 0, 0, 0)), (61, (.getfield 0, 64, 6, 1, 3)), (64, (.iload 0, 65, 1, 0, 0)), (65, (.iaload, 66, 0, 0, 0)), (66, (.iadd, 67, 0, 0, 0)), (67, (.aload 0, 68, 0, 0, 0)), (68, (.getfield 0, 71, 6, 1, 3)), (71, (.iload 0, 72, 2, 0, 0)), (72, (.iaload, 73, 0, 0, 0)), (73, (.if_icmp .gt 0, 76, 101, 0, 0)), (76, (.aload 0, 77, 0, 0, 0)), (77, (.iload 0, 78, 2, 0, 0)), (78, (.iload 0, 80, 4, 0, 0)), (80, (.iload 0, 81, 1, 0, 0)), (81, (.aload 0, 82, 0, 0, 0)), (82, (.getfield 0, 85, 6, 1, 3)), (85, (.iload 0, 86, 1, 0, 0)), (86, (.iaload, 87, 0, 0, 0)), (87, (.invokevirtual 6, 90, 256, 5, 1)), (90, (.ifCond .eq 0, 93, 95, 0, 0)), (93, (.iconst 0, 94, 0, 0, 1)), (94, (.ireturn, 95, 1, 0, 0)), (95, (.iinc 0 0, 98, 4, 0, 1)), (98, (.goto 0, 101, 54, 0, 0)), (101, (.iinc 0 0, 104, 2, 0, 1)), (104, (.goto 0, 107, 2, 0, 0)), (107, (.iconst 0, 108, 0, 0, 0)), (108, (.ireturn, 109, 1, 0, 0))]
def cd_Pieces_overlapOf : List (Nat × ab_E) := [(0, (.aload 0, 1, 0, 0, 0)), (1, (.getfield 0, 4, 6, 1, 3)), (4, (.iload 0, 5, 1, 0, 0)), (5, (.iaload, 6, 0, 0, 0)), (6, (.aload 0, 7, 0, 0, 0)), (7, (.getfield 0, 10, 6, 1, 3)), (10, (.iload 0, 11, 2, 0, 0)), (11, (.iaload, 12, 0, 0, 0)), (12, (.invokestatic 0, 15, 294, 2, 1)), (15, (.istore 0, 16, 3, 0, 0)), (16, (.iload 0, 17, 3, 0, 0)), (17, (.ifCond .le 0, 20, 46, 0, 0)), (20, (.aload 0, 21, 0, 0, 0)), (21, (.iload 0, 22, 1, 0, 0)), (22, (.aload 0, 23, 0, 0, 0)), (23, (.getfield 0, 26, 6, 1, 3)), (26, (.iload 0, 27, 1, 0, 0)), (27, (.iaload, 28, 0, 0, 0)), (28, (.iload 0, 29, 3, 0, 0)), (29, (.isub, 30, 0, 0, 0)), (30, (.iload 0, 31, 2, 0, 0)), (31, (.iload 0, 32, 3, 0, 0)), (32, (.invokevirtual 6, 35, 256, 5, 1)), (35, (.ifCond .eq 0, 38, 40, 0, 0)), (38, (.iload 0, 39, 3, 0, 0)), (39, (.ireturn, 40, 0, 0, 0)), (40, (.iinc 0 0, 43, 3, 0, -1)), (43, (.goto 0, 46, 16, 0, 0)), (46, (.iconst 0, 47, 0, 0, 0)), (47, (.ireturn, 48, 0, 0, 0))]
def cd_Pieces_isSame : List (Nat × ab_E) := [(0, (.iconst 0, 1, 0, 0, 0)), (1, (.istore 0, 3, 5, 0, 0)), (3, (.iload 0, 5, 5, 0, 0)), (5, (.iload 0, 7, 4, 0, 0)), (7, (.if_icmp .ge 0, 10, 37, 0, 0)), (10, (.aload 0, 11, 0, 0, 0)), (11, (.iload 0, 12, 1, 0, 0)), (12, (.iload 0, 13, 2, 0, 0)), (13, (.iload 0, 15, 5, 0, 0)), (15, (.iadd, 16, 0, 0, 0)), (16, (.invokevirtual 6, 19, 248, 3, 1)), (19, (.aload 0, 20, 0, 0, 0)), (20, (.iload 0, 21, 3, 0, 0)), (21, (.iload 0, 23, 5, 0, 0)), (23, (.invokevirtual 6, 26, 248, 3, 1)), (26, (.if_icmp .eq 0, 29, 31, 0, 0)), (29, (.iconst 0, 30, 0, 0, 0)), (30, (.ireturn, 31, 1, 0, 0)), (31, (.iinc 0 0, 34, 5, 0, 1)), (34, (.goto 0, 37, 3, 0, 0)), (37, (.iconst 0, 38, 0, 0, 1)), (38, (.ireturn, 39, 1, 0, 0))]
def cd_Pieces_joinOn : List (Nat × ab_E) := [(0, (.iload 0, 1, 3, 0, 0)), (1, (.aload 0, 2, 0, 0, 0)), (2, (.getfield 0, 5, 6, 6, 0)), (5, (.if_icmp .gt 0, 8, 15, 0, 0)), (8, (.iload 0, 10, 4, 0, 0)), (10, (.iconst 0, 12, 0, 0, 6)), (12, (.if_icmp .le 0, 15, 16, 0, 0)), (15, (.return_, 16, 0, 0, 0)), (16, (.iload 0, 17, 1, 0, 0)), (17, (.ifCond .ne 0, 20, 60, 0, 0)), (20, (.iload 0, 21, 3, 0, 0)), (21, (.aload 0, 22, 0, 0, 0)), (22, (.getfield 0, 25, 6, 6, 0)), (25, (.if_icmp .lt 0, 28, 36, 0, 0)), (28, (.aload 0, 29, 0, 0, 0)), (29, (.iload 0, 30, 3, 0, 0)), (30, (.invokevirtual 6, 33, 258, 2, 1)), (33, (.ifCond .eq 0, 36, 59, 0, 0)), (36, (.aload 0, 37, 0, 0, 0)), (37, (.iload 0, 38, 3, 0, 0)), (38, (.putfield 0, 41, 6, 6, 0)), (41, (.aload 0, 42, 0, 0, 0)), (42, (.getfield 0, 45, 6, 4, 3)), (45, (.iconst 0, 46, 0, 0, 0)), (46, (.aload 0, 47, 0, 0, 0)), (47, (.getfield 0, 50, 6, 5, 3)), (50, (.iconst 0, 51, 0, 0, 0)), (51, (.aload 0, 52, 0, 0, 0)), (52, (.getfield 0, 55, 6, 4, 3)), (55, (.arraylength, 56, 0, 0, 0)), (56, (.caload, 59, 0, 0, 0)), (59, (.return_, 60, 0, 0, 0)), (60, (.iconst 0, 61, 0, 0, 0)), (61, (.istore 0, 63, 5, 0, 0)), (63, (.iload 0, 65, 5, 0, 0)), (65, (.aload 0, 66, 0, 0, 0)), (66, (.getfield 0, 69, 6, 0, 0)), (69, (.if_icmp .ge 0, 72, 176, 0, 0)), (72, (.iload 0, 73, 1, 0, 0)), (73, (.iload 0, 75, 5, 0, 0)), (75, (.ishr, 76, 0, 0, 0)), (76, (.iconst 0, 77, 0, 0, 1)), (77, (.iand, 78, 0, 0, 0)), (78, (.ifCond .eq 0, 81, 170, 0, 0)), (81, (.iload 0, 82, 2, 0, 0)), (82, (.iconst 0, 83, 0, 0, -1)), (83, (.if_icmp .ne 0, 86, 90, 0, 0)), (86, (.iconst 0, 87, 0, 0, 0)), (87, (.goto 0, 90, 102, 0, 0)), (90, (.aload 0, 91, 0, 0, 0)), (91, (.getfield 0, 94, 6, 3, 3)), (94, (.iload 0, 95, 2, 0, 0)), (95, (.iconst 0, 97, 0, 0, 6)), (97, (.imul, 98, 0, 0, 0)), (98, (.iload 0, 100, 5, 0, 0)), (100, (.iadd, 101, 0, 0, 0)), (101, (.iaload, 102, 0, 0, 0)), (102, (.istore 0, 104, 6, 0, 0)), (104, (.aload 0, 105, 0, 0, 0)), (105, (.getfield 0, 108, 6, 1, 3)), (108, (.iload 0, 110, 5, 0, 0)), (110, (.iaload, 111, 0, 0, 0)), (111, (.iload 0, 113, 6, 0, 0)), (113, (.isub, 114, 0, 0, 0)), (114, (.aload 0, 115, 0, 0, 0)), (115, (.getfield 0, 118, 6, 4, 3)), (118, (.arraylength, 119, 0, 0, 0)), (119, (.iload 0, 120, 3, 0, 0)), (120, (.isub, 121, 0, 0, 0)), (121, (.invokestatic 0, 124, 294, 2, 1)), (124, (.istore 0, 126, 7, 0, 0)), (126, (.aload 0, 127, 0, 0, 0)), (127, (.getfield 0, 130, 6, 2, 3)), (130, (.iload 0, 132, 5, 0, 0)), (132, (.iconst 0, 134, 0, 0, 8)), (134, (.imul, 135, 0, 0, 0)), (135, (.iload 0, 137, 6, 0, 0)), (137, (.iadd, 138, 0, 0, 0)), (138, (.aload 0, 139, 0, 0, 0)), (139, (.getfield 0, 142, 6, 4, 3)), (142, (.iload 0, 143, 3, 0, 0)), (143, (.iload 0, 145, 7, 0, 0)), (145, (.caload, 148, 0, 0, 0)), (148, (.aload 0, 149, 0, 0, 0)), (149, (.iload 0, 150, 1, 0, 0)), (150, (.iconst 0, 151, 0, 0, 1)), (151, (.iload 0, 153, 5, 0, 0)), (153, (.ishl, 154, 0, 0, 0)), (154, (.iconst 0, 155, 0, 0, -1)), (155, (.ixor, 156, 0, 0, 0)), (156, (.iand, 157, 0, 0, 0)), (157, (.iload 0, 159, 5, 0, 0)), (159, (.iload 0, 160, 3, 0, 0)), (160, (.iload 0, 162, 7, 0, 0)), (162, (.iadd, 163, 0, 0, 0)), (163, (.iload 0, 165, 4, 0, 0)), (165, (.iconst 0, 166, 0, 0, 1)), (166, (.iadd, 167, 0, 0, 0)), (167, (.invokevirtual 6, 170, 257, 5, 0)), (170, (.iinc 0 0, 173, 5, 0, 1)), (173, (.goto 0, 176, 63, 0, 0)), (176, (.return_, 177, 0, 0, 0))]
def cd_Pieces_isFirstByThings : List (Nat × ab_E) := [(0, (.iconst 0, 1, 0, 0, 0)), (1, (.istore 0, 2, 2, 0, 0)), (2, (.iload 0, 3, 2, 0, 0)), (3, (.iload 0, 4, 1, 0, 0)), (4, (.if_icmp .ge 0, 7, 49, 0, 0)), (7, (.aload 0, 8, 0, 0, 0)), (8, (.getfield 0, 11, 6, 4, 3)), (11, (.iload 0, 12, 2, 0, 0)), (12, (.iaload, 13, 0, 0, 0)), (13, (.aload 0, 14, 0, 0, 0)), (14, (.getfield 0, 17, 6, 5, 3)), (17, (.iload 0, 18, 2, 0, 0)), (18, (.iaload, 19, 0, 0, 0)), (19, (.if_icmp .eq 0, 22, 43, 0, 0)), (22, (.aload 0, 23, 0, 0, 0)), (23, (.getfield 0, 26, 6, 4, 3)), (26, (.iload 0, 27, 2, 0, 0)), (27, (.iaload, 28, 0, 0, 0)), (28, (.aload 0, 29, 0, 0, 0)), (29, (.getfield 0, 32, 6, 5, 3)), (32, (.iload 0, 33, 2, 0, 0)), (33, (.iaload, 34, 0, 0, 0)), (34, (.if_icmp .ge 0, 37, 41, 0, 0)), (37, (.iconst 0, 38, 0, 0, 1)), (38, (.goto 0, 41, 42, 0, 0)), (41, (.iconst 0, 42, 0, 0, 0)), (42, (.ireturn, 43, 1, 0, 0)), (43, (.iinc 0 0, 46, 2, 0, 1)), (46, (.goto 0, 49, 2, 0, 0)), (49, (.iconst 0, 50, 0, 0, 0)), (50, (.ireturn, 51, 1, 0, 0))]
def cd_Reader_init : List (Nat × ab_E) := [(0, (.aload 0, 1, 0, 0, 0)), (1, (.d2l, 4, 0, 0, 0)), (4, (.aload 0, 5, 0, 0, 0)), (5, (.new 0, 8, 5, 0, 0)), (8, (.dup, 9, 0, 0, 0)), (9, (.invokespecial 5, 12, 232, 1, 0)), (12, (.putfield 0, 15, 7, 0, 3)), (15, (.aload 0, 16, 0, 0, 0)), (16, (.iconst 0, 17, 0, 0, -1)), (17, (.putfield 0, 20, 7, 2, 0)), (20, (.aload 0, 21, 0, 0, 0)), (21, (.iconst 0, 24, 0, 0, 500)), (24, (.newarray .int, 26, 61, 0, 0)), (26, (.putfield 0, 29, 7, 4, 3)), (29, (.return_, 30, 0, 0, 0))]
def cd_Reader_putOnTape : List (Nat × ab_E) := [(0, (.iconst 0, 2, 0, 0, 24)), (2, (.istore 0, 3, 2, 0, 0)), (3, (.iload 0, 4, 2, 0, 0)), (4, (.ifCond .lt 0, 7, 48, 0, 0)), (7, (.aload 0, 8, 0, 0, 0)), (8, (.getfield 0, 11, 7, 3, 0)), (11, (.aload 0, 12, 0, 0, 0)), (12, (.getfield 0, 15, 7, 4, 3)), (15, (.arraylength, 16, 0, 0, 0)), (16, (.if_icmp .ge 0, 19, 42, 0, 0)), (19, (.aload 0, 20, 0, 0, 0)), (20, (.getfield 0, 23, 7, 4, 3)), (23, (.aload 0, 24, 0, 0, 0)), (24, (.getfield 0, 27, 7, 3, 0)), (27, (.iload 0, 28, 1, 0, 0)), (28, (.iload 0, 29, 2, 0, 0)), (29, (.iushr, 30, 0, 0, 0)), (30, (.i2b, 31, 0, 0, 0)), (31, (.bastore, 32, 0, 0, 0)), (32, (.aload 0, 33, 0, 0, 0)), (33, (.dup, 34, 0, 0, 0)), (34, (.getfield 0, 37, 7, 3, 0)), (37, (.iconst 0, 38, 0, 0, 1)), (38, (.iadd, 39, 0, 0, 0)), (39, (.putfield 0, 42, 7, 3, 0)), (42, (.iinc 0 0, 45, 2, 0, -8)), (45, (.goto 0, 48, 3, 0, 0)), (48, (.return_, 49, 0, 0, 0))]
def cd_Reader_readText : List (Nat × ab_E) := [(0, (.aload 0, 1, 0, 0, 0)), (1, (.iload 0, 2, 1, 0, 0)), (2, (.aload 0, 3, 0, 0, 0)), (3, (.getfield 0, 6, 7, 4, 3)), (6, (.arraylength, 7, 0, 0, 0)), (7, (.invokestatic 0, 10, 294, 2, 1)), (10, (.putfield 0, 13, 7, 5, 0)), (13, (.aload 0, 14, 0, 0, 0)), (14, (.iconst 0, 15, 0, 0, 0)), (15, (.putfield 0, 18, 7, 3, 0)), (18, (.aload 0, 19, 0, 0, 0)), (19, (.iconst 0, 20, 0, 0, 0)), (20, (.putfield 0, 23, 7, 6, 0)), (23, (.aload 0, 24, 0, 0, 0)), (24, (.iconst 0, 25, 0, 0, 0)), (25, (.putfield 0, 28, 7, 1, 0)), (28, (.aload 0, 29, 0, 0, 0)), (29, (.iconst 0, 30, 0, 0, -1)), (30, (.putfield 0, 33, 7, 2, 0)), (33, (.aload 0, 34, 0, 0, 0)), (34, (.getfield 0, 37, 7, 0, 3)), (37, (.invokevirtual 5, 40, 233, 1, 0)), (40, (.aload 0, 41, 0, 0, 0)), (41, (.invokevirtual 7, 44, 274, 1, 0)), (44, (.iconst 0, 45, 0, 0, 0)), (45, (.istore 0, 46, 2, 0, 0)), (46, (.iload 0, 47, 2, 0, 0)), (47, (.aload 0, 48, 0, 0, 0)), (48, (.getfield 0, 51, 7, 5, 0)), (51, (.if_icmp .ge 0, 54, 93, 0, 0)), (54, (.aload 0, 55, 0, 0, 0)), (55, (.getfield 0, 58, 7, 8, 0)), (58, (.ifCond .eq 0, 61, 93, 0, 0)), (61, (.aload 0, 62, 0, 0, 0)), (62, (.invokevirtual 7, 65, 263, 1, 1)), (65, (.ifCond .ne 0, 68, 70, 0, 0)), (68, (.iconst 0, 69, 0, 0, 0)), (69, (.ireturn, 70, 1, 0, 0)), (70, (.aload 0, 71, 0, 0, 0)), (71, (.getfield 0, 74, 7, 0, 3)), (74, (.dup, 75, 0, 0, 0)), (75, (.getfield 0, 78, 5, 2, 0)), (78, (.iconst 0, 79, 0, 0, 1)), (79, (.iadd, 80, 0, 0, 0)), (80, (.putfield 0, 83, 5, 2, 0)), (83, (.aload 0, 84, 0, 0, 0)), (84, (.invokevirtual 7, 87, 274, 1, 0)), (87, (.iinc 0 0, 90, 2, 0, 1)), (90, (.goto 0, 93, 46, 0, 0)), (93, (.iconst 0, 94, 0, 0, 1)), (94, (.ireturn, 95, 1, 0, 0))]
def cd_Reader_fail : List (Nat × ab_E) := [(0, (.aload 0, 1, 0, 0, 0)), (1, (.iload 0, 2, 1, 0, 0)), (2, (.putfield 0, 5, 7, 1, 0)), (5, (.aload 0, 6, 0, 0, 0)), (6, (.aload 0, 7, 0, 0, 0)), (7, (.getfield 0, 10, 7, 7, 0)), (10, (.putfield 0, 13, 7, 2, 0)), (13, (.iconst 0, 14, 0, 0, 0)), (14, (.ireturn, 15, 1, 0, 0))]
def cd_Reader_readLine : List (Nat × ab_E) := [(0, (.aload 0, 1, 0, 0, 0)), (1, (.getfield 0, 4, 7, 8, 0)), (4, (.iconst 0, 5, 0, 0, 4)), (5, (.if_icmp .ne 0, 8, 14, 0, 0)), (8, (.aload 0, 9, 0, 0, 0)), (9, (.iconst 0, 10, 0, 0, 1)), (10, (.invokevirtual 7, 13, 262, 2, 1)), (13, (.ireturn, 14, 1, 0, 0)), (14, (.aload 0, 15, 0, 0, 0)), (15, (.invokevirtual 7, 18, 264, 1, 1)), (18, (.istore 0, 19, 1, 0, 0)), (19, (.iload 0, 20, 1, 0, 0)), (20, (.iconst 0, 21, 0, 0, -1)), (21, (.if_icmp .eq 0, 24, 38, 0, 0)), (24, (.iload 0, 25, 1, 0, 0)), (25, (.ifCond .eq 0, 28, 44, 0, 0)), (28, (.aload 0, 29, 0, 0, 0)), (29, (.getfield 0, 32, 7, 0, 3)), (32, (.getfield 0, 35, 5, 0, 0)), (35, (.ifCond .ne 0, 38, 44, 0, 0)), (38, (.aload 0, 39, 0, 0, 0)), (39, (.iconst 0, 40, 0, 0, 2)), (40, (.invokevirtual 7, 43, 262, 2, 1)), (43, (.ireturn, 44, 1, 0, 0)), (44, (.iload 0, 45, 1, 0, 0)), (45, (.lookupswitch 0 #[(0, 80), (1, 85), (2, 90), (3, 90), (4, 105)], 80, 110, 0, 0)), (80, (.aload 0, 81, 0, 0, 0)), (81, (.invokevirtual 7, 84, 265, 1, 1)), (84, (.ireturn, 85, 1, 0, 0)), (85, (.aload 0, 86, 0, 0, 0)), (86, (.invokevirtual 7, 89, 266, 1, 1)), (89, (.ireturn, 90, 1, 0, 0)), (90, (.aload 0, 91, 0, 0, 0)), (91, (.iload 0, 92, 1, 0, 0)), (92, (.iconst 0, 93, 0, 0, 3)), (93, (.if_icmp .ne 0, 96, 100, 0, 0)), (96, (.iconst 0, 97, 0, 0, 1)), (97, (.goto 0, 100, 101, 0, 0)), (100, (.iconst 0, 101, 0, 0, 0)), (101, (.invokevirtual 7, 104, 267, 2, 1)), (104, (.ireturn, 105, 1, 0, 0)), (105, (.aload 0, 106, 0, 0, 0)), (106, (.invokevirtual 7, 109, 268, 1, 1)), (109, (.ireturn, 110, 1, 0, 0)), (110, (.aload 0, 111, 0, 0, 0)), (111, (.invokevirtual 7, 114, 269, 1, 1)), (114, (.ireturn, 115, 1, 0, 0))]
def cd_Reader_lineHere : List (Nat × ab_E) := [(0, (.aload 0, 1, 0, 0, 0)), (1, (.d2i, 3, 1, 0, 0)), (3, (.invokevirtual 7, 6, 276, 2, 1)), (6, (.ifCond .eq 0, 9, 11, 0, 0)), (9, (.iconst 0, 10, 0, 0, 0)), (10, (.ireturn, 11, 0, 0, 0)), (11, (.aload 0, 12, 0, 0, 0)), (12, (.d2i, 14, 2, 0, 0)), (14, (.invokevirtual 7, 17, 276, 2, 1)), (17, (.ifCond .eq 0, 20, 22, 0, 0)), (20, (.iconst 0, 21, 0, 0, 1)), (21, (.ireturn, 22, 0, 0, 0)), (22, (.aload 0, 23, 0, 0, 0)), (23, (.d2i, 25, 3, 0, 0)), (25, (.invokevirtual 7, 28, 276, 2, 1)), (28, (.ifCond .eq 0, 31, 33, 0, 0)), (31, (.iconst 0, 32, 0, 0, 2)), (32, (.ireturn, 33, 0, 0, 0)), (33, (.aload 0, 34, 0, 0, 0)), (34, (.d2i, 36, 4, 0, 0)), (36, (.invokevirtual 7, 39, 276, 2, 1)), (39, (.ifCond .eq 0, 42, 44, 0, 0)), (42, (.iconst 0, 43, 0, 0, 3)), (43, (.ireturn, 44, 0, 0, 0)), (44, (.aload 0, 45, 0, 0, 0)), (45, (.d2i, 47, 5, 0, 0)), (47, (.invokevirtual 7, 50, 276, 2, 1)), (50, (.ifCond .eq 0, 53, 55, 0, 0)), (53, (.iconst 0, 54, 0, 0, 4)), (54, (.ireturn, 55, 0, 0, 0)), (55, (.aload 0, 56, 0, 0, 0)), (56, (.d2i, 58, 6, 0, 0)), (58, (.invokevirtual 7, 61, 276, 2, 1)), (61, (.ifCond .eq 0, 64, 68, 0, 0)), (64, (.iconst 0, 65, 0, 0, 5)), (65, (.goto 0, 68, 69, 0, 0)), (68, (.iconst 0, 69, 0, 0, -1)), (69, (.ireturn, 70, 0, 0, 0))]
def cd_Reader_readThings : List (Nat × ab_E) := [(0, (.aload 0, 1, 0, 0, 0)), (1, (.getfield 0, 4, 7, 0, 3)), (4, (.getfield 0, 7, 5, 0, 0)), (7, (.ifCond .le 0, 10, 16, 0, 0)), (10, (.aload 0, 11, 0, 0, 0)), (11, (.iconst 0, 12, 0, 0, 4)), (12, (.invokevirtual 7, 15, 262, 2, 1)), (15, (.ireturn, 16, 1, 0, 0)), (16, (.aload 0, 17, 0, 0, 0)), (17, (.iconst 0, 18, 0, 0, 1)), (18, (.iconst 0, 20, 0, 0, 16)), (20, (.iconst 0, 21, 0, 0, -1)), (21, (.invokevirtual 7, 24, 271, 4, 1)), (24, (.ifCond .ne 0, 27, 29, 0, 0)), (27, (.iconst 0, 28, 0, 0, 0)), (28, (.ireturn, 29, 1, 0, 0)), (29, (.aload 0, 30, 0, 0, 0)), (30, (.getfield 0, 33, 7, 0, 3)), (33, (.aload 0, 34, 0, 0, 0)), (34, (.getfield 0, 37, 7, 9, 0)), (37, (.putfield 0, 40, 5, 0, 0)), (40, (.aload 0, 41, 0, 0, 0)), (41, (.invokevirtual 7, 44, 273, 1, 1)), (44, (.ireturn, 45, 1, 0, 0))]
def cd_Reader_readMind : List (Nat × ab_E) := [(0, (.aload 0, 1, 0, 0, 0)), (1, (.iconst 0, 2, 0, 0, 1)), (2, (.iconst 0, 4, 0, 0, 9)), (4, (.iconst 0, 5, 0, 0, -1)), (5, (.invokevirtual 7, 8, 271, 4, 1)), (8, (.ifCond .ne 0, 11, 13, 0, 0)), (11, (.iconst 0, 12, 0, 0, 0)), (12, (.ireturn, 13, 1, 0, 0)), (13, (.aload 0, 14, 0, 0, 0)), (14, (.getfield 0, 17, 7, 0, 3)), (17, (.aload 0, 18, 0, 0, 0)), (18, (.getfield 0, 21, 7, 9, 0)), (21, (.putfield 0, 24, 5, 1, 0)), (24, (.aload 0, 25, 0, 0, 0)), (25, (.invokevirtual 7, 28, 273, 1, 1)), (28, (.ireturn, 29, 1, 0, 0))]
def cd_Reader_readPair : List (Nat × ab_E) := [(0, (.aload 0, 1, 0, 0, 0)), (1, (.iconst 0, 2, 0, 0, -1)), (2, (.invokevirtual 7, 5, 270, 2, 1)), (5, (.ifCond .ne 0, 8, 10, 0, 0)), (8, (.iconst 0, 9, 0, 0, 0)), (9, (.ireturn, 10, 1, 0, 0)), (10, (.aload 0, 11, 0, 0, 0)), (11, (.getfield 0, 14, 7, 9, 0)), (14, (.istore 0, 15, 2, 0, 0)), (15, (.aload 0, 16, 0, 0, 0)), (16, (.iload 0, 17, 2, 0, 0)), (17, (.invokevirtual 7, 20, 270, 2, 1)), (20, (.ifCond .ne 0, 23, 25, 0, 0)), (23, (.iconst 0, 24, 0, 0, 0)), (24, (.ireturn, 25, 1, 0, 0)), (25, (.iload 0, 26, 1, 0, 0)), (26, (.ifCond .eq 0, 29, 68, 0, 0)), (29, (.aload 0, 30, 0, 0, 0)), (30, (.getfield 0, 33, 7, 0, 3)), (33, (.getfield 0, 36, 5, 5, 3)), (36, (.iload 0, 37, 2, 0, 0)), (37, (.dup2, 38, 0, 0, 0)), (38, (.iaload, 39, 0, 0, 0)), (39, (.iconst 0, 40, 0, 0, 1)), (40, (.aload 0, 41, 0, 0, 0)), (41, (.getfield 0, 44, 7, 9, 0)), (44, (.ishl, 45, 0, 0, 0)), (45, (.ior, 46, 0, 0, 0)), (46, (.iastore, 47, 0, 0, 0)), (47, (.aload 0, 48, 0, 0, 0)), (48, (.getfield 0, 51, 7, 0, 3)), (51, (.getfield 0, 54, 5, 5, 3)), (54, (.aload 0, 55, 0, 0, 0)), (55, (.getfield 0, 58, 7, 9, 0)), (58, (.dup2, 59, 0, 0, 0)), (59, (.iaload, 60, 0, 0, 0)), (60, (.iconst 0, 61, 0, 0, 1)), (61, (.iload 0, 62, 2, 0, 0)), (62, (.ishl, 63, 0, 0, 0)), (63, (.ior, 64, 0, 0, 0)), (64, (.iastore, 65, 0, 0, 0)), (65, (.goto 0, 68, 86, 0, 0)), (68, (.aload 0, 69, 0, 0, 0)), (69, (.getfield 0, 72, 7, 0, 3)), (72, (.getfield 0, 75, 5, 4, 3)), (75, (.iload 0, 76, 2, 0, 0)), (76, (.dup2, 77, 0, 0, 0)), (77, (.iaload, 78, 0, 0, 0)), (78, (.iconst 0, 79, 0, 0, 1)), (79, (.aload 0, 80, 0, 0, 0)), (80, (.getfield 0, 83, 7, 9, 0)), (83, (.ishl, 84, 0, 0, 0)), (84, (.ior, 85, 0, 0, 0)), (85, (.iastore, 86, 0, 0, 0)), (86, (.aload 0, 87, 0, 0, 0)), (87, (.invokevirtual 7, 90, 273, 1, 1)), (90, (.ireturn, 91, 1, 0, 0))]
def cd_Reader_readWorth : List (Nat × ab_E) := [(0, (.aload 0, 1, 0, 0, 0)), (1, (.iconst 0, 2, 0, 0, -1)), (2, (.invokevirtual 7, 5, 270, 2, 1)), (5, (.ifCond .ne 0, 8, 10, 0, 0)), (8, (.iconst 0, 9, 0, 0, 0)), (9, (.ireturn, 10, 1, 0, 0)), (10, (.aload 0, 11, 0, 0, 0)), (11, (.getfield 0, 14, 7, 9, 0)), (14, (.istore 0, 15, 1, 0, 0)), (15, (.aload 0, 16, 0, 0, 0)), (16, (.iconst 0, 17, 0, 0, 0)), (17, (.iconst 0, 19, 0, 0, 99)), (19, (.iconst 0, 20, 0, 0, -1)), (20, (.invokevirtual 7, 23, 271, 4, 1)), (23, (.ifCond .ne 0, 26, 28, 0, 0)), (26, (.iconst 0, 27, 0, 0, 0)), (27, (.ireturn, 28, 1, 0, 0)), (28, (.aload 0, 29, 0, 0, 0)), (29, (.getfield 0, 32, 7, 0, 3)), (32, (.getfield 0, 35, 5, 6, 3)), (35, (.iload 0, 36, 1, 0, 0)), (36, (.aload 0, 37, 0, 0, 0)), (37, (.getfield 0, 40, 7, 9, 0)), (40, (.iastore, 41, 0, 0, 0)), (41, (.aload 0, 42, 0, 0, 0)), (42, (.invokevirtual 7, 45, 273, 1, 1)), (45, (.ireturn, 46, 1, 0, 0))]
def cd_Reader_readInn : List (Nat × ab_E) := [(0, (.aload 0, 1, 0, 0, 0)), (1, (.getfield 0, 4, 7, 0, 3)), (4, (.getfield 0, 7, 5, 3, 0)), (7, (.iconst 0, 9, 0, 0, 10)), (9, (.if_icmp .lt 0, 12, 18, 0, 0)), (12, (.aload 0, 13, 0, 0, 0)), (13, (.iconst 0, 14, 0, 0, 4)), (14, (.invokevirtual 7, 17, 262, 2, 1)), (17, (.ireturn, 18, 1, 0, 0)), (18, (.aload 0, 19, 0, 0, 0)), (19, (.getfield 0, 22, 7, 0, 3)), (22, (.getfield 0, 25, 5, 3, 0)), (25, (.istore 0, 26, 1, 0, 0)), (26, (.aload 0, 27, 0, 0, 0)), (27, (.getfield 0, 30, 7, 0, 3)), (30, (.dup, 31, 0, 0, 0)), (31, (.getfield 0, 34, 5, 3, 0)), (34, (.iconst 0, 35, 0, 0, 1)), (35, (.iadd, 36, 0, 0, 0)), (36, (.putfield 0, 39, 5, 3, 0)), (39, (.iconst 0, 40, 0, 0, 0)), (40, (.istore 0, 41, 2, 0, 0)), (41, (.iload 0, 42, 2, 0, 0)), (42, (.iconst 0, 44, 0, 0, 9)), (44, (.if_icmp .gt 0, 47, 108, 0, 0)), (47, (.aload 0, 48, 0, 0, 0)), (48, (.invokevirtual 7, 51, 274, 1, 0)), (51, (.aload 0, 52, 0, 0, 0)), (52, (.getfield 0, 55, 7, 8, 0)), (55, (.iconst 0, 56, 0, 0, 3)), (56, (.if_icmp .ne 0, 59, 61, 0, 0)), (59, (.iconst 0, 60, 0, 0, 1)), (60, (.ireturn, 61, 1, 0, 0)), (61, (.aload 0, 62, 0, 0, 0)), (62, (.iconst 0, 63, 0, 0, 0)), (63, (.aload 0, 64, 0, 0, 0)), (64, (.getfield 0, 67, 7, 0, 3)), (67, (.getfield 0, 70, 5, 0, 0)), (70, (.iconst 0, 71, 0, 0, 1)), (71, (.isub, 72, 0, 0, 0)), (72, (.iconst 0, 73, 0, 0, -1)), (73, (.invokevirtual 7, 76, 272, 4, 1)), (76, (.ifCond .ne 0, 79, 81, 0, 0)), (79, (.iconst 0, 80, 0, 0, 0)), (80, (.ireturn, 81, 1, 0, 0)), (81, (.aload 0, 82, 0, 0, 0)), (82, (.getfield 0, 85, 7, 0, 3)), (85, (.iload 0, 86, 1, 0, 0)), (86, (.aload 0, 87, 0, 0, 0)), (87, (.getfield 0, 90, 7, 9, 0)), (90, (.invokevirtual 5, 93, 240, 3, 1)), (93, (.ifCond .ne 0, 96, 102, 0, 0)), (96, (.aload 0, 97, 0, 0, 0)), (97, (.iconst 0, 98, 0, 0, 4)), (98, (.invokevirtual 7, 101, 262, 2, 1)), (101, (.ireturn, 102, 1, 0, 0)), (102, (.iinc 0 0, 105, 2, 0, 1)), (105, (.goto 0, 108, 41, 0, 0)), (108, (.iconst 0, 109, 0, 0, 0)), (109, (.ireturn, 110, 1, 0, 0))]
def cd_Reader_readThing : List (Nat × ab_E) := [(0, (.aload 0, 1, 0, 0, 0)), (1, (.iconst 0, 2, 0, 0, 0)), (2, (.aload 0, 3, 0, 0, 0)), (3, (.getfield 0, 6, 7, 0, 3)), (6, (.getfield 0, 9, 5, 0, 0)), (9, (.iconst 0, 10, 0, 0, 1)), (10, (.isub, 11, 0, 0, 0)), (11, (.iload 0, 12, 1, 0, 0)), (12, (.invokevirtual 7, 15, 271, 4, 1)), (15, (.ireturn, 16, 1, 0, 0))]
def cd_Reader_readNumber : List (Nat × ab_E) := [(0, (.aload 0, 1, 0, 0, 0)), (1, (.invokevirtual 7, 4, 274, 1, 0)), (4, (.aload 0, 5, 0, 0, 0)), (5, (.iload 0, 6, 1, 0, 0)), (6, (.iload 0, 7, 2, 0, 0)), (7, (.iload 0, 8, 3, 0, 0)), (8, (.invokevirtual 7, 11, 272, 4, 1)), (11, (.ireturn, 12, 1, 0, 0))]
def cd_Reader_numberStands : List (Nat × ab_E) := [(0, (.aload 0, 1, 0, 0, 0)), (1, (.getfield 0, 4, 7, 8, 0)), (4, (.iconst 0, 5, 0, 0, 4)), (5, (.if_icmp .ne 0, 8, 14, 0, 0)), (8, (.aload 0, 9, 0, 0, 0)), (9, (.iconst 0, 10, 0, 0, 1)), (10, (.invokevirtual 7, 13, 262, 2, 1)), (13, (.ireturn, 14, 1, 0, 0)), (14, (.aload 0, 15, 0, 0, 0)), (15, (.getfield 0, 18, 7, 8, 0)), (18, (.iconst 0, 19, 0, 0, 2)), (19, (.if_icmp .eq 0, 22, 28, 0, 0)), (22, (.aload 0, 23, 0, 0, 0)), (23, (.iconst 0, 24, 0, 0, 2)), (24, (.invokevirtual 7, 27, 262, 2, 1)), (27, (.ireturn, 28, 1, 0, 0)), (28, (.aload 0, 29, 0, 0, 0)), (29, (.getfield 0, 32, 7, 9, 0)), (32, (.iload 0, 33, 1, 0, 0)), (33, (.if_icmp .lt 0, 36, 52, 0, 0)), (36, (.aload 0, 37, 0, 0, 0)), (37, (.getfield 0, 40, 7, 9, 0)), (40, (.iload 0, 41, 2, 0, 0)), (41, (.if_icmp .gt 0, 44, 52, 0, 0)), (44, (.aload 0, 45, 0, 0, 0)), (45, (.getfield 0, 48, 7, 9, 0)), (48, (.iload 0, 49, 3, 0, 0)), (49, (.if_icmp .ne 0, 52, 58, 0, 0)), (52, (.aload 0, 53, 0, 0, 0)), (53, (.iconst 0, 54, 0, 0, 3)), (54, (.invokevirtual 7, 57, 262, 2, 1)), (57, (.ireturn, 58, 1, 0, 0)), (58, (.iconst 0, 59, 0, 0, 1)), (59, (.ireturn, 60, 1, 0, 0))]
def cd_Reader_readSign : List (Nat × ab_E) := [(0, (.aload 0, 1, 0, 0, 0)), (1, (.invokevirtual 7, 4, 274, 1, 0)), (4, (.aload 0, 5, 0, 0, 0)), (5, (.getfield 0, 8, 7, 8, 0)), (8, (.iconst 0, 9, 0, 0, 4)), (9, (.if_icmp .ne 0, 12, 18, 0, 0)), (12, (.aload 0, 13, 0, 0, 0)), (13, (.iconst 0, 14, 0, 0, 1)), (14, (.invokevirtual 7, 17, 262, 2, 1)), (17, (.ireturn, 18, 1, 0, 0)), (18, (.aload 0, 19, 0, 0, 0)), (19, (.getfield 0, 22, 7, 8, 0)), (22, (.iconst 0, 23, 0, 0, 3)), (23, (.if_icmp .eq 0, 26, 34, 0, 0)), (26, (.aload 0, 27, 0, 0, 0)), (27, (.iconst 0, 28, 0, 0, 2)), (28, (.invokevirtual 7, 31, 262, 2, 1)), (31, (.ifCond .eq 0, 34, 38, 0, 0)), (34, (.iconst 0, 35, 0, 0, 1)), (35, (.goto 0, 38, 39, 0, 0)), (38, (.iconst 0, 39, 0, 0, 0)), (39, (.ireturn, 40, 1, 0, 0))]
def cd_Reader_nextToken : List (Nat × ab_E) := [(0, (.aload 0, 1, 0, 0, 0)), (1, (.getfield 0, 4, 7, 6, 0)), (4, (.aload 0, 5, 0, 0, 0)), (5, (.getfield 0, 8, 7, 5, 0)), (8, (.if_icmp .ge 0, 11, 52, 0, 0)), (11, (.aload 0, 12, 0, 0, 0)), (12, (.getfield 0, 15, 7, 4, 3)), (15, (.aload 0, 16, 0, 0, 0)), (16, (.getfield 0, 19, 7, 6, 0)), (19, (.baload, 20, 0, 0, 0)), (20, (.iconst 0, 22, 0, 0, 10)), (22, (.if_icmp .eq 0, 25, 39, 0, 0)), (25, (.aload 0, 26, 0, 0, 0)), (26, (.getfield 0, 29, 7, 4, 3)), (29, (.aload 0, 30, 0, 0, 0)), (30, (.getfield 0, 33, 7, 6, 0)), (33, (.baload, 34, 0, 0, 0)), (34, (.iconst 0, 36, 0, 0, 32)), (36, (.if_icmp .ne 0, 39, 52, 0, 0)), (39, (.aload 0, 40, 0, 0, 0)), (40, (.dup, 41, 0, 0, 0)), (41, (.getfield 0, 44, 7, 6, 0)), (44, (.iconst 0, 45, 0, 0, 1)), (45, (.iadd, 46, 0, 0, 0)), (46, (.putfield 0, 49, 7, 6, 0)), (49, (.goto 0, 52, 0, 0, 0)), (52, (.aload 0, 53, 0, 0, 0)), (53, (.aload 0, 54, 0, 0, 0)), (54, (.getfield 0, 57, 7, 6, 0)), (57, (.putfield 0, 60, 7, 7, 0)), (60, (.aload 0, 61, 0, 0, 0)), (61, (.getfield 0, 64, 7, 6, 0)), (64, (.aload 0, 65, 0, 0, 0)), (65, (.getfield 0, 68, 7, 5, 0)), (68, (.if_icmp .lt 0, 71, 79, 0, 0)), (71, (.aload 0, 72, 0, 0, 0)), (72, (.iconst 0, 73, 0, 0, 0)), (73, (.putfield 0, 76, 7, 8, 0)), (76, (.goto 0, 79, 193, 0, 0)), (79, (.aload 0, 80, 0, 0, 0)), (80, (.getfield 0, 83, 7, 4, 3)), (83, (.aload 0, 84, 0, 0, 0)), (84, (.getfield 0, 87, 7, 6, 0)), (87, (.baload, 88, 0, 0, 0)), (88, (.invokestatic 0, 91, 277, 1, 1)), (91, (.ifCond .eq 0, 94, 138, 0, 0)), (94, (.aload 0, 95, 0, 0, 0)), (95, (.iconst 0, 96, 0, 0, 1)), (96, (.putfield 0, 99, 7, 8, 0)), (99, (.aload 0, 100, 0, 0, 0)), (100, (.getfield 0, 103, 7, 6, 0)), (103, (.aload 0, 104, 0, 0, 0)), (104, (.getfield 0, 107, 7, 5, 0)), (107, (.if_icmp .ge 0, 110, 193, 0, 0)), (110, (.aload 0, 111, 0, 0, 0)), (111, (.getfield 0, 114, 7, 4, 3)), (114, (.aload 0, 115, 0, 0, 0)), (115, (.getfield 0, 118, 7, 6, 0)), (118, (.baload, 119, 0, 0, 0)), (119, (.invokestatic 0, 122, 277, 1, 1)), (122, (.ifCond .eq 0, 125, 193, 0, 0)), (125, (.aload 0, 126, 0, 0, 0)), (126, (.dup, 127, 0, 0, 0)), (127, (.getfield 0, 130, 7, 6, 0)), (130, (.iconst 0, 131, 0, 0, 1)), (131, (.iadd, 132, 0, 0, 0)), (132, (.putfield 0, 135, 7, 6, 0)), (135, (.goto 0, 138, 99, 0, 0)), (138, (.aload 0, 139, 0, 0, 0)), (139, (.getfield 0, 142, 7, 4, 3)), (142, (.aload 0, 143, 0, 0, 0)), (143, (.getfield 0, 146, 7, 6, 0)), (146, (.baload, 147, 0, 0, 0)), (147, (.invokestatic 0, 150, 278, 1, 1)), (150, (.ifCond .eq 0, 153, 160, 0, 0)), (153, (.aload 0, 154, 0, 0, 0)), (154, (.invokevirtual 7, 157, 275, 1, 0)), (157, (.goto 0, 160, 193, 0, 0)), (160, (.aload 0, 161, 0, 0, 0)), (161, (.aload 0, 162, 0, 0, 0)), (162, (.getfield 0, 165, 7, 4, 3)), (165, (.aload 0, 166, 0, 0, 0)), (166, (.getfield 0, 169, 7, 6, 0)), (169, (.baload, 170, 0, 0, 0)), (170, (.iconst 0, 172, 0, 0, 59)), (172, (.if_icmp .ne 0, 175, 179, 0, 0)), (175, (.iconst 0, 176, 0, 0, 3)), (176, (.goto 0, 179, 180, 0, 0)), (179, (.iconst 0, 180, 0, 0, 4)), (180, (.putfield 0, 183, 7, 8, 0)), (183, (.aload 0, 184, 0, 0, 0)), (184, (.dup, 185, 0, 0, 0)), (185, (.getfield 0, 188, 7, 6, 0)), (188, (.iconst 0, 189, 0, 0, 1)), (189, (.iadd, 190, 0, 0, 0)), (190, (.putfield 0, 193, 7, 6, 0)), (193, (.return_, 194, 0, 0, 0))]
def cd_Reader_takeDigits : List (Nat × ab_E) := [(0, (.aload 0, 1, 0, 0, 0)), (1, (.iconst 0, 2, 0, 0, 0)), (2, (.putfield 0, 5, 7, 9, 0)), (5, (.aload 0, 6, 0, 0, 0)), (6, (.getfield 0, 9, 7, 6, 0)), (9, (.aload 0, 10, 0, 0, 0)), (10, (.getfield 0, 13, 7, 5, 0)), (13, (.if_icmp .ge 0, 16, 81, 0, 0)), (16, (.aload 0, 17, 0, 0, 0)), (17, (.getfield 0, 20, 7, 4, 3)), (20, (.aload 0, 21, 0, 0, 0)), (21, (.getfield 0, 24, 7, 6, 0)), (24, (.baload, 25, 0, 0, 0)), (25, (.invokestatic 0, 28, 278, 1, 1)), (28, (.ifCond .eq 0, 31, 81, 0, 0)), (31, (.aload 0, 32, 0, 0, 0)), (32, (.getfield 0, 35, 7, 6, 0)), (35, (.aload 0, 36, 0, 0, 0)), (36, (.getfield 0, 39, 7, 7, 0)), (39, (.isub, 40, 0, 0, 0)), (40, (.iconst 0, 41, 0, 0, 3)), (41, (.if_icmp .ge 0, 44, 68, 0, 0)), (44, (.aload 0, 45, 0, 0, 0)), (45, (.iconst 0, 47, 0, 0, 10)), (47, (.aload 0, 48, 0, 0, 0)), (48, (.getfield 0, 51, 7, 9, 0)), (51, (.imul, 52, 0, 0, 0)), (52, (.aload 0, 53, 0, 0, 0)), (53, (.getfield 0, 56, 7, 4, 3)), (56, (.aload 0, 57, 0, 0, 0)), (57, (.getfield 0, 60, 7, 6, 0)), (60, (.baload, 61, 0, 0, 0)), (61, (.iadd, 62, 0, 0, 0)), (62, (.iconst 0, 64, 0, 0, 48)), (64, (.isub, 65, 0, 0, 0)), (65, (.putfield 0, 68, 7, 9, 0)), (68, (.aload 0, 69, 0, 0, 0)), (69, (.dup, 70, 0, 0, 0)), (70, (.getfield 0, 73, 7, 6, 0)), (73, (.iconst 0, 74, 0, 0, 1)), (74, (.iadd, 75, 0, 0, 0)), (75, (.putfield 0, 78, 7, 6, 0)), (78, (.goto 0, 81, 5, 0, 0)), (81, (.aload 0, 82, 0, 0, 0)), (82, (.aload 0, 83, 0, 0, 0)), (83, (.getfield 0, 86, 7, 6, 0)), (86, (.aload 0, 87, 0, 0, 0)), (87, (.getfield 0, 90, 7, 7, 0)), (90, (.isub, 91, 0, 0, 0)), (91, (.iconst 0, 92, 0, 0, 3)), (92, (.if_icmp .gt 0, 95, 99, 0, 0)), (95, (.iconst 0, 96, 0, 0, 2)), (96, (.goto 0, 99, 100, 0, 0)), (99, (.iconst 0, 100, 0, 0, 4)), (100, (.putfield 0, 103, 7, 8, 0)), (103, (.return_, 104, 0, 0, 0))]
def cd_Reader_isWord : List (Nat × ab_E) := [(0, (.aload 0, 1, 0, 0, 0)), (1, (.getfield 0, 4, 7, 8, 0)), (4, (.iconst 0, 5, 0, 0, 1)), (5, (.if_icmp .ne 0, 8, 24, 0, 0)), (8, (.aload 0, 9, 0, 0, 0)), (9, (.getfield 0, 12, 7, 6, 0)), (12, (.aload 0, 13, 0, 0, 0)), (13, (.getfield 0, 16, 7, 7, 0)), (16, (.isub, 17, 0, 0, 0)), (17, (.aload 0, 18, 1, 0, 0)), (18, (.castore, 21, 0, 0, 0)), (21, (.if_icmp .eq 0, 24, 26, 0, 0)), (24, (.iconst 0, 25, 0, 0, 0)), (25, (.ireturn, 26, 1, 0, 0)), (26, (.iconst 0, 27, 0, 0, 0)), (27, (.istore 0, 28, 2, 0, 0)), (28, (.iload 0, 29, 2, 0, 0)), (29, (.aload 0, 30, 1, 0, 0)), (30, (.castore, 33, 0, 0, 0)), (33, (.if_icmp .ge 0, 36, 63, 0, 0)), (36, (.aload 0, 37, 0, 0, 0)), (37, (.getfield 0, 40, 7, 4, 3)), (40, (.aload 0, 41, 0, 0, 0)), (41, (.getfield 0, 44, 7, 7, 0)), (44, (.iload 0, 45, 2, 0, 0)), (45, (.iadd, 46, 0, 0, 0)), (46, (.baload, 47, 0, 0, 0)), (47, (.aload 0, 48, 1, 0, 0)), (48, (.iload 0, 49, 2, 0, 0)), (49, (.d2f, 52, 0, 0, 0)), (52, (.if_icmp .eq 0, 55, 57, 0, 0)), (55, (.iconst 0, 56, 0, 0, 0)), (56, (.ireturn, 57, 1, 0, 0)), (57, (.iinc 0 0, 60, 2, 0, 1)), (60, (.goto 0, 63, 28, 0, 0)), (63, (.iconst 0, 64, 0, 0, 1)), (64, (.ireturn, 65, 1, 0, 0))]
def cd_Reader_isLetter : List (Nat × ab_E) := [(0, (.iload 0, 1, 0, 0, 0)), (1, (.iconst 0, 3, 0, 0, 97)), (3, (.if_icmp .lt 0, 6, 16, 0, 0)), (6, (.iload 0, 7, 0, 0, 0)), (7, (.iconst 0, 9, 0, 0, 122)), (9, (.if_icmp .gt 0, 12, 16, 0, 0)), (12, (.iconst 0, 13, 0, 0, 1)), (13, (.goto 0, 16, 17, 0, 0)), (16, (.iconst 0, 17, 0, 0, 0)), (17, (.ireturn, 18, 1, 0, 0))]
def cd_Reader_isDigit : List (Nat × ab_E) := [(0, (.iload 0, 1, 0, 0, 0)), (1, (.iconst 0, 3, 0, 0, 48)), (3, (.if_icmp .lt 0, 6, 16, 0, 0)), (6, (.iload 0, 7, 0, 0, 0)), (7, (.iconst 0, 9, 0, 0, 57)), (9, (.if_icmp .gt 0, 12, 16, 0, 0)), (12, (.iconst 0, 13, 0, 0, 1)), (13, (.goto 0, 16, 17, 0, 0)), (16, (.iconst 0, 17, 0, 0, 0)), (17, (.ireturn, 18, 1, 0, 0))]
def cd_Row_init : List (Nat × ab_E) := [(0, (.aload 0, 1, 0, 0, 0)), (1, (.d2l, 4, 0, 0, 0)), (4, (.aload 0, 5, 0, 0, 0)), (5, (.iconst 0, 7, 0, 0, 40)), (7, (.newarray .int, 9, 62, 0, 0)), (9, (.putfield 0, 12, 8, 0, 3)), (12, (.return_, 13, 0, 0, 0))]
def cd_Row_begin : List (Nat × ab_E) := [(0, (.aload 0, 1, 0, 0, 0)), (1, (.iload 0, 2, 1, 0, 0)), (2, (.putfield 0, 5, 8, 3, 0)), (5, (.aload 0, 6, 0, 0, 0)), (6, (.iload 0, 7, 2, 0, 0)), (7, (.putfield 0, 10, 8, 1, 0)), (10, (.aload 0, 11, 0, 0, 0)), (11, (.iconst 0, 12, 0, 0, 1)), (12, (.putfield 0, 15, 8, 2, 1)), (15, (.aload 0, 16, 0, 0, 0)), (16, (.getfield 0, 19, 8, 0, 3)), (19, (.ldc2_w 0, 20, 0, 0, 0)), (20, (.invokestatic 0, 23, 296, 2, 0)), (23, (.return_, 24, 0, 0, 0))]
def cd_Row_put : List (Nat × ab_E) := [(0, (.aload 0, 1, 0, 0, 0)), (1, (.getfield 0, 4, 8, 0, 3)), (4, (.iload 0, 5, 1, 0, 0)), (5, (.aload 0, 6, 0, 0, 0)), (6, (.lload 0, 7, 2, 0, 0)), (7, (.invokevirtual 8, 10, 282, 2, 2)), (10, (.lastore, 11, 0, 0, 0)), (11, (.aload 0, 12, 0, 0, 0)), (12, (.getfield 0, 15, 8, 0, 3)), (15, (.iload 0, 16, 1, 0, 0)), (16, (.laload, 17, 0, 0, 0)), (17, (.lreturn, 18, 0, 0, 0))]
def cd_Row_cut : List (Nat × ab_E) := [(0, (.aload 0, 1, 0, 0, 0)), (1, (.getfield 0, 4, 8, 3, 0)), (4, (.lookupswitch 0 #[(0, 32), (1, 37), (2, 42)], 32, 46, 0, 0)), (32, (.lload 0, 33, 1, 0, 0)), (33, (.l2i, 34, 0, 0, 0)), (34, (.i2b, 35, 0, 0, 0)), (35, (.i2l, 36, 0, 0, 0)), (36, (.lreturn, 37, 0, 0, 0)), (37, (.lload 0, 38, 1, 0, 0)), (38, (.l2i, 39, 0, 0, 0)), (39, (.i2s, 40, 0, 0, 0)), (40, (.i2l, 41, 0, 0, 0)), (41, (.lreturn, 42, 0, 0, 0)), (42, (.lload 0, 43, 1, 0, 0)), (43, (.l2i, 44, 0, 0, 0)), (44, (.i2l, 45, 0, 0, 0)), (45, (.lreturn, 46, 0, 0, 0)), (46, (.lload 0, 47, 1, 0, 0)), (47, (.lreturn, 48, 0, 0, 0))]
def cd_Seeds_init : List (Nat × ab_E) := [(0, (.aload 0, 1, 0, 0, 0)), (1, (.d2l, 4, 0, 0, 0)), (4, (.aload 0, 5, 0, 0, 0)), (5, (.iconst 0, 7, 0, 0, 16)), (7, (.newarray .int, 9, 63, 0, 0)), (9, (.putfield 0, 12, 9, 0, 3)), (12, (.aload 0, 13, 0, 0, 0)), (13, (.iconst 0, 15, 0, 0, 16)), (15, (.newarray .int, 17, 64, 0, 0)), (17, (.putfield 0, 20, 9, 1, 3)), (20, (.aload 0, 21, 0, 0, 0)), (21, (.iconst 0, 23, 0, 0, 16)), (23, (.newarray .int, 25, 65, 0, 0)), (25, (.putfield 0, 28, 9, 2, 3)), (28, (.return_, 29, 0, 0, 0))]
def cd_Seeds_fewestFor : List (Nat × ab_E) := [(0, (.aload 0, 1, 0, 0, 0)), (1, (.aload 0, 2, 1, 0, 0)), (2, (.iload 0, 3, 2, 0, 0)), (3, (.invokevirtual 9, 6, 285, 3, 0)), (6, (.iconst 0, 7, 0, 0, 0)), (7, (.istore 0, 8, 3, 0, 0)), (8, (.iload 0, 9, 3, 0, 0)), (9, (.aload 0, 10, 1, 0, 0)), (10, (.getfield 0, 13, 5, 0, 0)), (13, (.if_icmp .ge 0, 16, 45, 0, 0)), (16, (.aload 0, 17, 0, 0, 0)), (17, (.aload 0, 18, 1, 0, 0)), (18, (.getfield 0, 21, 5, 0, 0)), (21, (.iconst 0, 22, 0, 0, 1)), (22, (.isub, 23, 0, 0, 0)), (23, (.iload 0, 24, 3, 0, 0)), (24, (.iload 0, 25, 2, 0, 0)), (25, (.invokevirtual 9, 28, 286, 4, 1)), (28, (.istore 0, 30, 4, 0, 0)), (30, (.iload 0, 32, 4, 0, 0)), (32, (.iconst 0, 33, 0, 0, -1)), (33, (.if_icmp .eq 0, 36, 39, 0, 0)), (36, (.iload 0, 38, 4, 0, 0)), (38, (.ireturn, 39, 0, 0, 0)), (39, (.iinc 0 0, 42, 3, 0, 1)), (42, (.goto 0, 45, 8, 0, 0)), (45, (.aload 0, 46, 1, 0, 0)), (46, (.invokevirtual 5, 49, 238, 1, 1)), (49, (.ireturn, 50, 0, 0, 0))]
def cd_Seeds_prepare : List (Nat × ab_E) := [(0, (.iconst 0, 1, 0, 0, 0)), (1, (.istore 0, 2, 3, 0, 0)), (2, (.iconst 0, 3, 0, 0, 0)), (3, (.istore 0, 5, 4, 0, 0)), (5, (.iconst 0, 6, 0, 0, 0)), (6, (.istore 0, 8, 5, 0, 0)), (8, (.iload 0, 10, 5, 0, 0)), (10, (.aload 0, 11, 1, 0, 0)), (11, (.getfield 0, 14, 5, 0, 0)), (14, (.if_icmp .ge 0, 17, 84, 0, 0)), (17, (.aload 0, 18, 0, 0, 0)), (18, (.getfield 0, 21, 9, 0, 3)), (21, (.iload 0, 23, 5, 0, 0)), (23, (.aload 0, 24, 1, 0, 0)), (24, (.iconst 0, 25, 0, 0, 1)), (25, (.iload 0, 27, 5, 0, 0)), (27, (.ishl, 28, 0, 0, 0)), (28, (.invokevirtual 5, 31, 244, 2, 1)), (31, (.iastore, 32, 0, 0, 0)), (32, (.iload 0, 33, 3, 0, 0)), (33, (.aload 0, 34, 0, 0, 0)), (34, (.getfield 0, 37, 9, 0, 3)), (37, (.iload 0, 39, 5, 0, 0)), (39, (.iaload, 40, 0, 0, 0)), (40, (.ior, 41, 0, 0, 0)), (41, (.istore 0, 42, 3, 0, 0)), (42, (.iload 0, 44, 4, 0, 0)), (44, (.aload 0, 45, 0, 0, 0)), (45, (.getfield 0, 48, 9, 0, 3)), (48, (.iload 0, 50, 5, 0, 0)), (50, (.iaload, 51, 0, 0, 0)), (51, (.iload 0, 52, 2, 0, 0)), (52, (.iand, 53, 0, 0, 0)), (53, (.invokestatic 0, 56, 291, 1, 1)), (56, (.invokestatic 0, 59, 293, 2, 1)), (59, (.istore 0, 61, 4, 0, 0)), (61, (.aload 0, 62, 0, 0, 0)), (62, (.getfield 0, 65, 9, 1, 3)), (65, (.iload 0, 67, 5, 0, 0)), (67, (.iload 0, 68, 3, 0, 0)), (68, (.iastore, 69, 0, 0, 0)), (69, (.aload 0, 70, 0, 0, 0)), (70, (.getfield 0, 73, 9, 2, 3)), (73, (.iload 0, 75, 5, 0, 0)), (75, (.iload 0, 77, 4, 0, 0)), (77, (.iastore, 78, 0, 0, 0)), (78, (.iinc 0 0, 81, 5, 0, 1)), (81, (.goto 0, 84, 8, 0, 0)), (84, (.return_, 85, 0, 0, 0))]
end
end
section
section
def cd_Seeds_leastSet : List (Nat × ab_E) := [(0, (.iload 0, 1, 3, 0, 0)), (1, (.ifCond .ne 0, 4, 6, 0, 0)), (4, (.iconst 0, 5, 0, 0, 0)), (5, (.ireturn, 6, 0, 0, 0)), (6, (.iload 0, 7, 1, 0, 0)), (7, (.ifCond .lt 0, 10, 38, 0, 0)), (10, (.iload 0, 11, 3, 0, 0)), (11, (.aload 0, 12, 0, 0, 0)), (12, (.getfield 0, 15, 9, 1, 3)), (15, (.iload 0, 16, 1, 0, 0)), (16, (.iaload, 17, 0, 0, 0)), (17, (.iconst 0, 18, 0, 0, -1)), (18, (.ixor, 19, 0, 0, 0)), (19, (.iand, 20, 0, 0, 0)), (20, (.ifCond .ne 0, 23, 38, 0, 0)), (23, (.iload 0, 24, 3, 0, 0)), (24, (.invokestatic 0, 27, 291, 1, 1)), (27, (.iload 0, 28, 2, 0, 0)), (28, (.aload 0, 29, 0, 0, 0)), (29, (.getfield 0, 32, 9, 2, 3)), (32, (.iload 0, 33, 1, 0, 0)), (33, (.iaload, 34, 0, 0, 0)), (34, (.imul, 35, 0, 0, 0)), (35, (.if_icmp .le 0, 38, 40, 0, 0)), (38, (.iconst 0, 39, 0, 0, -1)), (39, (.ireturn, 40, 0, 0, 0)), (40, (.aload 0, 41, 0, 0, 0)), (41, (.iload 0, 42, 1, 0, 0)), (42, (.iconst 0, 43, 0, 0, 1)), (43, (.isub, 44, 0, 0, 0)), (44, (.iload 0, 45, 2, 0, 0)), (45, (.iload 0, 46, 3, 0, 0)), (46, (.invokevirtual 9, 49, 286, 4, 1)), (49, (.istore 0, 51, 4, 0, 0)), (51, (.iload 0, 53, 4, 0, 0)), (53, (.iconst 0, 54, 0, 0, -1)), (54, (.if_icmp .eq 0, 57, 60, 0, 0)), (57, (.iload 0, 59, 4, 0, 0)), (59, (.ireturn, 60, 0, 0, 0)), (60, (.aload 0, 61, 0, 0, 0)), (61, (.iload 0, 62, 1, 0, 0)), (62, (.iconst 0, 63, 0, 0, 1)), (63, (.isub, 64, 0, 0, 0)), (64, (.iload 0, 65, 2, 0, 0)), (65, (.iconst 0, 66, 0, 0, 1)), (66, (.isub, 67, 0, 0, 0)), (67, (.iload 0, 68, 3, 0, 0)), (68, (.aload 0, 69, 0, 0, 0)), (69, (.getfield 0, 72, 9, 0, 3)), (72, (.iload 0, 73, 1, 0, 0)), (73, (.iaload, 74, 0, 0, 0)), (74, (.iconst 0, 75, 0, 0, -1)), (75, (.ixor, 76, 0, 0, 0)), (76, (.iand, 77, 0, 0, 0)), (77, (.invokevirtual 9, 80, 286, 4, 1)), (80, (.istore 0, 82, 5, 0, 0)), (82, (.iload 0, 84, 5, 0, 0)), (84, (.iconst 0, 85, 0, 0, -1)), (85, (.if_icmp .ne 0, 88, 92, 0, 0)), (88, (.iconst 0, 89, 0, 0, -1)), (89, (.goto 0, 92, 98, 0, 0)), (92, (.iload 0, 94, 5, 0, 0)), (94, (.iconst 0, 95, 0, 0, 1)), (95, (.iload 0, 96, 1, 0, 0)), (96, (.ishl, 97, 0, 0, 0)), (97, (.ior, 98, 0, 0, 0)), (98, (.ireturn, 99, 0, 0, 0))]
def cd_World_init : List (Nat × ab_E) := [(0, (.aload 0, 1, 0, 0, 0)), (1, (.d2l, 4, 0, 0, 0)), (4, (.aload 0, 5, 0, 0, 0)), (5, (.new 0, 8, 5, 0, 0)), (8, (.dup, 9, 0, 0, 0)), (9, (.invokespecial 5, 12, 232, 1, 0)), (12, (.putfield 0, 15, 10, 0, 3)), (15, (.aload 0, 16, 0, 0, 0)), (16, (.new 0, 19, 2, 0, 0)), (19, (.dup, 20, 0, 0, 0)), (20, (.invokespecial 2, 23, 184, 1, 0)), (23, (.putfield 0, 26, 10, 1, 3)), (26, (.aload 0, 27, 0, 0, 0)), (27, (.new 0, 30, 6, 0, 0)), (30, (.dup, 31, 0, 0, 0)), (31, (.invokespecial 6, 34, 245, 1, 0)), (34, (.putfield 0, 37, 10, 2, 3)), (37, (.return_, 38, 0, 0, 0))]
def cd_World_beginWith : List (Nat × ab_E) := [(0, (.aload 0, 1, 0, 0, 0)), (1, (.getfield 0, 4, 10, 0, 3)), (4, (.aload 0, 5, 1, 0, 0)), (5, (.invokevirtual 5, 8, 234, 2, 0)), (8, (.aload 0, 9, 0, 0, 0)), (9, (.getfield 0, 12, 10, 1, 3)), (12, (.iconst 0, 13, 0, 0, 0)), (13, (.putfield 0, 16, 2, 1, 0)), (16, (.aload 0, 17, 0, 0, 0)), (17, (.getfield 0, 20, 10, 2, 3)), (20, (.iconst 0, 21, 0, 0, 0)), (21, (.putfield 0, 24, 6, 0, 0)), (24, (.return_, 25, 0, 0, 0))]
def cd_World_likeOf : List (Nat × ab_E) := [(0, (.aload 0, 1, 0, 0, 0)), (1, (.getfield 0, 4, 10, 0, 3)), (4, (.aload 0, 5, 1, 0, 0)), (5, (.getfield 0, 8, 10, 0, 3)), (8, (.invokevirtual 5, 11, 234, 2, 0)), (11, (.aload 0, 12, 0, 0, 0)), (12, (.getfield 0, 15, 10, 1, 3)), (15, (.aload 0, 16, 1, 0, 0)), (16, (.getfield 0, 19, 10, 1, 3)), (19, (.invokevirtual 2, 22, 185, 2, 0)), (22, (.aload 0, 23, 0, 0, 0)), (23, (.getfield 0, 26, 10, 2, 3)), (26, (.aload 0, 27, 1, 0, 0)), (27, (.getfield 0, 30, 10, 2, 3)), (30, (.invokevirtual 6, 33, 246, 2, 0)), (33, (.return_, 34, 0, 0, 0))]
set_option maxRecDepth 100000 in
def cd_law_law : List (Nat × ab_E) := [(0, (.new 0, 3, 11, 0, 0)), (3, (.dup, 4, 0, 0, 0)), (4, (.invokespecial 11, 7, 0, 1, 0)), (7, (.astore 0, 8, 1, 0, 0)), (8, (.new 0, 11, 12, 0, 0)), (11, (.dup, 12, 0, 0, 0)), (12, (.invokespecial 12, 15, 54, 1, 0)), (15, (.astore 0, 16, 2, 0, 0)), (16, (.iconst 0, 17, 0, 0, 0)), (17, (.istore 0, 18, 3, 0, 0)), (18, (.iload 0, 19, 3, 0, 0)), (19, (.aload 0, 20, 0, 0, 0)), (20, (.arraylength, 21, 0, 0, 0)), (21, (.iconst 0, 23, 0, 0, 6)), (23, (.isub, 24, 0, 0, 0)), (24, (.if_icmp .gt 0, 27, 1856, 0, 0)), (27, (.aload 0, 28, 0, 0, 0)), (28, (.iload 0, 29, 3, 0, 0)), (29, (.iaload, 30, 0, 0, 0)), (30, (.iconst 0, 32, 0, 0, 63)), (32, (.iand, 33, 0, 0, 0)), (33, (.lookupswitch 0 #[(0, 236), (1, 299), (2, 322), (3, 345), (4, 378), (5, 411), (6, 434), (7, 467), (8, 500), (9, 533), (10, 566), (11, 609), (12, 642), (13, 675), (14, 698), (15, 711), (16, 744), (17, 777), (18, 810), (19, 853), (20, 886), (21, 919), (22, 962), (23, 1005), (24, 1028), (25, 1071), (26, 1104), (27, 1147), (28, 1180), (29, 1233), (30, 1256), (31, 1279), (32, 1338), (33, 1407), (34, 1450), (35, 1503), (36, 1526), (37, 1559), (38, 1582), (39, 1605), (40, 1618), (41, 1631), (42, 1674), (43, 1748), (44, 1781), (45, 1804), (46, 1827)], 236, 1850, 0, 0)), (236, (.aload 0, 237, 1, 0, 0)), (237, (.aload 0, 238, 0, 0, 0)), (238, (.iload 0, 239, 3, 0, 0)), (239, (.iconst 0, 240, 0, 0, 1)), (240, (.iadd, 241, 0, 0, 0)), (241, (.iaload, 242, 0, 0, 0)), (242, (.aload 0, 243, 0, 0, 0)), (243, (.iload 0, 244, 3, 0, 0)), (244, (.iconst 0, 245, 0, 0, 2)), (245, (.iadd, 246, 0, 0, 0)), (246, (.iaload, 247, 0, 0, 0)), (247, (.aload 0, 248, 0, 0, 0)), (248, (.iload 0, 249, 3, 0, 0)), (249, (.iconst 0, 250, 0, 0, 3)), (250, (.iadd, 251, 0, 0, 0)), (251, (.iaload, 252, 0, 0, 0)), (252, (.aload 0, 253, 0, 0, 0)), (253, (.iload 0, 254, 3, 0, 0)), (254, (.iconst 0, 255, 0, 0, 4)), (255, (.iadd, 256, 0, 0, 0)), (256, (.iaload, 257, 0, 0, 0)), (257, (.aload 0, 258, 0, 0, 0)), (258, (.iload 0, 259, 3, 0, 0)), (259, (.iconst 0, 260, 0, 0, 5)), (260, (.iadd, 261, 0, 0, 0)), (261, (.iaload, 262, 0, 0, 0)), (262, (.invokevirtual 11, 265, 1, 6, 1)), (265, (.aload 0, 266, 2, 0, 0)), (266, (.aload 0, 267, 0, 0, 0)), (267, (.iload 0, 268, 3, 0, 0)), (268, (.iconst 0, 269, 0, 0, 1)), (269, (.iadd, 270, 0, 0, 0)), (270, (.iaload, 271, 0, 0, 0)), (271, (.aload 0, 272, 0, 0, 0)), (272, (.iload 0, 273, 3, 0, 0)), (273, (.iconst 0, 274, 0, 0, 2)), (274, (.iadd, 275, 0, 0, 0)), (275, (.iaload, 276, 0, 0, 0)), (276, (.aload 0, 277, 0, 0, 0)), (277, (.iload 0, 278, 3, 0, 0)), (278, (.iconst 0, 279, 0, 0, 3)), (279, (.iadd, 280, 0, 0, 0)), (280, (.iaload, 281, 0, 0, 0)), (281, (.aload 0, 282, 0, 0, 0)), (282, (.iload 0, 283, 3, 0, 0)), (283, (.iconst 0, 284, 0, 0, 4)), (284, (.iadd, 285, 0, 0, 0)), (285, (.iaload, 286, 0, 0, 0)), (286, (.aload 0, 287, 0, 0, 0)), (287, (.iload 0, 288, 3, 0, 0)), (288, (.iconst 0, 289, 0, 0, 5)), (289, (.iadd, 290, 0, 0, 0)), (290, (.iaload, 291, 0, 0, 0)), (291, (.invokevirtual 12, 294, 55, 6, 1)), (294, (.if_icmp .eq 0, 297, 1850, 0, 0)), (297, (.iconst 0, 298, 0, 0, 0)), (298, (.ireturn, 299, 1, 0, 0)), (299, (.aload 0, 300, 1, 0, 0)), (300, (.aload 0, 301, 0, 0, 0)), (301, (.iload 0, 302, 3, 0, 0)), (302, (.iconst 0, 303, 0, 0, 1)), (303, (.iadd, 304, 0, 0, 0)), (304, (.iaload, 305, 0, 0, 0)), (305, (.invokevirtual 11, 308, 2, 2, 1)), (308, (.aload 0, 309, 2, 0, 0)), (309, (.aload 0, 310, 0, 0, 0)), (310, (.iload 0, 311, 3, 0, 0)), (311, (.iconst 0, 312, 0, 0, 1)), (312, (.iadd, 313, 0, 0, 0)), (313, (.iaload, 314, 0, 0, 0)), (314, (.invokevirtual 12, 317, 71, 2, 1)), (317, (.if_icmp .eq 0, 320, 1850, 0, 0)), (320, (.iconst 0, 321, 0, 0, 0)), (321, (.ireturn, 322, 1, 0, 0)), (322, (.aload 0, 323, 1, 0, 0)), (323, (.aload 0, 324, 0, 0, 0)), (324, (.iload 0, 325, 3, 0, 0)), (325, (.iconst 0, 326, 0, 0, 1)), (326, (.iadd, 327, 0, 0, 0)), (327, (.iaload, 328, 0, 0, 0)), (328, (.invokevirtual 11, 331, 3, 2, 1)), (331, (.aload 0, 332, 2, 0, 0)), (332, (.aload 0, 333, 0, 0, 0)), (333, (.iload 0, 334, 3, 0, 0)), (334, (.iconst 0, 335, 0, 0, 1)), (335, (.iadd, 336, 0, 0, 0)), (336, (.iaload, 337, 0, 0, 0)), (337, (.invokevirtual 12, 340, 72, 2, 1)), (340, (.if_icmp .eq 0, 343, 1850, 0, 0)), (343, (.iconst 0, 344, 0, 0, 0)), (344, (.ireturn, 345, 1, 0, 0)), (345, (.aload 0, 346, 1, 0, 0)), (346, (.aload 0, 347, 0, 0, 0)), (347, (.iload 0, 348, 3, 0, 0)), (348, (.iconst 0, 349, 0, 0, 1)), (349, (.iadd, 350, 0, 0, 0)), (350, (.iaload, 351, 0, 0, 0)), (351, (.aload 0, 352, 0, 0, 0)), (352, (.iload 0, 353, 3, 0, 0)), (353, (.iconst 0, 354, 0, 0, 2)), (354, (.iadd, 355, 0, 0, 0)), (355, (.iaload, 356, 0, 0, 0)), (356, (.invokevirtual 11, 359, 4, 3, 1)), (359, (.aload 0, 360, 2, 0, 0)), (360, (.aload 0, 361, 0, 0, 0)), (361, (.iload 0, 362, 3, 0, 0)), (362, (.iconst 0, 363, 0, 0, 1)), (363, (.iadd, 364, 0, 0, 0)), (364, (.iaload, 365, 0, 0, 0)), (365, (.aload 0, 366, 0, 0, 0)), (366, (.iload 0, 367, 3, 0, 0)), (367, (.iconst 0, 368, 0, 0, 2)), (368, (.iadd, 369, 0, 0, 0)), (369, (.iaload, 370, 0, 0, 0)), (370, (.invokevirtual 12, 373, 77, 3, 1)), (373, (.if_icmp .eq 0, 376, 1850, 0, 0)), (376, (.iconst 0, 377, 0, 0, 0)), (377, (.ireturn, 378, 1, 0, 0)), (378, (.aload 0, 379, 1, 0, 0)), (379, (.aload 0, 380, 0, 0, 0)), (380, (.iload 0, 381, 3, 0, 0)), (381, (.iconst 0, 382, 0, 0, 1)), (382, (.iadd, 383, 0, 0, 0)), (383, (.iaload, 384, 0, 0, 0)), (384, (.aload 0, 385, 0, 0, 0)), (385, (.iload 0, 386, 3, 0, 0)), (386, (.iconst 0, 387, 0, 0, 2)), (387, (.iadd, 388, 0, 0, 0)), (388, (.iaload, 389, 0, 0, 0)), (389, (.invokevirtual 11, 392, 5, 3, 1)), (392, (.aload 0, 393, 2, 0, 0)), (393, (.aload 0, 394, 0, 0, 0)), (394, (.iload 0, 395, 3, 0, 0)), (395, (.iconst 0, 396, 0, 0, 1)), (396, (.iadd, 397, 0, 0, 0)), (397, (.iaload, 398, 0, 0, 0)), (398, (.aload 0, 399, 0, 0, 0)), (399, (.iload 0, 400, 3, 0, 0)), (400, (.iconst 0, 401, 0, 0, 2)), (401, (.iadd, 402, 0, 0, 0)), (402, (.iaload, 403, 0, 0, 0)), (403, (.invokevirtual 12, 406, 78, 3, 1)), (406, (.if_icmp .eq 0, 409, 1850, 0, 0)), (409, (.iconst 0, 410, 0, 0, 0)), (410, (.ireturn, 411, 1, 0, 0)), (411, (.aload 0, 412, 1, 0, 0)), (412, (.aload 0, 413, 0, 0, 0)), (413, (.iload 0, 414, 3, 0, 0)), (414, (.iconst 0, 415, 0, 0, 1)), (415, (.iadd, 416, 0, 0, 0)), (416, (.iaload, 417, 0, 0, 0)), (417, (.invokevirtual 11, 420, 6, 2, 1)), (420, (.aload 0, 421, 2, 0, 0)), (421, (.aload 0, 422, 0, 0, 0)), (422, (.iload 0, 423, 3, 0, 0)), (423, (.iconst 0, 424, 0, 0, 1)), (424, (.iadd, 425, 0, 0, 0)), (425, (.iaload, 426, 0, 0, 0)), (426, (.invokevirtual 12, 429, 91, 2, 1)), (429, (.if_icmp .eq 0, 432, 1850, 0, 0)), (432, (.iconst 0, 433, 0, 0, 0)), (433, (.ireturn, 434, 1, 0, 0)), (434, (.aload 0, 435, 1, 0, 0)), (435, (.aload 0, 436, 0, 0, 0)), (436, (.iload 0, 437, 3, 0, 0)), (437, (.iconst 0, 438, 0, 0, 1)), (438, (.iadd, 439, 0, 0, 0)), (439, (.iaload, 440, 0, 0, 0)), (440, (.aload 0, 441, 0, 0, 0)), (441, (.iload 0, 442, 3, 0, 0)), (442, (.iconst 0, 443, 0, 0, 2)), (443, (.iadd, 444, 0, 0, 0)), (444, (.iaload, 445, 0, 0, 0)), (445, (.invokevirtual 11, 448, 7, 3, 1)), (448, (.aload 0, 449, 2, 0, 0)), (449, (.aload 0, 450, 0, 0, 0)), (450, (.iload 0, 451, 3, 0, 0)), (451, (.iconst 0, 452, 0, 0, 1)), (452, (.iadd, 453, 0, 0, 0)), (453, (.iaload, 454, 0, 0, 0)), (454, (.aload 0, 455, 0, 0, 0)), (455, (.iload 0, 456, 3, 0, 0)), (456, (.iconst 0, 457, 0, 0, 2)), (457, (.iadd, 458, 0, 0, 0)), (458, (.iaload, 459, 0, 0, 0)), (459, (.invokevirtual 12, 462, 92, 3, 1)), (462, (.if_icmp .eq 0, 465, 1850, 0, 0)), (465, (.iconst 0, 466, 0, 0, 0)), (466, (.ireturn, 467, 1, 0, 0)), (467, (.aload 0, 468, 1, 0, 0)), (468, (.aload 0, 469, 0, 0, 0)), (469, (.iload 0, 470, 3, 0, 0)), (470, (.iconst 0, 471, 0, 0, 1)), (471, (.iadd, 472, 0, 0, 0)), (472, (.iaload, 473, 0, 0, 0)), (473, (.aload 0, 474, 0, 0, 0)), (474, (.iload 0, 475, 3, 0, 0)), (475, (.iconst 0, 476, 0, 0, 2)), (476, (.iadd, 477, 0, 0, 0)), (477, (.iaload, 478, 0, 0, 0)), (478, (.invokevirtual 11, 481, 8, 3, 1)), (481, (.aload 0, 482, 2, 0, 0)), (482, (.aload 0, 483, 0, 0, 0)), (483, (.iload 0, 484, 3, 0, 0)), (484, (.iconst 0, 485, 0, 0, 1)), (485, (.iadd, 486, 0, 0, 0)), (486, (.iaload, 487, 0, 0, 0)), (487, (.aload 0, 488, 0, 0, 0)), (488, (.iload 0, 489, 3, 0, 0)), (489, (.iconst 0, 490, 0, 0, 2)), (490, (.iadd, 491, 0, 0, 0)), (491, (.iaload, 492, 0, 0, 0)), (492, (.invokevirtual 12, 495, 93, 3, 1)), (495, (.if_icmp .eq 0, 498, 1850, 0, 0)), (498, (.iconst 0, 499, 0, 0, 0)), (499, (.ireturn, 500, 1, 0, 0)), (500, (.aload 0, 501, 1, 0, 0)), (501, (.aload 0, 502, 0, 0, 0)), (502, (.iload 0, 503, 3, 0, 0)), (503, (.iconst 0, 504, 0, 0, 1)), (504, (.iadd, 505, 0, 0, 0)), (505, (.iaload, 506, 0, 0, 0)), (506, (.aload 0, 507, 0, 0, 0)), (507, (.iload 0, 508, 3, 0, 0)), (508, (.iconst 0, 509, 0, 0, 2)), (509, (.iadd, 510, 0, 0, 0)), (510, (.iaload, 511, 0, 0, 0)), (511, (.invokevirtual 11, 514, 9, 3, 1)), (514, (.aload 0, 515, 2, 0, 0)), (515, (.aload 0, 516, 0, 0, 0)), (516, (.iload 0, 517, 3, 0, 0)), (517, (.iconst 0, 518, 0, 0, 1)), (518, (.iadd, 519, 0, 0, 0)), (519, (.iaload, 520, 0, 0, 0)), (520, (.aload 0, 521, 0, 0, 0)), (521, (.iload 0, 522, 3, 0, 0)), (522, (.iconst 0, 523, 0, 0, 2)), (523, (.iadd, 524, 0, 0, 0)), (524, (.iaload, 525, 0, 0, 0)), (525, (.invokevirtual 12, 528, 94, 3, 1)), (528, (.if_icmp .eq 0, 531, 1850, 0, 0)), (531, (.iconst 0, 532, 0, 0, 0)), (532, (.ireturn, 533, 1, 0, 0)), (533, (.aload 0, 534, 1, 0, 0)), (534, (.aload 0, 535, 0, 0, 0)), (535, (.iload 0, 536, 3, 0, 0)), (536, (.iconst 0, 537, 0, 0, 1)), (537, (.iadd, 538, 0, 0, 0)), (538, (.iaload, 539, 0, 0, 0)), (539, (.aload 0, 540, 0, 0, 0)), (540, (.iload 0, 541, 3, 0, 0)), (541, (.iconst 0, 542, 0, 0, 2)), (542, (.iadd, 543, 0, 0, 0)), (543, (.iaload, 544, 0, 0, 0)), (544, (.invokevirtual 11, 547, 10, 3, 1)), (547, (.aload 0, 548, 2, 0, 0)), (548, (.aload 0, 549, 0, 0, 0)), (549, (.iload 0, 550, 3, 0, 0)), (550, (.iconst 0, 551, 0, 0, 1)), (551, (.iadd, 552, 0, 0, 0)), (552, (.iaload, 553, 0, 0, 0)), (553, (.aload 0, 554, 0, 0, 0)), (554, (.iload 0, 555, 3, 0, 0)), (555, (.iconst 0, 556, 0, 0, 2)), (556, (.iadd, 557, 0, 0, 0)), (557, (.iaload, 558, 0, 0, 0)), (558, (.invokevirtual 12, 561, 95, 3, 1)), (561, (.if_icmp .eq 0, 564, 1850, 0, 0)), (564, (.iconst 0, 565, 0, 0, 0)), (565, (.ireturn, 566, 1, 0, 0)), (566, (.aload 0, 567, 1, 0, 0)), (567, (.aload 0, 568, 0, 0, 0)), (568, (.iload 0, 569, 3, 0, 0)), (569, (.iconst 0, 570, 0, 0, 1)), (570, (.iadd, 571, 0, 0, 0)), (571, (.iaload, 572, 0, 0, 0)), (572, (.aload 0, 573, 0, 0, 0)), (573, (.iload 0, 574, 3, 0, 0)), (574, (.iconst 0, 575, 0, 0, 2)), (575, (.iadd, 576, 0, 0, 0)), (576, (.iaload, 577, 0, 0, 0)), (577, (.aload 0, 578, 0, 0, 0)), (578, (.iload 0, 579, 3, 0, 0)), (579, (.iconst 0, 580, 0, 0, 3)), (580, (.iadd, 581, 0, 0, 0)), (581, (.iaload, 582, 0, 0, 0)), (582, (.invokevirtual 11, 585, 11, 4, 1)), (585, (.aload 0, 586, 2, 0, 0)), (586, (.aload 0, 587, 0, 0, 0)), (587, (.iload 0, 588, 3, 0, 0)), (588, (.iconst 0, 589, 0, 0, 1)), (589, (.iadd, 590, 0, 0, 0)), (590, (.iaload, 591, 0, 0, 0)), (591, (.aload 0, 592, 0, 0, 0)), (592, (.iload 0, 593, 3, 0, 0)), (593, (.iconst 0, 594, 0, 0, 2)), (594, (.iadd, 595, 0, 0, 0)), (595, (.iaload, 596, 0, 0, 0)), (596, (.aload 0, 597, 0, 0, 0)), (597, (.iload 0, 598, 3, 0, 0)), (598, (.iconst 0, 599, 0, 0, 3)), (599, (.iadd, 600, 0, 0, 0)), (600, (.iaload, 601, 0, 0, 0)), (601, (.invokevirtual 12, 604, 97, 4, 1)), (604, (.if_icmp .eq 0, 607, 1850, 0, 0)), (607, (.iconst 0, 608, 0, 0, 0)), (608, (.ireturn, 609, 1, 0, 0)), (609, (.aload 0, 610, 1, 0, 0)), (610, (.aload 0, 611, 0, 0, 0)), (611, (.iload 0, 612, 3, 0, 0)), (612, (.iconst 0, 613, 0, 0, 1)), (613, (.iadd, 614, 0, 0, 0)), (614, (.iaload, 615, 0, 0, 0)), (615, (.aload 0, 616, 0, 0, 0)), (616, (.iload 0, 617, 3, 0, 0)), (617, (.iconst 0, 618, 0, 0, 2)), (618, (.iadd, 619, 0, 0, 0)), (619, (.iaload, 620, 0, 0, 0)), (620, (.invokevirtual 11, 623, 12, 3, 1)), (623, (.aload 0, 624, 2, 0, 0)), (624, (.aload 0, 625, 0, 0, 0)), (625, (.iload 0, 626, 3, 0, 0)), (626, (.iconst 0, 627, 0, 0, 1)), (627, (.iadd, 628, 0, 0, 0)), (628, (.iaload, 629, 0, 0, 0)), (629, (.aload 0, 630, 0, 0, 0)), (630, (.iload 0, 631, 3, 0, 0)), (631, (.iconst 0, 632, 0, 0, 2)), (632, (.iadd, 633, 0, 0, 0)), (633, (.iaload, 634, 0, 0, 0)), (634, (.invokevirtual 12, 637, 98, 3, 1)), (637, (.if_icmp .eq 0, 640, 1850, 0, 0)), (640, (.iconst 0, 641, 0, 0, 0)), (641, (.ireturn, 642, 1, 0, 0)), (642, (.aload 0, 643, 1, 0, 0)), (643, (.aload 0, 644, 0, 0, 0)), (644, (.iload 0, 645, 3, 0, 0)), (645, (.iconst 0, 646, 0, 0, 1)), (646, (.iadd, 647, 0, 0, 0)), (647, (.iaload, 648, 0, 0, 0)), (648, (.aload 0, 649, 0, 0, 0)), (649, (.iload 0, 650, 3, 0, 0)), (650, (.iconst 0, 651, 0, 0, 2)), (651, (.iadd, 652, 0, 0, 0)), (652, (.iaload, 653, 0, 0, 0)), (653, (.invokevirtual 11, 656, 13, 3, 1)), (656, (.aload 0, 657, 2, 0, 0)), (657, (.aload 0, 658, 0, 0, 0)), (658, (.iload 0, 659, 3, 0, 0)), (659, (.iconst 0, 660, 0, 0, 1)), (660, (.iadd, 661, 0, 0, 0)), (661, (.iaload, 662, 0, 0, 0)), (662, (.aload 0, 663, 0, 0, 0)), (663, (.iload 0, 664, 3, 0, 0)), (664, (.iconst 0, 665, 0, 0, 2)), (665, (.iadd, 666, 0, 0, 0)), (666, (.iaload, 667, 0, 0, 0)), (667, (.invokevirtual 12, 670, 99, 3, 1)), (670, (.if_icmp .eq 0, 673, 1850, 0, 0)), (673, (.iconst 0, 674, 0, 0, 0)), (674, (.ireturn, 675, 1, 0, 0)), (675, (.aload 0, 676, 1, 0, 0)), (676, (.aload 0, 677, 0, 0, 0)), (677, (.iload 0, 678, 3, 0, 0)), (678, (.iconst 0, 679, 0, 0, 1)), (679, (.iadd, 680, 0, 0, 0)), (680, (.iaload, 681, 0, 0, 0)), (681, (.invokevirtual 11, 684, 14, 2, 1)), (684, (.aload 0, 685, 2, 0, 0)), (685, (.aload 0, 686, 0, 0, 0)), (686, (.iload 0, 687, 3, 0, 0)), (687, (.iconst 0, 688, 0, 0, 1)), (688, (.iadd, 689, 0, 0, 0)), (689, (.iaload, 690, 0, 0, 0)), (690, (.invokevirtual 12, 693, 100, 2, 1)), (693, (.if_icmp .eq 0, 696, 1850, 0, 0)), (696, (.iconst 0, 697, 0, 0, 0)), (697, (.ireturn, 698, 1, 0, 0)), (698, (.aload 0, 699, 1, 0, 0)), (699, (.invokevirtual 11, 702, 15, 1, 1)), (702, (.aload 0, 703, 2, 0, 0)), (703, (.invokevirtual 12, 706, 102, 1, 1)), (706, (.if_icmp .eq 0, 709, 1850, 0, 0)), (709, (.iconst 0, 710, 0, 0, 0)), (710, (.ireturn, 711, 1, 0, 0)), (711, (.aload 0, 712, 1, 0, 0)), (712, (.aload 0, 713, 0, 0, 0)), (713, (.iload 0, 714, 3, 0, 0)), (714, (.iconst 0, 715, 0, 0, 1)), (715, (.iadd, 716, 0, 0, 0)), (716, (.iaload, 717, 0, 0, 0)), (717, (.aload 0, 718, 0, 0, 0)), (718, (.iload 0, 719, 3, 0, 0)), (719, (.iconst 0, 720, 0, 0, 2)), (720, (.iadd, 721, 0, 0, 0)), (721, (.iaload, 722, 0, 0, 0)), (722, (.invokevirtual 11, 725, 16, 3, 1)), (725, (.aload 0, 726, 2, 0, 0)), (726, (.aload 0, 727, 0, 0, 0)), (727, (.iload 0, 728, 3, 0, 0)), (728, (.iconst 0, 729, 0, 0, 1)), (729, (.iadd, 730, 0, 0, 0)), (730, (.iaload, 731, 0, 0, 0)), (731, (.aload 0, 732, 0, 0, 0)), (732, (.iload 0, 733, 3, 0, 0)), (733, (.iconst 0, 734, 0, 0, 2)), (734, (.iadd, 735, 0, 0, 0)), (735, (.iaload, 736, 0, 0, 0)), (736, (.invokevirtual 12, 739, 104, 3, 1)), (739, (.if_icmp .eq 0, 742, 1850, 0, 0)), (742, (.iconst 0, 743, 0, 0, 0)), (743, (.ireturn, 744, 1, 0, 0)), (744, (.aload 0, 745, 1, 0, 0)), (745, (.aload 0, 746, 0, 0, 0)), (746, (.iload 0, 747, 3, 0, 0)), (747, (.iconst 0, 748, 0, 0, 1)), (748, (.iadd, 749, 0, 0, 0)), (749, (.iaload, 750, 0, 0, 0)), (750, (.aload 0, 751, 0, 0, 0)), (751, (.iload 0, 752, 3, 0, 0)), (752, (.iconst 0, 753, 0, 0, 2)), (753, (.iadd, 754, 0, 0, 0)), (754, (.iaload, 755, 0, 0, 0)), (755, (.invokevirtual 11, 758, 17, 3, 1)), (758, (.aload 0, 759, 2, 0, 0)), (759, (.aload 0, 760, 0, 0, 0)), (760, (.iload 0, 761, 3, 0, 0)), (761, (.iconst 0, 762, 0, 0, 1)), (762, (.iadd, 763, 0, 0, 0)), (763, (.iaload, 764, 0, 0, 0)), (764, (.aload 0, 765, 0, 0, 0)), (765, (.iload 0, 766, 3, 0, 0)), (766, (.iconst 0, 767, 0, 0, 2)), (767, (.iadd, 768, 0, 0, 0)), (768, (.iaload, 769, 0, 0, 0)), (769, (.invokevirtual 12, 772, 105, 3, 1)), (772, (.if_icmp .eq 0, 775, 1850, 0, 0)), (775, (.iconst 0, 776, 0, 0, 0)), (776, (.ireturn, 777, 1, 0, 0)), (777, (.aload 0, 778, 1, 0, 0)), (778, (.aload 0, 779, 0, 0, 0)), (779, (.iload 0, 780, 3, 0, 0)), (780, (.iconst 0, 781, 0, 0, 1)), (781, (.iadd, 782, 0, 0, 0)), (782, (.iaload, 783, 0, 0, 0)), (783, (.aload 0, 784, 0, 0, 0)), (784, (.iload 0, 785, 3, 0, 0)), (785, (.iconst 0, 786, 0, 0, 2)), (786, (.iadd, 787, 0, 0, 0)), (787, (.iaload, 788, 0, 0, 0)), (788, (.invokevirtual 11, 791, 18, 3, 1)), (791, (.aload 0, 792, 2, 0, 0)), (792, (.aload 0, 793, 0, 0, 0)), (793, (.iload 0, 794, 3, 0, 0)), (794, (.iconst 0, 795, 0, 0, 1)), (795, (.iadd, 796, 0, 0, 0)), (796, (.iaload, 797, 0, 0, 0)), (797, (.aload 0, 798, 0, 0, 0)), (798, (.iload 0, 799, 3, 0, 0)), (799, (.iconst 0, 800, 0, 0, 2)), (800, (.iadd, 801, 0, 0, 0)), (801, (.iaload, 802, 0, 0, 0)), (802, (.invokevirtual 12, 805, 107, 3, 1)), (805, (.if_icmp .eq 0, 808, 1850, 0, 0)), (808, (.iconst 0, 809, 0, 0, 0)), (809, (.ireturn, 810, 1, 0, 0)), (810, (.aload 0, 811, 1, 0, 0)), (811, (.aload 0, 812, 0, 0, 0)), (812, (.iload 0, 813, 3, 0, 0)), (813, (.iconst 0, 814, 0, 0, 1)), (814, (.iadd, 815, 0, 0, 0)), (815, (.iaload, 816, 0, 0, 0)), (816, (.aload 0, 817, 0, 0, 0)), (817, (.iload 0, 818, 3, 0, 0)), (818, (.iconst 0, 819, 0, 0, 2)), (819, (.iadd, 820, 0, 0, 0)), (820, (.iaload, 821, 0, 0, 0)), (821, (.aload 0, 822, 0, 0, 0)), (822, (.iload 0, 823, 3, 0, 0)), (823, (.iconst 0, 824, 0, 0, 3)), (824, (.iadd, 825, 0, 0, 0)), (825, (.iaload, 826, 0, 0, 0)), (826, (.invokevirtual 11, 829, 19, 4, 1)), (829, (.aload 0, 830, 2, 0, 0)), (830, (.aload 0, 831, 0, 0, 0)), (831, (.iload 0, 832, 3, 0, 0)), (832, (.iconst 0, 833, 0, 0, 1)), (833, (.iadd, 834, 0, 0, 0)), (834, (.iaload, 835, 0, 0, 0)), (835, (.aload 0, 836, 0, 0, 0)), (836, (.iload 0, 837, 3, 0, 0)), (837, (.iconst 0, 838, 0, 0, 2)), (838, (.iadd, 839, 0, 0, 0)), (839, (.iaload, 840, 0, 0, 0)), (840, (.aload 0, 841, 0, 0, 0)), (841, (.iload 0, 842, 3, 0, 0)), (842, (.iconst 0, 843, 0, 0, 3)), (843, (.iadd, 844, 0, 0, 0)), (844, (.iaload, 845, 0, 0, 0)), (845, (.invokevirtual 12, 848, 110, 4, 1)), (848, (.if_icmp .eq 0, 851, 1850, 0, 0)), (851, (.iconst 0, 852, 0, 0, 0)), (852, (.ireturn, 853, 1, 0, 0)), (853, (.aload 0, 854, 1, 0, 0)), (854, (.aload 0, 855, 0, 0, 0)), (855, (.iload 0, 856, 3, 0, 0)), (856, (.iconst 0, 857, 0, 0, 1)), (857, (.iadd, 858, 0, 0, 0)), (858, (.iaload, 859, 0, 0, 0)), (859, (.aload 0, 860, 0, 0, 0)), (860, (.iload 0, 861, 3, 0, 0)), (861, (.iconst 0, 862, 0, 0, 2)), (862, (.iadd, 863, 0, 0, 0)), (863, (.iaload, 864, 0, 0, 0)), (864, (.invokevirtual 11, 867, 20, 3, 1)), (867, (.aload 0, 868, 2, 0, 0)), (868, (.aload 0, 869, 0, 0, 0)), (869, (.iload 0, 870, 3, 0, 0)), (870, (.iconst 0, 871, 0, 0, 1)), (871, (.iadd, 872, 0, 0, 0)), (872, (.iaload, 873, 0, 0, 0)), (873, (.aload 0, 874, 0, 0, 0)), (874, (.iload 0, 875, 3, 0, 0)), (875, (.iconst 0, 876, 0, 0, 2)), (876, (.iadd, 877, 0, 0, 0)), (877, (.iaload, 878, 0, 0, 0)), (878, (.invokevirtual 12, 881, 111, 3, 1)), (881, (.if_icmp .eq 0, 884, 1850, 0, 0)), (884, (.iconst 0, 885, 0, 0, 0)), (885, (.ireturn, 886, 1, 0, 0)), (886, (.aload 0, 887, 1, 0, 0)), (887, (.aload 0, 888, 0, 0, 0)), (888, (.iload 0, 889, 3, 0, 0)), (889, (.iconst 0, 890, 0, 0, 1)), (890, (.iadd, 891, 0, 0, 0)), (891, (.iaload, 892, 0, 0, 0)), (892, (.aload 0, 893, 0, 0, 0)), (893, (.iload 0, 894, 3, 0, 0)), (894, (.iconst 0, 895, 0, 0, 2)), (895, (.iadd, 896, 0, 0, 0)), (896, (.iaload, 897, 0, 0, 0)), (897, (.invokevirtual 11, 900, 21, 3, 1)), (900, (.aload 0, 901, 2, 0, 0)), (901, (.aload 0, 902, 0, 0, 0)), (902, (.iload 0, 903, 3, 0, 0)), (903, (.iconst 0, 904, 0, 0, 1)), (904, (.iadd, 905, 0, 0, 0)), (905, (.iaload, 906, 0, 0, 0)), (906, (.aload 0, 907, 0, 0, 0)), (907, (.iload 0, 908, 3, 0, 0)), (908, (.iconst 0, 909, 0, 0, 2)), (909, (.iadd, 910, 0, 0, 0)), (910, (.iaload, 911, 0, 0, 0)), (911, (.invokevirtual 12, 914, 113, 3, 1)), (914, (.if_icmp .eq 0, 917, 1850, 0, 0)), (917, (.iconst 0, 918, 0, 0, 0)), (918, (.ireturn, 919, 1, 0, 0)), (919, (.aload 0, 920, 1, 0, 0)), (920, (.aload 0, 921, 0, 0, 0)), (921, (.iload 0, 922, 3, 0, 0)), (922, (.iconst 0, 923, 0, 0, 1)), (923, (.iadd, 924, 0, 0, 0)), (924, (.iaload, 925, 0, 0, 0)), (925, (.aload 0, 926, 0, 0, 0)), (926, (.iload 0, 927, 3, 0, 0)), (927, (.iconst 0, 928, 0, 0, 2)), (928, (.iadd, 929, 0, 0, 0)), (929, (.iaload, 930, 0, 0, 0)), (930, (.aload 0, 931, 0, 0, 0)), (931, (.iload 0, 932, 3, 0, 0)), (932, (.iconst 0, 933, 0, 0, 3)), (933, (.iadd, 934, 0, 0, 0)), (934, (.iaload, 935, 0, 0, 0)), (935, (.invokevirtual 11, 938, 22, 4, 1)), (938, (.aload 0, 939, 2, 0, 0)), (939, (.aload 0, 940, 0, 0, 0)), (940, (.iload 0, 941, 3, 0, 0)), (941, (.iconst 0, 942, 0, 0, 1)), (942, (.iadd, 943, 0, 0, 0)), (943, (.iaload, 944, 0, 0, 0)), (944, (.aload 0, 945, 0, 0, 0)), (945, (.iload 0, 946, 3, 0, 0)), (946, (.iconst 0, 947, 0, 0, 2)), (947, (.iadd, 948, 0, 0, 0)), (948, (.iaload, 949, 0, 0, 0)), (949, (.aload 0, 950, 0, 0, 0)), (950, (.iload 0, 951, 3, 0, 0)), (951, (.iconst 0, 952, 0, 0, 3)), (952, (.iadd, 953, 0, 0, 0)), (953, (.iaload, 954, 0, 0, 0)), (954, (.invokevirtual 12, 957, 118, 4, 1)), (957, (.if_icmp .eq 0, 960, 1850, 0, 0)), (960, (.iconst 0, 961, 0, 0, 0)), (961, (.ireturn, 962, 1, 0, 0)), (962, (.aload 0, 963, 1, 0, 0)), (963, (.aload 0, 964, 0, 0, 0)), (964, (.iload 0, 965, 3, 0, 0)), (965, (.iconst 0, 966, 0, 0, 1)), (966, (.iadd, 967, 0, 0, 0)), (967, (.iaload, 968, 0, 0, 0)), (968, (.aload 0, 969, 0, 0, 0)), (969, (.iload 0, 970, 3, 0, 0)), (970, (.iconst 0, 971, 0, 0, 2)), (971, (.iadd, 972, 0, 0, 0)), (972, (.iaload, 973, 0, 0, 0)), (973, (.aload 0, 974, 0, 0, 0)), (974, (.iload 0, 975, 3, 0, 0)), (975, (.iconst 0, 976, 0, 0, 3)), (976, (.iadd, 977, 0, 0, 0)), (977, (.iaload, 978, 0, 0, 0)), (978, (.invokevirtual 11, 981, 23, 4, 1)), (981, (.aload 0, 982, 2, 0, 0)), (982, (.aload 0, 983, 0, 0, 0)), (983, (.iload 0, 984, 3, 0, 0)), (984, (.iconst 0, 985, 0, 0, 1)), (985, (.iadd, 986, 0, 0, 0)), (986, (.iaload, 987, 0, 0, 0)), (987, (.aload 0, 988, 0, 0, 0)), (988, (.iload 0, 989, 3, 0, 0)), (989, (.iconst 0, 990, 0, 0, 2)), (990, (.iadd, 991, 0, 0, 0)), (991, (.iaload, 992, 0, 0, 0)), (992, (.aload 0, 993, 0, 0, 0)), (993, (.iload 0, 994, 3, 0, 0)), (994, (.iconst 0, 995, 0, 0, 3)), (995, (.iadd, 996, 0, 0, 0)), (996, (.iaload, 997, 0, 0, 0)), (997, (.invokevirtual 12, 1000, 119, 4, 1)), (1000, (.if_icmp .eq 0, 1003, 1850, 0, 0)), (1003, (.iconst 0, 1004, 0, 0, 0)), (1004, (.ireturn, 1005, 1, 0, 0)), (1005, (.aload 0, 1006, 1, 0, 0)), (1006, (.aload 0, 1007, 0, 0, 0)), (1007, (.iload 0, 1008, 3, 0, 0)), (1008, (.iconst 0, 1009, 0, 0, 1)), (1009, (.iadd, 1010, 0, 0, 0)), (1010, (.iaload, 1011, 0, 0, 0)), (1011, (.invokevirtual 11, 1014, 24, 2, 1)), (1014, (.aload 0, 1015, 2, 0, 0)), (1015, (.aload 0, 1016, 0, 0, 0)), (1016, (.iload 0, 1017, 3, 0, 0)), (1017, (.iconst 0, 1018, 0, 0, 1)), (1018, (.iadd, 1019, 0, 0, 0)), (1019, (.iaload, 1020, 0, 0, 0)), (1020, (.invokevirtual 12, 1023, 120, 2, 1)), (1023, (.if_icmp .eq 0, 1026, 1850, 0, 0)), (1026, (.iconst 0, 1027, 0, 0, 0)), (1027, (.ireturn, 1028, 1, 0, 0)), (1028, (.aload 0, 1029, 1, 0, 0)), (1029, (.aload 0, 1030, 0, 0, 0)), (1030, (.iload 0, 1031, 3, 0, 0)), (1031, (.iconst 0, 1032, 0, 0, 1)), (1032, (.iadd, 1033, 0, 0, 0)), (1033, (.iaload, 1034, 0, 0, 0)), (1034, (.aload 0, 1035, 0, 0, 0)), (1035, (.iload 0, 1036, 3, 0, 0)), (1036, (.iconst 0, 1037, 0, 0, 2)), (1037, (.iadd, 1038, 0, 0, 0)), (1038, (.iaload, 1039, 0, 0, 0)), (1039, (.aload 0, 1040, 0, 0, 0)), (1040, (.iload 0, 1041, 3, 0, 0)), (1041, (.iconst 0, 1042, 0, 0, 3)), (1042, (.iadd, 1043, 0, 0, 0)), (1043, (.iaload, 1044, 0, 0, 0)), (1044, (.invokevirtual 11, 1047, 25, 4, 1)), (1047, (.aload 0, 1048, 2, 0, 0)), (1048, (.aload 0, 1049, 0, 0, 0)), (1049, (.iload 0, 1050, 3, 0, 0)), (1050, (.iconst 0, 1051, 0, 0, 1)), (1051, (.iadd, 1052, 0, 0, 0)), (1052, (.iaload, 1053, 0, 0, 0)), (1053, (.aload 0, 1054, 0, 0, 0)), (1054, (.iload 0, 1055, 3, 0, 0)), (1055, (.iconst 0, 1056, 0, 0, 2)), (1056, (.iadd, 1057, 0, 0, 0)), (1057, (.iaload, 1058, 0, 0, 0)), (1058, (.aload 0, 1059, 0, 0, 0)), (1059, (.iload 0, 1060, 3, 0, 0)), (1060, (.iconst 0, 1061, 0, 0, 3)), (1061, (.iadd, 1062, 0, 0, 0)), (1062, (.iaload, 1063, 0, 0, 0)), (1063, (.invokevirtual 12, 1066, 121, 4, 1)), (1066, (.if_icmp .eq 0, 1069, 1850, 0, 0)), (1069, (.iconst 0, 1070, 0, 0, 0)), (1070, (.ireturn, 1071, 1, 0, 0)), (1071, (.aload 0, 1072, 1, 0, 0)), (1072, (.aload 0, 1073, 0, 0, 0)), (1073, (.iload 0, 1074, 3, 0, 0)), (1074, (.iconst 0, 1075, 0, 0, 1)), (1075, (.iadd, 1076, 0, 0, 0)), (1076, (.iaload, 1077, 0, 0, 0)), (1077, (.aload 0, 1078, 0, 0, 0)), (1078, (.iload 0, 1079, 3, 0, 0)), (1079, (.iconst 0, 1080, 0, 0, 2)), (1080, (.iadd, 1081, 0, 0, 0)), (1081, (.iaload, 1082, 0, 0, 0)), (1082, (.invokevirtual 11, 1085, 26, 3, 1)), (1085, (.aload 0, 1086, 2, 0, 0)), (1086, (.aload 0, 1087, 0, 0, 0)), (1087, (.iload 0, 1088, 3, 0, 0)), (1088, (.iconst 0, 1089, 0, 0, 1)), (1089, (.iadd, 1090, 0, 0, 0)), (1090, (.iaload, 1091, 0, 0, 0)), (1091, (.aload 0, 1092, 0, 0, 0)), (1092, (.iload 0, 1093, 3, 0, 0)), (1093, (.iconst 0, 1094, 0, 0, 2)), (1094, (.iadd, 1095, 0, 0, 0)), (1095, (.iaload, 1096, 0, 0, 0)), (1096, (.invokevirtual 12, 1099, 122, 3, 1)), (1099, (.if_icmp .eq 0, 1102, 1850, 0, 0)), (1102, (.iconst 0, 1103, 0, 0, 0)), (1103, (.ireturn, 1104, 1, 0, 0)), (1104, (.aload 0, 1105, 1, 0, 0)), (1105, (.aload 0, 1106, 0, 0, 0)), (1106, (.iload 0, 1107, 3, 0, 0)), (1107, (.iconst 0, 1108, 0, 0, 1)), (1108, (.iadd, 1109, 0, 0, 0)), (1109, (.iaload, 1110, 0, 0, 0)), (1110, (.aload 0, 1111, 0, 0, 0)), (1111, (.iload 0, 1112, 3, 0, 0)), (1112, (.iconst 0, 1113, 0, 0, 2)), (1113, (.iadd, 1114, 0, 0, 0)), (1114, (.iaload, 1115, 0, 0, 0)), (1115, (.aload 0, 1116, 0, 0, 0)), (1116, (.iload 0, 1117, 3, 0, 0)), (1117, (.iconst 0, 1118, 0, 0, 3)), (1118, (.iadd, 1119, 0, 0, 0)), (1119, (.iaload, 1120, 0, 0, 0)), (1120, (.invokevirtual 11, 1123, 27, 4, 1)), (1123, (.aload 0, 1124, 2, 0, 0)), (1124, (.aload 0, 1125, 0, 0, 0)), (1125, (.iload 0, 1126, 3, 0, 0)), (1126, (.iconst 0, 1127, 0, 0, 1)), (1127, (.iadd, 1128, 0, 0, 0)), (1128, (.iaload, 1129, 0, 0, 0)), (1129, (.aload 0, 1130, 0, 0, 0)), (1130, (.iload 0, 1131, 3, 0, 0)), (1131, (.iconst 0, 1132, 0, 0, 2)), (1132, (.iadd, 1133, 0, 0, 0)), (1133, (.iaload, 1134, 0, 0, 0)), (1134, (.aload 0, 1135, 0, 0, 0)), (1135, (.iload 0, 1136, 3, 0, 0)), (1136, (.iconst 0, 1137, 0, 0, 3)), (1137, (.iadd, 1138, 0, 0, 0)), (1138, (.iaload, 1139, 0, 0, 0)), (1139, (.invokevirtual 12, 1142, 125, 4, 1)), (1142, (.if_icmp .eq 0, 1145, 1850, 0, 0)), (1145, (.iconst 0, 1146, 0, 0, 0)), (1146, (.ireturn, 1147, 1, 0, 0)), (1147, (.aload 0, 1148, 1, 0, 0)), (1148, (.aload 0, 1149, 0, 0, 0)), (1149, (.iload 0, 1150, 3, 0, 0)), (1150, (.iconst 0, 1151, 0, 0, 1)), (1151, (.iadd, 1152, 0, 0, 0)), (1152, (.iaload, 1153, 0, 0, 0)), (1153, (.aload 0, 1154, 0, 0, 0)), (1154, (.iload 0, 1155, 3, 0, 0)), (1155, (.iconst 0, 1156, 0, 0, 2)), (1156, (.iadd, 1157, 0, 0, 0)), (1157, (.iaload, 1158, 0, 0, 0)), (1158, (.invokevirtual 11, 1161, 28, 3, 1)), (1161, (.aload 0, 1162, 2, 0, 0)), (1162, (.aload 0, 1163, 0, 0, 0)), (1163, (.iload 0, 1164, 3, 0, 0)), (1164, (.iconst 0, 1165, 0, 0, 1)), (1165, (.iadd, 1166, 0, 0, 0)), (1166, (.iaload, 1167, 0, 0, 0)), (1167, (.aload 0, 1168, 0, 0, 0)), (1168, (.iload 0, 1169, 3, 0, 0)), (1169, (.iconst 0, 1170, 0, 0, 2)), (1170, (.iadd, 1171, 0, 0, 0)), (1171, (.iaload, 1172, 0, 0, 0)), (1172, (.invokevirtual 12, 1175, 126, 3, 1)), (1175, (.if_icmp .eq 0, 1178, 1850, 0, 0)), (1178, (.iconst 0, 1179, 0, 0, 0)), (1179, (.ireturn, 1180, 1, 0, 0)), (1180, (.aload 0, 1181, 1, 0, 0)), (1181, (.aload 0, 1182, 0, 0, 0)), (1182, (.iload 0, 1183, 3, 0, 0)), (1183, (.iconst 0, 1184, 0, 0, 1)), (1184, (.iadd, 1185, 0, 0, 0)), (1185, (.iaload, 1186, 0, 0, 0)), (1186, (.aload 0, 1187, 0, 0, 0)), (1187, (.iload 0, 1188, 3, 0, 0)), (1188, (.iconst 0, 1189, 0, 0, 2)), (1189, (.iadd, 1190, 0, 0, 0)), (1190, (.iaload, 1191, 0, 0, 0)), (1191, (.aload 0, 1192, 0, 0, 0)), (1192, (.iload 0, 1193, 3, 0, 0)), (1193, (.iconst 0, 1194, 0, 0, 3)), (1194, (.iadd, 1195, 0, 0, 0)), (1195, (.iaload, 1196, 0, 0, 0)), (1196, (.aload 0, 1197, 0, 0, 0)), (1197, (.iload 0, 1198, 3, 0, 0)), (1198, (.iconst 0, 1199, 0, 0, 4)), (1199, (.iadd, 1200, 0, 0, 0)), (1200, (.iaload, 1201, 0, 0, 0)), (1201, (.invokevirtual 11, 1204, 29, 5, 1)), (1204, (.aload 0, 1205, 2, 0, 0)), (1205, (.aload 0, 1206, 0, 0, 0)), (1206, (.iload 0, 1207, 3, 0, 0)), (1207, (.iconst 0, 1208, 0, 0, 1)), (1208, (.iadd, 1209, 0, 0, 0)), (1209, (.iaload, 1210, 0, 0, 0)), (1210, (.aload 0, 1211, 0, 0, 0)), (1211, (.iload 0, 1212, 3, 0, 0)), (1212, (.iconst 0, 1213, 0, 0, 2)), (1213, (.iadd, 1214, 0, 0, 0)), (1214, (.iaload, 1215, 0, 0, 0)), (1215, (.aload 0, 1216, 0, 0, 0)), (1216, (.iload 0, 1217, 3, 0, 0)), (1217, (.iconst 0, 1218, 0, 0, 3)), (1218, (.iadd, 1219, 0, 0, 0)), (1219, (.iaload, 1220, 0, 0, 0)), (1220, (.aload 0, 1221, 0, 0, 0)), (1221, (.iload 0, 1222, 3, 0, 0)), (1222, (.iconst 0, 1223, 0, 0, 4)), (1223, (.iadd, 1224, 0, 0, 0)), (1224, (.iaload, 1225, 0, 0, 0)), (1225, (.invokevirtual 12, 1228, 128, 5, 1)), (1228, (.if_icmp .eq 0, 1231, 1850, 0, 0)), (1231, (.iconst 0, 1232, 0, 0, 0)), (1232, (.ireturn, 1233, 1, 0, 0)), (1233, (.aload 0, 1234, 1, 0, 0)), (1234, (.aload 0, 1235, 0, 0, 0)), (1235, (.iload 0, 1236, 3, 0, 0)), (1236, (.iconst 0, 1237, 0, 0, 1)), (1237, (.iadd, 1238, 0, 0, 0)), (1238, (.iaload, 1239, 0, 0, 0)), (1239, (.invokevirtual 11, 1242, 30, 2, 1)), (1242, (.aload 0, 1243, 2, 0, 0)), (1243, (.aload 0, 1244, 0, 0, 0)), (1244, (.iload 0, 1245, 3, 0, 0)), (1245, (.iconst 0, 1246, 0, 0, 1)), (1246, (.iadd, 1247, 0, 0, 0)), (1247, (.iaload, 1248, 0, 0, 0)), (1248, (.invokevirtual 12, 1251, 130, 2, 1)), (1251, (.if_icmp .eq 0, 1254, 1850, 0, 0)), (1254, (.iconst 0, 1255, 0, 0, 0)), (1255, (.ireturn, 1256, 1, 0, 0)), (1256, (.aload 0, 1257, 1, 0, 0)), (1257, (.aload 0, 1258, 0, 0, 0)), (1258, (.iload 0, 1259, 3, 0, 0)), (1259, (.iconst 0, 1260, 0, 0, 1)), (1260, (.iadd, 1261, 0, 0, 0)), (1261, (.iaload, 1262, 0, 0, 0)), (1262, (.invokevirtual 11, 1265, 31, 2, 1)), (1265, (.aload 0, 1266, 2, 0, 0)), (1266, (.aload 0, 1267, 0, 0, 0)), (1267, (.iload 0, 1268, 3, 0, 0)), (1268, (.iconst 0, 1269, 0, 0, 1)), (1269, (.iadd, 1270, 0, 0, 0)), (1270, (.iaload, 1271, 0, 0, 0)), (1271, (.invokevirtual 12, 1274, 131, 2, 1)), (1274, (.if_icmp .eq 0, 1277, 1850, 0, 0)), (1277, (.iconst 0, 1278, 0, 0, 0)), (1278, (.ireturn, 1279, 1, 0, 0)), (1279, (.aload 0, 1280, 1, 0, 0)), (1280, (.aload 0, 1281, 0, 0, 0)), (1281, (.iload 0, 1282, 3, 0, 0)), (1282, (.iconst 0, 1283, 0, 0, 1)), (1283, (.iadd, 1284, 0, 0, 0)), (1284, (.iaload, 1285, 0, 0, 0)), (1285, (.aload 0, 1286, 0, 0, 0)), (1286, (.iload 0, 1287, 3, 0, 0)), (1287, (.iconst 0, 1288, 0, 0, 2)), (1288, (.iadd, 1289, 0, 0, 0)), (1289, (.iaload, 1290, 0, 0, 0)), (1290, (.aload 0, 1291, 0, 0, 0)), (1291, (.iload 0, 1292, 3, 0, 0)), (1292, (.iconst 0, 1293, 0, 0, 3)), (1293, (.iadd, 1294, 0, 0, 0)), (1294, (.iaload, 1295, 0, 0, 0)), (1295, (.ifCond .eq 0, 1298, 1302, 0, 0)), (1298, (.iconst 0, 1299, 0, 0, 1)), (1299, (.goto 0, 1302, 1303, 0, 0)), (1302, (.iconst 0, 1303, 0, 0, 0)), (1303, (.invokevirtual 11, 1306, 32, 4, 1)), (1306, (.aload 0, 1307, 2, 0, 0)), (1307, (.aload 0, 1308, 0, 0, 0)), (1308, (.iload 0, 1309, 3, 0, 0)), (1309, (.iconst 0, 1310, 0, 0, 1)), (1310, (.iadd, 1311, 0, 0, 0)), (1311, (.iaload, 1312, 0, 0, 0)), (1312, (.aload 0, 1313, 0, 0, 0)), (1313, (.iload 0, 1314, 3, 0, 0)), (1314, (.iconst 0, 1315, 0, 0, 2)), (1315, (.iadd, 1316, 0, 0, 0)), (1316, (.iaload, 1317, 0, 0, 0)), (1317, (.aload 0, 1318, 0, 0, 0)), (1318, (.iload 0, 1319, 3, 0, 0)), (1319, (.iconst 0, 1320, 0, 0, 3)), (1320, (.iadd, 1321, 0, 0, 0)), (1321, (.iaload, 1322, 0, 0, 0)), (1322, (.ifCond .eq 0, 1325, 1329, 0, 0)), (1325, (.iconst 0, 1326, 0, 0, 1)), (1326, (.goto 0, 1329, 1330, 0, 0)), (1329, (.iconst 0, 1330, 0, 0, 0)), (1330, (.invokevirtual 12, 1333, 138, 4, 1)), (1333, (.if_icmp .eq 0, 1336, 1850, 0, 0)), (1336, (.iconst 0, 1337, 0, 0, 0)), (1337, (.ireturn, 1338, 1, 0, 0)), (1338, (.aload 0, 1339, 1, 0, 0)), (1339, (.aload 0, 1340, 0, 0, 0)), (1340, (.iload 0, 1341, 3, 0, 0)), (1341, (.iconst 0, 1342, 0, 0, 1)), (1342, (.iadd, 1343, 0, 0, 0)), (1343, (.iaload, 1344, 0, 0, 0)), (1344, (.aload 0, 1345, 0, 0, 0)), (1345, (.iload 0, 1346, 3, 0, 0)), (1346, (.iconst 0, 1347, 0, 0, 2)), (1347, (.iadd, 1348, 0, 0, 0)), (1348, (.iaload, 1349, 0, 0, 0)), (1349, (.aload 0, 1350, 0, 0, 0)), (1350, (.iload 0, 1351, 3, 0, 0)), (1351, (.iconst 0, 1352, 0, 0, 3)), (1352, (.iadd, 1353, 0, 0, 0)), (1353, (.iaload, 1354, 0, 0, 0)), (1354, (.ifCond .eq 0, 1357, 1361, 0, 0)), (1357, (.iconst 0, 1358, 0, 0, 1)), (1358, (.goto 0, 1361, 1362, 0, 0)), (1361, (.iconst 0, 1362, 0, 0, 0)), (1362, (.aload 0, 1363, 0, 0, 0)), (1363, (.iload 0, 1364, 3, 0, 0)), (1364, (.iconst 0, 1365, 0, 0, 4)), (1365, (.iadd, 1366, 0, 0, 0)), (1366, (.iaload, 1367, 0, 0, 0)), (1367, (.invokevirtual 11, 1370, 33, 5, 1)), (1370, (.aload 0, 1371, 2, 0, 0)), (1371, (.aload 0, 1372, 0, 0, 0)), (1372, (.iload 0, 1373, 3, 0, 0)), (1373, (.iconst 0, 1374, 0, 0, 1)), (1374, (.iadd, 1375, 0, 0, 0)), (1375, (.iaload, 1376, 0, 0, 0)), (1376, (.aload 0, 1377, 0, 0, 0)), (1377, (.iload 0, 1378, 3, 0, 0)), (1378, (.iconst 0, 1379, 0, 0, 2)), (1379, (.iadd, 1380, 0, 0, 0)), (1380, (.iaload, 1381, 0, 0, 0)), (1381, (.aload 0, 1382, 0, 0, 0)), (1382, (.iload 0, 1383, 3, 0, 0)), (1383, (.iconst 0, 1384, 0, 0, 3)), (1384, (.iadd, 1385, 0, 0, 0)), (1385, (.iaload, 1386, 0, 0, 0)), (1386, (.ifCond .eq 0, 1389, 1393, 0, 0)), (1389, (.iconst 0, 1390, 0, 0, 1)), (1390, (.goto 0, 1393, 1394, 0, 0)), (1393, (.iconst 0, 1394, 0, 0, 0)), (1394, (.aload 0, 1395, 0, 0, 0)), (1395, (.iload 0, 1396, 3, 0, 0)), (1396, (.iconst 0, 1397, 0, 0, 4)), (1397, (.iadd, 1398, 0, 0, 0)), (1398, (.iaload, 1399, 0, 0, 0)), (1399, (.invokevirtual 12, 1402, 139, 5, 1)), (1402, (.if_icmp .eq 0, 1405, 1850, 0, 0)), (1405, (.iconst 0, 1406, 0, 0, 0)), (1406, (.ireturn, 1407, 1, 0, 0)), (1407, (.aload 0, 1408, 1, 0, 0)), (1408, (.aload 0, 1409, 0, 0, 0)), (1409, (.iload 0, 1410, 3, 0, 0)), (1410, (.iconst 0, 1411, 0, 0, 1)), (1411, (.iadd, 1412, 0, 0, 0)), (1412, (.iaload, 1413, 0, 0, 0)), (1413, (.aload 0, 1414, 0, 0, 0)), (1414, (.iload 0, 1415, 3, 0, 0)), (1415, (.iconst 0, 1416, 0, 0, 2)), (1416, (.iadd, 1417, 0, 0, 0)), (1417, (.iaload, 1418, 0, 0, 0)), (1418, (.aload 0, 1419, 0, 0, 0)), (1419, (.iload 0, 1420, 3, 0, 0)), (1420, (.iconst 0, 1421, 0, 0, 3)), (1421, (.iadd, 1422, 0, 0, 0)), (1422, (.iaload, 1423, 0, 0, 0)), (1423, (.invokevirtual 11, 1426, 34, 4, 1)), (1426, (.aload 0, 1427, 2, 0, 0)), (1427, (.aload 0, 1428, 0, 0, 0)), (1428, (.iload 0, 1429, 3, 0, 0)), (1429, (.iconst 0, 1430, 0, 0, 1)), (1430, (.iadd, 1431, 0, 0, 0)), (1431, (.iaload, 1432, 0, 0, 0)), (1432, (.aload 0, 1433, 0, 0, 0)), (1433, (.iload 0, 1434, 3, 0, 0)), (1434, (.iconst 0, 1435, 0, 0, 2)), (1435, (.iadd, 1436, 0, 0, 0)), (1436, (.iaload, 1437, 0, 0, 0)), (1437, (.aload 0, 1438, 0, 0, 0)), (1438, (.iload 0, 1439, 3, 0, 0)), (1439, (.iconst 0, 1440, 0, 0, 3)), (1440, (.iadd, 1441, 0, 0, 0)), (1441, (.iaload, 1442, 0, 0, 0)), (1442, (.invokevirtual 12, 1445, 144, 4, 1)), (1445, (.if_icmp .eq 0, 1448, 1850, 0, 0)), (1448, (.iconst 0, 1449, 0, 0, 0)), (1449, (.ireturn, 1450, 1, 0, 0)), (1450, (.aload 0, 1451, 1, 0, 0)), (1451, (.aload 0, 1452, 0, 0, 0)), (1452, (.iload 0, 1453, 3, 0, 0)), (1453, (.iconst 0, 1454, 0, 0, 1)), (1454, (.iadd, 1455, 0, 0, 0)), (1455, (.iaload, 1456, 0, 0, 0)), (1456, (.aload 0, 1457, 0, 0, 0)), (1457, (.iload 0, 1458, 3, 0, 0)), (1458, (.iconst 0, 1459, 0, 0, 2)), (1459, (.iadd, 1460, 0, 0, 0)), (1460, (.iaload, 1461, 0, 0, 0)), (1461, (.aload 0, 1462, 0, 0, 0)), (1462, (.iload 0, 1463, 3, 0, 0)), (1463, (.iconst 0, 1464, 0, 0, 3)), (1464, (.iadd, 1465, 0, 0, 0)), (1465, (.iaload, 1466, 0, 0, 0)), (1466, (.aload 0, 1467, 0, 0, 0)), (1467, (.iload 0, 1468, 3, 0, 0)), (1468, (.iconst 0, 1469, 0, 0, 4)), (1469, (.iadd, 1470, 0, 0, 0)), (1470, (.iaload, 1471, 0, 0, 0)), (1471, (.invokevirtual 11, 1474, 35, 5, 1)), (1474, (.aload 0, 1475, 2, 0, 0)), (1475, (.aload 0, 1476, 0, 0, 0)), (1476, (.iload 0, 1477, 3, 0, 0)), (1477, (.iconst 0, 1478, 0, 0, 1)), (1478, (.iadd, 1479, 0, 0, 0)), (1479, (.iaload, 1480, 0, 0, 0)), (1480, (.aload 0, 1481, 0, 0, 0)), (1481, (.iload 0, 1482, 3, 0, 0)), (1482, (.iconst 0, 1483, 0, 0, 2)), (1483, (.iadd, 1484, 0, 0, 0)), (1484, (.iaload, 1485, 0, 0, 0)), (1485, (.aload 0, 1486, 0, 0, 0)), (1486, (.iload 0, 1487, 3, 0, 0)), (1487, (.iconst 0, 1488, 0, 0, 3)), (1488, (.iadd, 1489, 0, 0, 0)), (1489, (.iaload, 1490, 0, 0, 0)), (1490, (.aload 0, 1491, 0, 0, 0)), (1491, (.iload 0, 1492, 3, 0, 0)), (1492, (.iconst 0, 1493, 0, 0, 4)), (1493, (.iadd, 1494, 0, 0, 0)), (1494, (.iaload, 1495, 0, 0, 0)), (1495, (.invokevirtual 12, 1498, 145, 5, 1)), (1498, (.if_icmp .eq 0, 1501, 1850, 0, 0)), (1501, (.iconst 0, 1502, 0, 0, 0)), (1502, (.ireturn, 1503, 1, 0, 0)), (1503, (.aload 0, 1504, 1, 0, 0)), (1504, (.aload 0, 1505, 0, 0, 0)), (1505, (.iload 0, 1506, 3, 0, 0)), (1506, (.iconst 0, 1507, 0, 0, 1)), (1507, (.iadd, 1508, 0, 0, 0)), (1508, (.iaload, 1509, 0, 0, 0)), (1509, (.invokevirtual 11, 1512, 36, 2, 1)), (1512, (.aload 0, 1513, 2, 0, 0)), (1513, (.aload 0, 1514, 0, 0, 0)), (1514, (.iload 0, 1515, 3, 0, 0)), (1515, (.iconst 0, 1516, 0, 0, 1)), (1516, (.iadd, 1517, 0, 0, 0)), (1517, (.iaload, 1518, 0, 0, 0)), (1518, (.invokevirtual 12, 1521, 146, 2, 1)), (1521, (.if_icmp .eq 0, 1524, 1850, 0, 0)), (1524, (.iconst 0, 1525, 0, 0, 0)), (1525, (.ireturn, 1526, 1, 0, 0)), (1526, (.aload 0, 1527, 1, 0, 0)), (1527, (.aload 0, 1528, 0, 0, 0)), (1528, (.iload 0, 1529, 3, 0, 0)), (1529, (.iconst 0, 1530, 0, 0, 1)), (1530, (.iadd, 1531, 0, 0, 0)), (1531, (.iaload, 1532, 0, 0, 0)), (1532, (.aload 0, 1533, 0, 0, 0)), (1533, (.iload 0, 1534, 3, 0, 0)), (1534, (.iconst 0, 1535, 0, 0, 2)), (1535, (.iadd, 1536, 0, 0, 0)), (1536, (.iaload, 1537, 0, 0, 0)), (1537, (.invokevirtual 11, 1540, 37, 3, 1)), (1540, (.aload 0, 1541, 2, 0, 0)), (1541, (.aload 0, 1542, 0, 0, 0)), (1542, (.iload 0, 1543, 3, 0, 0)), (1543, (.iconst 0, 1544, 0, 0, 1)), (1544, (.iadd, 1545, 0, 0, 0)), (1545, (.iaload, 1546, 0, 0, 0)), (1546, (.aload 0, 1547, 0, 0, 0)), (1547, (.iload 0, 1548, 3, 0, 0)), (1548, (.iconst 0, 1549, 0, 0, 2)), (1549, (.iadd, 1550, 0, 0, 0)), (1550, (.iaload, 1551, 0, 0, 0)), (1551, (.invokevirtual 12, 1554, 147, 3, 1)), (1554, (.if_icmp .eq 0, 1557, 1850, 0, 0)), (1557, (.iconst 0, 1558, 0, 0, 0)), (1558, (.ireturn, 1559, 1, 0, 0)), (1559, (.aload 0, 1560, 1, 0, 0)), (1560, (.aload 0, 1561, 0, 0, 0)), (1561, (.iload 0, 1562, 3, 0, 0)), (1562, (.iconst 0, 1563, 0, 0, 1)), (1563, (.iadd, 1564, 0, 0, 0)), (1564, (.iaload, 1565, 0, 0, 0)), (1565, (.invokevirtual 11, 1568, 38, 2, 1)), (1568, (.aload 0, 1569, 2, 0, 0)), (1569, (.aload 0, 1570, 0, 0, 0)), (1570, (.iload 0, 1571, 3, 0, 0)), (1571, (.iconst 0, 1572, 0, 0, 1)), (1572, (.iadd, 1573, 0, 0, 0)), (1573, (.iaload, 1574, 0, 0, 0)), (1574, (.invokevirtual 12, 1577, 148, 2, 1)), (1577, (.if_icmp .eq 0, 1580, 1850, 0, 0)), (1580, (.iconst 0, 1581, 0, 0, 0)), (1581, (.ireturn, 1582, 1, 0, 0)), (1582, (.aload 0, 1583, 1, 0, 0)), (1583, (.aload 0, 1584, 0, 0, 0)), (1584, (.iload 0, 1585, 3, 0, 0)), (1585, (.iconst 0, 1586, 0, 0, 1)), (1586, (.iadd, 1587, 0, 0, 0)), (1587, (.iaload, 1588, 0, 0, 0)), (1588, (.invokevirtual 11, 1591, 39, 2, 1)), (1591, (.aload 0, 1592, 2, 0, 0)), (1592, (.aload 0, 1593, 0, 0, 0)), (1593, (.iload 0, 1594, 3, 0, 0)), (1594, (.iconst 0, 1595, 0, 0, 1)), (1595, (.iadd, 1596, 0, 0, 0)), (1596, (.iaload, 1597, 0, 0, 0)), (1597, (.invokevirtual 12, 1600, 154, 2, 1)), (1600, (.if_icmp .eq 0, 1603, 1850, 0, 0)), (1603, (.iconst 0, 1604, 0, 0, 0)), (1604, (.ireturn, 1605, 1, 0, 0)), (1605, (.aload 0, 1606, 1, 0, 0)), (1606, (.invokevirtual 11, 1609, 40, 1, 1)), (1609, (.aload 0, 1610, 2, 0, 0)), (1610, (.invokevirtual 12, 1613, 157, 1, 1)), (1613, (.if_icmp .eq 0, 1616, 1850, 0, 0)), (1616, (.iconst 0, 1617, 0, 0, 0)), (1617, (.ireturn, 1618, 1, 0, 0)), (1618, (.aload 0, 1619, 1, 0, 0)), (1619, (.invokevirtual 11, 1622, 41, 1, 1)), (1622, (.aload 0, 1623, 2, 0, 0)), (1623, (.invokevirtual 12, 1626, 158, 1, 1)), (1626, (.if_icmp .eq 0, 1629, 1850, 0, 0)), (1629, (.iconst 0, 1630, 0, 0, 0)), (1630, (.ireturn, 1631, 1, 0, 0)), (1631, (.aload 0, 1632, 1, 0, 0)), (1632, (.aload 0, 1633, 0, 0, 0)), (1633, (.iload 0, 1634, 3, 0, 0)), (1634, (.iconst 0, 1635, 0, 0, 1)), (1635, (.iadd, 1636, 0, 0, 0)), (1636, (.iaload, 1637, 0, 0, 0)), (1637, (.aload 0, 1638, 0, 0, 0)), (1638, (.iload 0, 1639, 3, 0, 0)), (1639, (.iconst 0, 1640, 0, 0, 2)), (1640, (.iadd, 1641, 0, 0, 0)), (1641, (.iaload, 1642, 0, 0, 0)), (1642, (.aload 0, 1643, 0, 0, 0)), (1643, (.iload 0, 1644, 3, 0, 0)), (1644, (.iconst 0, 1645, 0, 0, 3)), (1645, (.iadd, 1646, 0, 0, 0)), (1646, (.iaload, 1647, 0, 0, 0)), (1647, (.invokevirtual 11, 1650, 42, 4, 1)), (1650, (.aload 0, 1651, 2, 0, 0)), (1651, (.aload 0, 1652, 0, 0, 0)), (1652, (.iload 0, 1653, 3, 0, 0)), (1653, (.iconst 0, 1654, 0, 0, 1)), (1654, (.iadd, 1655, 0, 0, 0)), (1655, (.iaload, 1656, 0, 0, 0)), (1656, (.aload 0, 1657, 0, 0, 0)), (1657, (.iload 0, 1658, 3, 0, 0)), (1658, (.iconst 0, 1659, 0, 0, 2)), (1659, (.iadd, 1660, 0, 0, 0)), (1660, (.iaload, 1661, 0, 0, 0)), (1661, (.aload 0, 1662, 0, 0, 0)), (1662, (.iload 0, 1663, 3, 0, 0)), (1663, (.iconst 0, 1664, 0, 0, 3)), (1664, (.iadd, 1665, 0, 0, 0)), (1665, (.iaload, 1666, 0, 0, 0)), (1666, (.invokevirtual 12, 1669, 160, 4, 1)), (1669, (.if_icmp .eq 0, 1672, 1850, 0, 0)), (1672, (.iconst 0, 1673, 0, 0, 0)), (1673, (.ireturn, 1674, 1, 0, 0)), (1674, (.aload 0, 1675, 1, 0, 0)), (1675, (.aload 0, 1676, 0, 0, 0)), (1676, (.iload 0, 1677, 3, 0, 0)), (1677, (.iconst 0, 1678, 0, 0, 1)), (1678, (.iadd, 1679, 0, 0, 0)), (1679, (.iaload, 1680, 0, 0, 0)), (1680, (.aload 0, 1681, 0, 0, 0)), (1681, (.iload 0, 1682, 3, 0, 0)), (1682, (.iconst 0, 1683, 0, 0, 2)), (1683, (.iadd, 1684, 0, 0, 0)), (1684, (.iaload, 1685, 0, 0, 0)), (1685, (.aload 0, 1686, 0, 0, 0)), (1686, (.iload 0, 1687, 3, 0, 0)), (1687, (.iconst 0, 1688, 0, 0, 3)), (1688, (.iadd, 1689, 0, 0, 0)), (1689, (.iaload, 1690, 0, 0, 0)), (1690, (.i2l, 1691, 0, 0, 0)), (1691, (.iconst 0, 1693, 0, 0, 32)), (1693, (.lshl, 1694, 0, 0, 0)), (1694, (.aload 0, 1695, 0, 0, 0)), (1695, (.iload 0, 1696, 3, 0, 0)), (1696, (.iconst 0, 1697, 0, 0, 4)), (1697, (.iadd, 1698, 0, 0, 0)), (1698, (.iaload, 1699, 0, 0, 0)), (1699, (.i2l, 1700, 0, 0, 0)), (1700, (.ldc2_w 0, 1703, 0, 0, 4294967295)), (1703, (.land, 1704, 0, 0, 0)), (1704, (.lor, 1705, 0, 0, 0)), (1705, (.invokevirtual 11, 1708, 43, 4, 2)), (1708, (.aload 0, 1709, 2, 0, 0)), (1709, (.aload 0, 1710, 0, 0, 0)), (1710, (.iload 0, 1711, 3, 0, 0)), (1711, (.iconst 0, 1712, 0, 0, 1)), (1712, (.iadd, 1713, 0, 0, 0)), (1713, (.iaload, 1714, 0, 0, 0)), (1714, (.aload 0, 1715, 0, 0, 0)), (1715, (.iload 0, 1716, 3, 0, 0)), (1716, (.iconst 0, 1717, 0, 0, 2)), (1717, (.iadd, 1718, 0, 0, 0)), (1718, (.iaload, 1719, 0, 0, 0)), (1719, (.aload 0, 1720, 0, 0, 0)), (1720, (.iload 0, 1721, 3, 0, 0)), (1721, (.iconst 0, 1722, 0, 0, 3)), (1722, (.iadd, 1723, 0, 0, 0)), (1723, (.iaload, 1724, 0, 0, 0)), (1724, (.i2l, 1725, 0, 0, 0)), (1725, (.iconst 0, 1727, 0, 0, 32)), (1727, (.lshl, 1728, 0, 0, 0)), (1728, (.aload 0, 1729, 0, 0, 0)), (1729, (.iload 0, 1730, 3, 0, 0)), (1730, (.iconst 0, 1731, 0, 0, 4)), (1731, (.iadd, 1732, 0, 0, 0)), (1732, (.iaload, 1733, 0, 0, 0)), (1733, (.i2l, 1734, 0, 0, 0)), (1734, (.ldc2_w 0, 1737, 0, 0, 4294967295)), (1737, (.land, 1738, 0, 0, 0)), (1738, (.lor, 1739, 0, 0, 0)), (1739, (.invokevirtual 12, 1742, 161, 4, 2)), (1742, (.lcmp, 1743, 0, 0, 0)), (1743, (.ifCond .eq 0, 1746, 1850, 0, 0)), (1746, (.iconst 0, 1747, 0, 0, 0)), (1747, (.ireturn, 1748, 1, 0, 0)), (1748, (.aload 0, 1749, 1, 0, 0)), (1749, (.aload 0, 1750, 0, 0, 0)), (1750, (.iload 0, 1751, 3, 0, 0)), (1751, (.iconst 0, 1752, 0, 0, 1)), (1752, (.iadd, 1753, 0, 0, 0)), (1753, (.iaload, 1754, 0, 0, 0)), (1754, (.aload 0, 1755, 0, 0, 0)), (1755, (.iload 0, 1756, 3, 0, 0)), (1756, (.iconst 0, 1757, 0, 0, 2)), (1757, (.iadd, 1758, 0, 0, 0)), (1758, (.iaload, 1759, 0, 0, 0)), (1759, (.invokevirtual 11, 1762, 44, 3, 1)), (1762, (.aload 0, 1763, 2, 0, 0)), (1763, (.aload 0, 1764, 0, 0, 0)), (1764, (.iload 0, 1765, 3, 0, 0)), (1765, (.iconst 0, 1766, 0, 0, 1)), (1766, (.iadd, 1767, 0, 0, 0)), (1767, (.iaload, 1768, 0, 0, 0)), (1768, (.aload 0, 1769, 0, 0, 0)), (1769, (.iload 0, 1770, 3, 0, 0)), (1770, (.iconst 0, 1771, 0, 0, 2)), (1771, (.iadd, 1772, 0, 0, 0)), (1772, (.iaload, 1773, 0, 0, 0)), (1773, (.invokevirtual 12, 1776, 162, 3, 1)), (1776, (.if_icmp .eq 0, 1779, 1850, 0, 0)), (1779, (.iconst 0, 1780, 0, 0, 0)), (1780, (.ireturn, 1781, 1, 0, 0)), (1781, (.aload 0, 1782, 1, 0, 0)), (1782, (.aload 0, 1783, 0, 0, 0)), (1783, (.iload 0, 1784, 3, 0, 0)), (1784, (.iconst 0, 1785, 0, 0, 1)), (1785, (.iadd, 1786, 0, 0, 0)), (1786, (.iaload, 1787, 0, 0, 0)), (1787, (.invokevirtual 11, 1790, 45, 2, 1)), (1790, (.aload 0, 1791, 2, 0, 0)), (1791, (.aload 0, 1792, 0, 0, 0)), (1792, (.iload 0, 1793, 3, 0, 0)), (1793, (.iconst 0, 1794, 0, 0, 1)), (1794, (.iadd, 1795, 0, 0, 0)), (1795, (.iaload, 1796, 0, 0, 0)), (1796, (.invokevirtual 12, 1799, 163, 2, 1)), (1799, (.if_icmp .eq 0, 1802, 1850, 0, 0)), (1802, (.iconst 0, 1803, 0, 0, 0)), (1803, (.ireturn, 1804, 1, 0, 0)), (1804, (.aload 0, 1805, 1, 0, 0)), (1805, (.aload 0, 1806, 0, 0, 0)), (1806, (.iload 0, 1807, 3, 0, 0)), (1807, (.iconst 0, 1808, 0, 0, 1)), (1808, (.iadd, 1809, 0, 0, 0)), (1809, (.iaload, 1810, 0, 0, 0)), (1810, (.invokevirtual 11, 1813, 46, 2, 1)), (1813, (.aload 0, 1814, 2, 0, 0)), (1814, (.aload 0, 1815, 0, 0, 0)), (1815, (.iload 0, 1816, 3, 0, 0)), (1816, (.iconst 0, 1817, 0, 0, 1)), (1817, (.iadd, 1818, 0, 0, 0)), (1818, (.iaload, 1819, 0, 0, 0)), (1819, (.invokevirtual 12, 1822, 164, 2, 1)), (1822, (.if_icmp .eq 0, 1825, 1850, 0, 0)), (1825, (.iconst 0, 1826, 0, 0, 0)), (1826, (.ireturn, 1827, 1, 0, 0)), (1827, (.aload 0, 1828, 1, 0, 0)), (1828, (.aload 0, 1829, 0, 0, 0)), (1829, (.iload 0, 1830, 3, 0, 0)), (1830, (.iconst 0, 1831, 0, 0, 1)), (1831, (.iadd, 1832, 0, 0, 0)), (1832, (.iaload, 1833, 0, 0, 0)), (1833, (.invokevirtual 11, 1836, 47, 2, 1)), (1836, (.aload 0, 1837, 2, 0, 0)), (1837, (.aload 0, 1838, 0, 0, 0)), (1838, (.iload 0, 1839, 3, 0, 0)), (1839, (.iconst 0, 1840, 0, 0, 1)), (1840, (.iadd, 1841, 0, 0, 0)), (1841, (.iaload, 1842, 0, 0, 0)), (1842, (.invokevirtual 12, 1845, 165, 2, 1)), (1845, (.if_icmp .eq 0, 1848, 1850, 0, 0)), (1848, (.iconst 0, 1849, 0, 0, 0)), (1849, (.ireturn, 1850, 1, 0, 0)), (1850, (.iinc 0 0, 1853, 3, 0, 6)), (1853, (.goto 0, 1856, 18, 0, 0)), (1856, (.iconst 0, 1857, 0, 0, 1)), (1857, (.ireturn, 1858, 1, 0, 0))]
def cd_Integer_bitCount : List (Nat × ab_E) := [(0, (.iload 0, 1, 0, 0, 0)), (1, (.iload 0, 2, 0, 0, 0)), (2, (.iconst 0, 3, 0, 0, 1)), (3, (.iushr, 4, 0, 0, 0)), (4, (.iconst 0, 7, 0, 0, 1431655765)), (7, (.iand, 8, 0, 0, 0)), (8, (.isub, 9, 0, 0, 0)), (9, (.istore 0, 10, 0, 0, 0)), (10, (.iload 0, 11, 0, 0, 0)), (11, (.iconst 0, 14, 0, 0, 858993459)), (14, (.iand, 15, 0, 0, 0)), (15, (.iload 0, 16, 0, 0, 0)), (16, (.iconst 0, 17, 0, 0, 2)), (17, (.iushr, 18, 0, 0, 0)), (18, (.iconst 0, 21, 0, 0, 858993459)), (21, (.iand, 22, 0, 0, 0)), (22, (.iadd, 23, 0, 0, 0)), (23, (.istore 0, 24, 0, 0, 0)), (24, (.iload 0, 25, 0, 0, 0)), (25, (.iload 0, 26, 0, 0, 0)), (26, (.iconst 0, 27, 0, 0, 4)), (27, (.iushr, 28, 0, 0, 0)), (28, (.iadd, 29, 0, 0, 0)), (29, (.iconst 0, 32, 0, 0, 252645135)), (32, (.iand, 33, 0, 0, 0)), (33, (.istore 0, 34, 0, 0, 0)), (34, (.iload 0, 35, 0, 0, 0)), (35, (.iload 0, 36, 0, 0, 0)), (36, (.iconst 0, 38, 0, 0, 8)), (38, (.iushr, 39, 0, 0, 0)), (39, (.iadd, 40, 0, 0, 0)), (40, (.istore 0, 41, 0, 0, 0)), (41, (.iload 0, 42, 0, 0, 0)), (42, (.iload 0, 43, 0, 0, 0)), (43, (.iconst 0, 45, 0, 0, 16)), (45, (.iushr, 46, 0, 0, 0)), (46, (.iadd, 47, 0, 0, 0)), (47, (.istore 0, 48, 0, 0, 0)), (48, (.iload 0, 49, 0, 0, 0)), (49, (.iconst 0, 51, 0, 0, 63)), (51, (.iand, 52, 0, 0, 0)), (52, (.ireturn, 53, 0, 0, 0))]
def cd_Math_abs : List (Nat × ab_E) := [(0, (.iload 0, 1, 0, 0, 0)), (1, (.ifCond .ge 0, 4, 9, 0, 0)), (4, (.iload 0, 5, 0, 0, 0)), (5, (.ineg, 6, 0, 0, 0)), (6, (.goto 0, 9, 10, 0, 0)), (9, (.iload 0, 10, 0, 0, 0)), (10, (.ireturn, 11, 0, 0, 0))]
def cd_Math_max : List (Nat × ab_E) := [(0, (.iload 0, 1, 0, 0, 0)), (1, (.iload 0, 2, 1, 0, 0)), (2, (.if_icmp .lt 0, 5, 9, 0, 0)), (5, (.iload 0, 6, 0, 0, 0)), (6, (.goto 0, 9, 10, 0, 0)), (9, (.iload 0, 10, 1, 0, 0)), (10, (.ireturn, 11, 0, 0, 0))]
def cd_Math_min : List (Nat × ab_E) := [(0, (.iload 0, 1, 0, 0, 0)), (1, (.iload 0, 2, 1, 0, 0)), (2, (.if_icmp .gt 0, 5, 9, 0, 0)), (5, (.iload 0, 6, 0, 0, 0)), (6, (.goto 0, 9, 10, 0, 0)), (9, (.iload 0, 10, 1, 0, 0)), (10, (.ireturn, 11, 0, 0, 0))]
def cd_Arrays_fill_I : List (Nat × ab_E) := [(0, (.iconst 0, 1, 0, 0, 0)), (1, (.istore 0, 2, 2, 0, 0)), (2, (.aload 0, 3, 0, 0, 0)), (3, (.arraylength, 4, 0, 0, 0)), (4, (.istore 0, 5, 3, 0, 0)), (5, (.iload 0, 6, 2, 0, 0)), (6, (.iload 0, 7, 3, 0, 0)), (7, (.if_icmp .ge 0, 10, 20, 0, 0)), (10, (.aload 0, 11, 0, 0, 0)), (11, (.iload 0, 12, 2, 0, 0)), (12, (.iload 0, 13, 1, 0, 0)), (13, (.iastore, 14, 0, 0, 0)), (14, (.iinc 0 0, 17, 2, 0, 1)), (17, (.goto 0, 20, 5, 0, 0)), (20, (.return_, 21, 0, 0, 0))]
def cd_Arrays_fill_J : List (Nat × ab_E) := [(0, (.iconst 0, 1, 0, 0, 0)), (1, (.istore 0, 2, 3, 0, 0)), (2, (.aload 0, 3, 0, 0, 0)), (3, (.arraylength, 4, 0, 0, 0)), (4, (.istore 0, 6, 4, 0, 0)), (6, (.iload 0, 7, 3, 0, 0)), (7, (.iload 0, 9, 4, 0, 0)), (9, (.if_icmp .ge 0, 12, 22, 0, 0)), (12, (.aload 0, 13, 0, 0, 0)), (13, (.iload 0, 14, 3, 0, 0)), (14, (.lload 0, 15, 1, 0, 0)), (15, (.lastore, 16, 0, 0, 0)), (16, (.iinc 0 0, 19, 3, 0, 1)), (19, (.goto 0, 22, 6, 0, 0)), (22, (.return_, 23, 0, 0, 0))]
end
end
section
section
def ab_codes : List (List (Nat × ab_E)) := [cd_N_init, cd_N_feed, cd_N_lore, cd_N_fault, cd_N_thing, cd_N_news, cd_N_comes, cd_N_of, cd_N_lost, cd_N_hears, cd_N_says, cd_N_tells, cd_N_walks, cd_N_recites, cd_N_delivers, cd_N_breach, cd_N_risk, cd_N_loud, cd_N_turned, cd_N_judge, cd_N_perform, cd_N_day, cd_N_fresh, cd_N_kept, cd_N_less, cd_N_enough, cd_N_farBack, cd_N_through, cd_N_sizeFor, cd_N_told, cd_N_back, cd_N_seeds, cd_N_men, cd_N_load, cd_N_road, cd_N_questions, cd_N_asked, cd_N_broken, cd_N_piece, cd_N_joined, cd_N_unfit, cd_N_gaps, cd_N_numbers, cd_N_write, cd_N_copy, cd_N_image, cd_N_restore, cd_N_count, cd_N_refusalOfRow, cd_N_refusalOfHearings, cd_N_refusalOfMen, cd_N_isSize, cd_N_isAnswerOrPlace, cd_M_within, cd_M_init, cd_M_feed, cd_M_see, cd_M_isSmall, cd_M_isDigit, cd_M_keyAt, cd_M_next, cd_M_fails, cd_M_is, cd_M_eats, cd_M_takes, cd_M_takesThing, cd_M_readThings, cd_M_readTwo, cd_M_readWorth, cd_M_readInn, cd_M_readLine, cd_M_lore, cd_M_fault, cd_M_isThing, cd_M_isInn, cd_M_isMan, cd_M_isSet, cd_M_thing, cd_M_news, cd_M_manAt, cd_M_many, cd_M_thingAt, cd_M_placeOf, cd_M_has, cd_M_bitsIn, cd_M_worthOf, cd_M_empties, cd_M_hear, cd_M_say, cd_M_walk, cd_M_deliver, cd_M_comes, cd_M_of, cd_M_lost, cd_M_hears, cd_M_says, cd_M_tell, cd_M_tells, cd_M_walks, cd_M_recites, cd_M_delivers, cd_M_isBreach, cd_M_breach, cd_M_triesAs, cd_M_risk, cd_M_loud, cd_M_bitsOf, cd_M_turned, cd_M_acts, cd_M_actsAll, cd_M_judge, cd_M_perform, cd_M_draw, cd_M_day, cd_M_areThings, cd_M_nextAt, cd_M_driven, cd_M_freshOf, cd_M_fresh, cd_M_kept, cd_M_less, cd_M_enough, cd_M_farBack, cd_M_throughOf, cd_M_tellsRow, cd_M_through, cd_M_sizeFor, cd_M_tellsAll, cd_M_told, cd_M_backOf, cd_M_back, cd_M_seeds, cd_M_canCarry, cd_M_leftIn, cd_M_without, cd_M_asThings, cd_M_laysMen, cd_M_refusesMen, cd_M_men, cd_M_load, cd_M_isBest, cd_M_rowsOf, cd_M_toldBest, cd_M_isWhat, cd_M_road, cd_M_questions, cd_M_asked, cd_M_broken, cd_M_piece, cd_M_stands, cd_M_isWithin, cd_M_lays, cd_M_isFirst, cd_M_joins, cd_M_joined, cd_M_firstIn, cd_M_areUnfit, cd_M_unfit, cd_M_gaps, cd_M_cut, cd_M_numbers, cd_M_write, cd_M_copy, cd_M_image, cd_M_restore, cd_M_count, cd_Ahead_init, cd_Ahead_chooseSayings, cd_Ahead_chooseQuestions, cd_Ahead_begin, cd_Ahead_sayOn, cd_Ahead_askOn, cd_Ahead_weigh, cd_Ahead_answer, cd_Carriers_init, cd_Carriers_fewest, cd_Carriers_loadOf, cd_Carriers_leastLoad, cd_Carriers_canCarry, cd_Carriers_canDivide, cd_Carriers_hardestOf, cd_Carriers_easyOf, cd_Carriers_tooMuchAt, cd_Carriers_isFull, cd_Company_init, cd_Company_likeOf, cd_Company_isOne, cd_Company_areTwo, cd_Company_addOne, cd_Company_turnedPairs, cd_Company_act, cd_Company_actOnce, cd_Company_hearIfThere, cd_Company_sayIfHeld, cd_Company_walkIfThere, cd_Company_listenIfNear, cd_Company_spendDay, cd_Company_spendOnce, cd_Company_draw, cd_Company_lostByAll, cd_Company_heldByHimAlone, cd_Company_heldBy, cd_Company_fewestHolding, cd_Courier_init, cd_Courier_begin, cd_Courier_likeOf, cd_Courier_likeMindOf, cd_Courier_setMind, cd_Courier_has, cd_Courier_thingAt, cd_Courier_placeOf, cd_Courier_hear, cd_Courier_bringForward, cd_Courier_loseLast, cd_Courier_say, cd_Courier_walk, cd_Courier_hearLatestOf, cd_Courier_recite, cd_Courier_deliver, cd_Hearings_init, cd_Hearings_takeRow, cd_Hearings_inRow, cd_Hearings_newOnes, cd_Hearings_newByRule, cd_Hearings_newByForesight, cd_Hearings_neededLast, cd_Hearings_unlikeSinceLast, cd_Hearings_comesThrough, cd_Hearings_tellBest, cd_Hearings_tellOn, cd_Hearings_weighOrder, cd_Hearings_answerOfTold, cd_Lore_init, cd_Lore_clear, cd_Lore_likeOf, cd_Lore_isThing, cd_Lore_isInn, cd_Lore_isSet, cd_Lore_allThings, cd_Lore_newsAt, cd_Lore_addNews, cd_Lore_newsOnWay, cd_Lore_worthOf, cd_Lore_secretPair, cd_Lore_comeBack, cd_Pieces_init, cd_Pieces_likeOf, cd_Pieces_addOne, cd_Pieces_thingOf, cd_Pieces_inThem, cd_Pieces_areUnfit, cd_Pieces_isTurned, cd_Pieces_firstPlace, cd_Pieces_join, cd_Pieces_isWithinAnother, cd_Pieces_overlapOf, cd_Pieces_isSame, cd_Pieces_joinOn, cd_Pieces_isFirstByThings, cd_Reader_init, cd_Reader_putOnTape, cd_Reader_readText, cd_Reader_fail, cd_Reader_readLine, cd_Reader_lineHere, cd_Reader_readThings, cd_Reader_readMind, cd_Reader_readPair, cd_Reader_readWorth, cd_Reader_readInn, cd_Reader_readThing, cd_Reader_readNumber, cd_Reader_numberStands, cd_Reader_readSign, cd_Reader_nextToken, cd_Reader_takeDigits, cd_Reader_isWord, cd_Reader_isLetter, cd_Reader_isDigit, cd_Row_init, cd_Row_begin, cd_Row_put, cd_Row_cut, cd_Seeds_init, cd_Seeds_fewestFor, cd_Seeds_prepare, cd_Seeds_leastSet, cd_World_init, cd_World_beginWith, cd_World_likeOf, cd_law_law, cd_Integer_bitCount, cd_Math_abs, cd_Math_max, cd_Math_min, cd_Arrays_fill_I, cd_Arrays_fill_J]
def ab_cds (m : Nat) : List (Nat × ab_E) := ab_codes.getD m []
def ab_nls : List Nat := [2, 6, 2, 2, 3, 3, 2, 5, 3, 3, 4, 7, 3, 4, 2, 3, 4, 3, 3, 7, 4, 3, 5, 5, 4, 6, 4, 5, 6, 5, 2, 2, 5, 7, 4, 5, 2, 3, 4, 2, 3, 1, 4, 6, 6, 2, 2, 2, 2, 6, 4, 1, 2, 6, 1, 8, 2, 1, 1, 4, 1, 2, 2, 2, 4, 1, 2, 4, 3, 4, 1, 3, 2, 3, 3, 3, 2, 3, 3, 1, 2, 3, 4, 3, 4, 4, 5, 7, 5, 7, 5, 2, 3, 3, 3, 3, 5, 4, 3, 7, 2, 4, 5, 3, 3, 6, 3, 8, 7, 4, 8, 3, 2, 7, 3, 5, 8, 7, 4, 4, 3, 5, 5, 5, 3, 4, 5, 7, 5, 5, 2, 5, 4, 6, 5, 4, 15, 4, 5, 10, 4, 7, 2, 1, 5, 6, 7, 5, 4, 6, 4, 7, 3, 4, 4, 4, 5, 3, 4, 3, 5, 5, 4, 3, 3, 2, 1, 4, 5, 3, 8, 8, 3, 3, 1, 6, 5, 9, 7, 11, 6, 5, 4, 4, 2, 3, 3, 5, 2, 8, 5, 8, 4, 4, 4, 8, 7, 4, 1, 3, 2, 4, 6, 1, 2, 2, 2, 4, 2, 2, 3, 2, 7, 2, 6, 7, 3, 7, 7, 1, 4, 3, 3, 6, 5, 4, 4, 5, 5, 8, 4, 3, 1, 1, 2, 3, 3, 2, 1, 3, 3, 8, 4, 5, 6, 1, 2, 3, 3, 4, 5, 9, 4, 4, 5, 4, 6, 8, 3, 1, 3, 3, 2, 2, 1, 1, 1, 3, 2, 3, 2, 4, 4, 1, 1, 1, 3, 1, 1, 1, 3, 4, 3, 1, 5, 6, 6, 1, 2, 2, 4, 1, 1, 2, 2, 4, 5]
def ab_nl (m : Nat) : Nat := ab_nls.getD m 0
abbrev m_N_init : Nat := 0
abbrev m_N_feed : Nat := 1
abbrev m_N_lore : Nat := 2
abbrev m_N_fault : Nat := 3
abbrev m_N_thing : Nat := 4
abbrev m_N_news : Nat := 5
abbrev m_N_comes : Nat := 6
abbrev m_N_of : Nat := 7
abbrev m_N_lost : Nat := 8
abbrev m_N_hears : Nat := 9
abbrev m_N_says : Nat := 10
abbrev m_N_tells : Nat := 11
abbrev m_N_walks : Nat := 12
abbrev m_N_recites : Nat := 13
abbrev m_N_delivers : Nat := 14
abbrev m_N_breach : Nat := 15
abbrev m_N_risk : Nat := 16
abbrev m_N_loud : Nat := 17
abbrev m_N_turned : Nat := 18
abbrev m_N_judge : Nat := 19
abbrev m_N_perform : Nat := 20
abbrev m_N_day : Nat := 21
abbrev m_N_fresh : Nat := 22
abbrev m_N_kept : Nat := 23
abbrev m_N_less : Nat := 24
abbrev m_N_enough : Nat := 25
abbrev m_N_farBack : Nat := 26
abbrev m_N_through : Nat := 27
abbrev m_N_sizeFor : Nat := 28
abbrev m_N_told : Nat := 29
abbrev m_N_back : Nat := 30
abbrev m_N_seeds : Nat := 31
abbrev m_N_men : Nat := 32
abbrev m_N_load : Nat := 33
abbrev m_N_road : Nat := 34
abbrev m_N_questions : Nat := 35
abbrev m_N_asked : Nat := 36
abbrev m_N_broken : Nat := 37
abbrev m_N_piece : Nat := 38
abbrev m_N_joined : Nat := 39
abbrev m_N_unfit : Nat := 40
abbrev m_N_gaps : Nat := 41
abbrev m_N_numbers : Nat := 42
abbrev m_N_write : Nat := 43
abbrev m_N_copy : Nat := 44
abbrev m_N_image : Nat := 45
abbrev m_N_restore : Nat := 46
abbrev m_N_count : Nat := 47
abbrev m_N_refusalOfRow : Nat := 48
abbrev m_N_refusalOfHearings : Nat := 49
abbrev m_N_refusalOfMen : Nat := 50
abbrev m_N_isSize : Nat := 51
abbrev m_N_isAnswerOrPlace : Nat := 52
abbrev m_M_within : Nat := 53
abbrev m_M_init : Nat := 54
abbrev m_M_feed : Nat := 55
abbrev m_M_see : Nat := 56
abbrev m_M_isSmall : Nat := 57
abbrev m_M_isDigit : Nat := 58
abbrev m_M_keyAt : Nat := 59
abbrev m_M_next : Nat := 60
abbrev m_M_fails : Nat := 61
abbrev m_M_is : Nat := 62
abbrev m_M_eats : Nat := 63
abbrev m_M_takes : Nat := 64
abbrev m_M_takesThing : Nat := 65
abbrev m_M_readThings : Nat := 66
abbrev m_M_readTwo : Nat := 67
abbrev m_M_readWorth : Nat := 68
abbrev m_M_readInn : Nat := 69
abbrev m_M_readLine : Nat := 70
abbrev m_M_lore : Nat := 71
abbrev m_M_fault : Nat := 72
abbrev m_M_isThing : Nat := 73
abbrev m_M_isInn : Nat := 74
abbrev m_M_isMan : Nat := 75
abbrev m_M_isSet : Nat := 76
abbrev m_M_thing : Nat := 77
abbrev m_M_news : Nat := 78
abbrev m_M_manAt : Nat := 79
abbrev m_M_many : Nat := 80
abbrev m_M_thingAt : Nat := 81
abbrev m_M_placeOf : Nat := 82
abbrev m_M_has : Nat := 83
abbrev m_M_bitsIn : Nat := 84
abbrev m_M_worthOf : Nat := 85
abbrev m_M_empties : Nat := 86
abbrev m_M_hear : Nat := 87
abbrev m_M_say : Nat := 88
abbrev m_M_walk : Nat := 89
abbrev m_M_deliver : Nat := 90
abbrev m_M_comes : Nat := 91
abbrev m_M_of : Nat := 92
abbrev m_M_lost : Nat := 93
abbrev m_M_hears : Nat := 94
abbrev m_M_says : Nat := 95
abbrev m_M_tell : Nat := 96
abbrev m_M_tells : Nat := 97
abbrev m_M_walks : Nat := 98
abbrev m_M_recites : Nat := 99
abbrev m_M_delivers : Nat := 100
abbrev m_M_isBreach : Nat := 101
abbrev m_M_breach : Nat := 102
abbrev m_M_triesAs : Nat := 103
abbrev m_M_risk : Nat := 104
abbrev m_M_loud : Nat := 105
abbrev m_M_bitsOf : Nat := 106
abbrev m_M_turned : Nat := 107
abbrev m_M_acts : Nat := 108
abbrev m_M_actsAll : Nat := 109
abbrev m_M_judge : Nat := 110
abbrev m_M_perform : Nat := 111
abbrev m_M_draw : Nat := 112
abbrev m_M_day : Nat := 113
abbrev m_M_areThings : Nat := 114
abbrev m_M_nextAt : Nat := 115
abbrev m_M_driven : Nat := 116
abbrev m_M_freshOf : Nat := 117
abbrev m_M_fresh : Nat := 118
abbrev m_M_kept : Nat := 119
abbrev m_M_less : Nat := 120
abbrev m_M_enough : Nat := 121
abbrev m_M_farBack : Nat := 122
abbrev m_M_throughOf : Nat := 123
abbrev m_M_tellsRow : Nat := 124
abbrev m_M_through : Nat := 125
abbrev m_M_sizeFor : Nat := 126
abbrev m_M_tellsAll : Nat := 127
abbrev m_M_told : Nat := 128
abbrev m_M_backOf : Nat := 129
abbrev m_M_back : Nat := 130
abbrev m_M_seeds : Nat := 131
abbrev m_M_canCarry : Nat := 132
abbrev m_M_leftIn : Nat := 133
abbrev m_M_without : Nat := 134
abbrev m_M_asThings : Nat := 135
abbrev m_M_laysMen : Nat := 136
abbrev m_M_refusesMen : Nat := 137
abbrev m_M_men : Nat := 138
abbrev m_M_load : Nat := 139
abbrev m_M_isBest : Nat := 140
abbrev m_M_rowsOf : Nat := 141
abbrev m_M_toldBest : Nat := 142
abbrev m_M_isWhat : Nat := 143
abbrev m_M_road : Nat := 144
abbrev m_M_questions : Nat := 145
abbrev m_M_asked : Nat := 146
abbrev m_M_broken : Nat := 147
abbrev m_M_piece : Nat := 148
abbrev m_M_stands : Nat := 149
abbrev m_M_isWithin : Nat := 150
abbrev m_M_lays : Nat := 151
abbrev m_M_isFirst : Nat := 152
abbrev m_M_joins : Nat := 153
abbrev m_M_joined : Nat := 154
abbrev m_M_firstIn : Nat := 155
abbrev m_M_areUnfit : Nat := 156
abbrev m_M_unfit : Nat := 157
abbrev m_M_gaps : Nat := 158
abbrev m_M_cut : Nat := 159
abbrev m_M_numbers : Nat := 160
abbrev m_M_write : Nat := 161
abbrev m_M_copy : Nat := 162
abbrev m_M_image : Nat := 163
abbrev m_M_restore : Nat := 164
abbrev m_M_count : Nat := 165
abbrev m_Ahead_init : Nat := 166
abbrev m_Ahead_chooseSayings : Nat := 167
abbrev m_Ahead_chooseQuestions : Nat := 168
abbrev m_Ahead_begin : Nat := 169
abbrev m_Ahead_sayOn : Nat := 170
abbrev m_Ahead_askOn : Nat := 171
abbrev m_Ahead_weigh : Nat := 172
abbrev m_Ahead_answer : Nat := 173
abbrev m_Carriers_init : Nat := 174
abbrev m_Carriers_fewest : Nat := 175
abbrev m_Carriers_loadOf : Nat := 176
abbrev m_Carriers_leastLoad : Nat := 177
abbrev m_Carriers_canCarry : Nat := 178
abbrev m_Carriers_canDivide : Nat := 179
abbrev m_Carriers_hardestOf : Nat := 180
abbrev m_Carriers_easyOf : Nat := 181
abbrev m_Carriers_tooMuchAt : Nat := 182
abbrev m_Carriers_isFull : Nat := 183
abbrev m_Company_init : Nat := 184
abbrev m_Company_likeOf : Nat := 185
abbrev m_Company_isOne : Nat := 186
abbrev m_Company_areTwo : Nat := 187
abbrev m_Company_addOne : Nat := 188
abbrev m_Company_turnedPairs : Nat := 189
abbrev m_Company_act : Nat := 190
abbrev m_Company_actOnce : Nat := 191
abbrev m_Company_hearIfThere : Nat := 192
abbrev m_Company_sayIfHeld : Nat := 193
abbrev m_Company_walkIfThere : Nat := 194
abbrev m_Company_listenIfNear : Nat := 195
abbrev m_Company_spendDay : Nat := 196
abbrev m_Company_spendOnce : Nat := 197
abbrev m_Company_draw : Nat := 198
abbrev m_Company_lostByAll : Nat := 199
abbrev m_Company_heldByHimAlone : Nat := 200
abbrev m_Company_heldBy : Nat := 201
abbrev m_Company_fewestHolding : Nat := 202
abbrev m_Courier_init : Nat := 203
abbrev m_Courier_begin : Nat := 204
abbrev m_Courier_likeOf : Nat := 205
abbrev m_Courier_likeMindOf : Nat := 206
abbrev m_Courier_setMind : Nat := 207
abbrev m_Courier_has : Nat := 208
abbrev m_Courier_thingAt : Nat := 209
abbrev m_Courier_placeOf : Nat := 210
abbrev m_Courier_hear : Nat := 211
abbrev m_Courier_bringForward : Nat := 212
abbrev m_Courier_loseLast : Nat := 213
abbrev m_Courier_say : Nat := 214
abbrev m_Courier_walk : Nat := 215
abbrev m_Courier_hearLatestOf : Nat := 216
abbrev m_Courier_recite : Nat := 217
abbrev m_Courier_deliver : Nat := 218
abbrev m_Hearings_init : Nat := 219
abbrev m_Hearings_takeRow : Nat := 220
abbrev m_Hearings_inRow : Nat := 221
abbrev m_Hearings_newOnes : Nat := 222
abbrev m_Hearings_newByRule : Nat := 223
abbrev m_Hearings_newByForesight : Nat := 224
abbrev m_Hearings_neededLast : Nat := 225
abbrev m_Hearings_unlikeSinceLast : Nat := 226
abbrev m_Hearings_comesThrough : Nat := 227
abbrev m_Hearings_tellBest : Nat := 228
abbrev m_Hearings_tellOn : Nat := 229
abbrev m_Hearings_weighOrder : Nat := 230
abbrev m_Hearings_answerOfTold : Nat := 231
abbrev m_Lore_init : Nat := 232
abbrev m_Lore_clear : Nat := 233
abbrev m_Lore_likeOf : Nat := 234
abbrev m_Lore_isThing : Nat := 235
abbrev m_Lore_isInn : Nat := 236
abbrev m_Lore_isSet : Nat := 237
abbrev m_Lore_allThings : Nat := 238
abbrev m_Lore_newsAt : Nat := 239
abbrev m_Lore_addNews : Nat := 240
abbrev m_Lore_newsOnWay : Nat := 241
abbrev m_Lore_worthOf : Nat := 242
abbrev m_Lore_secretPair : Nat := 243
abbrev m_Lore_comeBack : Nat := 244
abbrev m_Pieces_init : Nat := 245
abbrev m_Pieces_likeOf : Nat := 246
abbrev m_Pieces_addOne : Nat := 247
abbrev m_Pieces_thingOf : Nat := 248
abbrev m_Pieces_inThem : Nat := 249
abbrev m_Pieces_areUnfit : Nat := 250
abbrev m_Pieces_isTurned : Nat := 251
abbrev m_Pieces_firstPlace : Nat := 252
abbrev m_Pieces_join : Nat := 253
abbrev m_Pieces_isWithinAnother : Nat := 254
abbrev m_Pieces_overlapOf : Nat := 255
abbrev m_Pieces_isSame : Nat := 256
abbrev m_Pieces_joinOn : Nat := 257
abbrev m_Pieces_isFirstByThings : Nat := 258
abbrev m_Reader_init : Nat := 259
abbrev m_Reader_putOnTape : Nat := 260
abbrev m_Reader_readText : Nat := 261
abbrev m_Reader_fail : Nat := 262
abbrev m_Reader_readLine : Nat := 263
abbrev m_Reader_lineHere : Nat := 264
abbrev m_Reader_readThings : Nat := 265
abbrev m_Reader_readMind : Nat := 266
abbrev m_Reader_readPair : Nat := 267
abbrev m_Reader_readWorth : Nat := 268
abbrev m_Reader_readInn : Nat := 269
abbrev m_Reader_readThing : Nat := 270
abbrev m_Reader_readNumber : Nat := 271
abbrev m_Reader_numberStands : Nat := 272
abbrev m_Reader_readSign : Nat := 273
abbrev m_Reader_nextToken : Nat := 274
abbrev m_Reader_takeDigits : Nat := 275
abbrev m_Reader_isWord : Nat := 276
abbrev m_Reader_isLetter : Nat := 277
abbrev m_Reader_isDigit : Nat := 278
abbrev m_Row_init : Nat := 279
abbrev m_Row_begin : Nat := 280
abbrev m_Row_put : Nat := 281
abbrev m_Row_cut : Nat := 282
abbrev m_Seeds_init : Nat := 283
abbrev m_Seeds_fewestFor : Nat := 284
abbrev m_Seeds_prepare : Nat := 285
abbrev m_Seeds_leastSet : Nat := 286
abbrev m_World_init : Nat := 287
abbrev m_World_beginWith : Nat := 288
abbrev m_World_likeOf : Nat := 289
abbrev m_law_law : Nat := 290
abbrev m_Integer_bitCount : Nat := 291
abbrev m_Math_abs : Nat := 292
abbrev m_Math_max : Nat := 293
abbrev m_Math_min : Nat := 294
abbrev m_Arrays_fill_I : Nat := 295
abbrev m_Arrays_fill_J : Nat := 296
def ab_tgs : List (Nat × Nat) := [(0, 0), (0, 0), (0, 0), (0, 0), (0, 0), (0, 0), (0, 0), (0, 0), (0, 0), (0, 0), (0, 0), (0, 0), (0, 0), (0, 0), (0, 0), (0, 0), (0, 0), (0, 0), (0, 0), (0, 0), (5, 2), (5, 4), (1, 1233), (3, 2), (1, 500), (1, 152), (1, 9), (1, 204), (1, 16), (1, 16), (1, 40), (1, 6), (1, 65536), (1, 16), (1, 16), (3, 65536), (1, 3), (1, 3), (1, 48), (1, 48), (1, 4), (1, 4), (4, 160), (1, 3), (1, 3), (1, 16), (5, 6), (1, 16), (1, 40), (1, 6), (1, 6), (1, 16), (1, 16), (1, 16), (1, 10), (1, 90), (1, 6), (1, 48), (1, 36), (1, 48), (1, 48), (2, 500), (4, 40), (1, 16), (1, 16), (1, 16)]
def ab_tg : ab_T := fun t => ab_tgs.getD t (0, 0)
def ab_txs : List (List Nat) := [[32, 116, 104, 105, 110, 103, 115, 32, 109, 105, 110, 100, 32, 114, 104, 121, 109, 101, 32, 115, 101, 99, 114, 101, 116, 32, 119, 111, 114, 116, 104, 32, 105, 110, 110, 32], [116, 104, 105, 110, 103, 115], [109, 105, 110, 100], [114, 104, 121, 109, 101], [115, 101, 99, 114, 101, 116], [119, 111, 114, 116, 104], [105, 110, 110]]
def ab_tx (j : Nat) : List Nat := ab_txs.getD j []
noncomputable def ev (X : Nat × (Nat → Int)) (d m : Nat) (as : List ab_V) (h : ab_H) : Option ab_R := ab_ev ab_tg (ab_tx, X) ab_cds ab_nl d m as h
/-- the run of a method of this code from a place on -/
noncomputable def at_ (X : Nat × (Nat → Int)) (d : Nat) (cd : List (Nat × ab_E)) : ab_K := ab_lim ab_tg (ab_tx, X) (ab_lk cd) (ev X d)
noncomputable def rn (X : Nat × (Nat → Int)) (d : Nat) (cd : List (Nat × ab_E)) (cuts : List Nat) (n : Nat) : ab_K := ab_run ab_tg (ab_tx, X) (ab_lk cd) (ev X d) cuts n
theorem at_rn (X : Nat × (Nat → Int)) (d : Nat) (cd : List (Nat × ab_E)) (cuts : List Nat) (n pc : Nat) (L S : List ab_V) (h : ab_H) {e : ab_E} (he : ab_lk cd pc = some e) : at_ X d cd pc L S h = ab_stp ab_tg (ab_tx, X) (ev X d) e L S h (rn X d cd cuts n) := by
  unfold at_ rn
  rw [ab_run_eq]
  exact ab_lim_eq _ _ _ _ _ _ _ _ he
theorem ev_at (X : Nat × (Nat → Int)) (d m : Nat) (as : List ab_V) (h : ab_H) {cd : List (Nat × ab_E)} {n : Nat} (hc : ab_cds m = cd) (hn : ab_nl m = n) : ev X (d + 1) m as h = at_ X d cd 0 (ab_pad n (ab_ent as)) [] h := by
  subst hc; subst hn; rfl
end
end
section
section
theorem e_has (X : Nat × (Nat → Int)) (d : Nat) (as : List ab_V) (h : ab_H) : ev X (d + 1) m_Courier_has as h = at_ X d cd_Courier_has 0 (ab_pad 2 (ab_ent as)) [] h := ev_at X d _ as h rfl rfl
theorem b_has (X : Nat × (Nat → Int)) (d : Nat) (c : Nat) (t : Int) (h : ab_H) : at_ X d cd_Courier_has 0 [vR 3 c, vI t] [] h = if b_an (b_sr (h.2.2 3 c 3) t) 1 = 0 then some (some (vI 0), h) else some (some (vI 1), h) := (at_rn X d _ [] 20 0 _ _ _ rfl).trans rfl
theorem b_hear (X : Nat × (Nat → Int)) (d : Nat) (c : Nat) (t : Int) (h : ab_H) : at_ X d cd_Courier_hear 0 [vR 3 c, vI t] [] h = ab_ci (ev X d m_Courier_has [vR 3 c, vI t] h) fun y h => if y = 0 then at_ X d cd_Courier_hear 15 [vR 3 c, vI t] [] h else ab_cv (ev X d m_Courier_bringForward [vR 3 c, vI t] h) fun h => some (some (vI (-1)), h) := (at_rn X d _ [15] 20 0 _ _ _ rfl).trans rfl
end
end
section
section
/-- a private method of a class that the tables say can be made, by its rows of tables_1 -/
def lw_okq (q : MethodName × Nat) : Prop := (q.1.cls ≠ "java/lang/invoke/MethodHandle" ∧ q.1.cls ≠ "java/lang/invoke/VarHandle") ∧ Cond.instantiable q.1.cls q.2 ∈ tables_1 ∧ Cond.privateMethod q.1 ∈ tables_1 ∧ Cond.instanceMethod q.1 ∈ tables_1
theorem lw_p0 : lw_okq (⟨"NineInMind$Reader", "nextToken", "()V"⟩, 10) := ⟨⟨by decide +kernel, by decide +kernel⟩, List.mem_of_getElem? (i := 31) (by decide +kernel), List.mem_of_getElem? (i := 464) (by decide +kernel), List.mem_of_getElem? (i := 465) (by decide +kernel)⟩
theorem lw_p1 : lw_okq (⟨"NineInMind$Reader", "takeDigits", "()V"⟩, 10) := ⟨⟨by decide +kernel, by decide +kernel⟩, List.mem_of_getElem? (i := 31) (by decide +kernel), List.mem_of_getElem? (i := 474) (by decide +kernel), List.mem_of_getElem? (i := 475) (by decide +kernel)⟩
theorem lw_p2 : lw_okq (⟨"NineInMind$Reader", "readLine", "()Z"⟩, 10) := ⟨⟨by decide +kernel, by decide +kernel⟩, List.mem_of_getElem? (i := 31) (by decide +kernel), List.mem_of_getElem? (i := 478) (by decide +kernel), List.mem_of_getElem? (i := 479) (by decide +kernel)⟩
theorem lw_p3 : lw_okq (⟨"NineInMind$Reader", "fail", "(I)Z"⟩, 10) := ⟨⟨by decide +kernel, by decide +kernel⟩, List.mem_of_getElem? (i := 31) (by decide +kernel), List.mem_of_getElem? (i := 482) (by decide +kernel), List.mem_of_getElem? (i := 483) (by decide +kernel)⟩
theorem lw_p4 : lw_okq (⟨"NineInMind$Reader", "lineHere", "()I"⟩, 10) := ⟨⟨by decide +kernel, by decide +kernel⟩, List.mem_of_getElem? (i := 31) (by decide +kernel), List.mem_of_getElem? (i := 486) (by decide +kernel), List.mem_of_getElem? (i := 487) (by decide +kernel)⟩
theorem lw_p5 : lw_okq (⟨"NineInMind$Reader", "isWord", "(Ljava/lang/String;)Z"⟩, 10) := ⟨⟨by decide +kernel, by decide +kernel⟩, List.mem_of_getElem? (i := 31) (by decide +kernel), List.mem_of_getElem? (i := 491) (by decide +kernel), List.mem_of_getElem? (i := 492) (by decide +kernel)⟩
theorem lw_p6 : lw_okq (⟨"NineInMind$Reader", "readThings", "()Z"⟩, 10) := ⟨⟨by decide +kernel, by decide +kernel⟩, List.mem_of_getElem? (i := 31) (by decide +kernel), List.mem_of_getElem? (i := 548) (by decide +kernel), List.mem_of_getElem? (i := 549) (by decide +kernel)⟩
theorem lw_p7 : lw_okq (⟨"NineInMind$Reader", "readNumber", "(III)Z"⟩, 10) := ⟨⟨by decide +kernel, by decide +kernel⟩, List.mem_of_getElem? (i := 31) (by decide +kernel), List.mem_of_getElem? (i := 552) (by decide +kernel), List.mem_of_getElem? (i := 553) (by decide +kernel)⟩
theorem lw_p8 : lw_okq (⟨"NineInMind$Reader", "numberStands", "(III)Z"⟩, 10) := ⟨⟨by decide +kernel, by decide +kernel⟩, List.mem_of_getElem? (i := 31) (by decide +kernel), List.mem_of_getElem? (i := 556) (by decide +kernel), List.mem_of_getElem? (i := 557) (by decide +kernel)⟩
theorem lw_p9 : lw_okq (⟨"NineInMind$Reader", "readSign", "()Z"⟩, 10) := ⟨⟨by decide +kernel, by decide +kernel⟩, List.mem_of_getElem? (i := 31) (by decide +kernel), List.mem_of_getElem? (i := 560) (by decide +kernel), List.mem_of_getElem? (i := 561) (by decide +kernel)⟩
theorem lw_p10 : lw_okq (⟨"NineInMind$Reader", "readMind", "()Z"⟩, 10) := ⟨⟨by decide +kernel, by decide +kernel⟩, List.mem_of_getElem? (i := 31) (by decide +kernel), List.mem_of_getElem? (i := 564) (by decide +kernel), List.mem_of_getElem? (i := 565) (by decide +kernel)⟩
theorem lw_p11 : lw_okq (⟨"NineInMind$Reader", "readPair", "(Z)Z"⟩, 10) := ⟨⟨by decide +kernel, by decide +kernel⟩, List.mem_of_getElem? (i := 31) (by decide +kernel), List.mem_of_getElem? (i := 568) (by decide +kernel), List.mem_of_getElem? (i := 569) (by decide +kernel)⟩
theorem lw_p12 : lw_okq (⟨"NineInMind$Reader", "readThing", "(I)Z"⟩, 10) := ⟨⟨by decide +kernel, by decide +kernel⟩, List.mem_of_getElem? (i := 31) (by decide +kernel), List.mem_of_getElem? (i := 572) (by decide +kernel), List.mem_of_getElem? (i := 573) (by decide +kernel)⟩
theorem lw_p13 : lw_okq (⟨"NineInMind$Reader", "readWorth", "()Z"⟩, 10) := ⟨⟨by decide +kernel, by decide +kernel⟩, List.mem_of_getElem? (i := 31) (by decide +kernel), List.mem_of_getElem? (i := 576) (by decide +kernel), List.mem_of_getElem? (i := 577) (by decide +kernel)⟩
theorem lw_p14 : lw_okq (⟨"NineInMind$Reader", "readInn", "()Z"⟩, 10) := ⟨⟨by decide +kernel, by decide +kernel⟩, List.mem_of_getElem? (i := 31) (by decide +kernel), List.mem_of_getElem? (i := 580) (by decide +kernel), List.mem_of_getElem? (i := 581) (by decide +kernel)⟩
theorem lw_p15 : lw_okq (⟨"NineInMind$Courier", "bringForward", "(I)V"⟩, 7) := ⟨⟨by decide +kernel, by decide +kernel⟩, List.mem_of_getElem? (i := 147) (by decide +kernel), List.mem_of_getElem? (i := 678) (by decide +kernel), List.mem_of_getElem? (i := 679) (by decide +kernel)⟩
def lw_privs_1 : List (MethodName × Nat) := [(⟨"NineInMind$Reader", "nextToken", "()V"⟩, 10), (⟨"NineInMind$Reader", "takeDigits", "()V"⟩, 10), (⟨"NineInMind$Reader", "readLine", "()Z"⟩, 10), (⟨"NineInMind$Reader", "fail", "(I)Z"⟩, 10), (⟨"NineInMind$Reader", "lineHere", "()I"⟩, 10), (⟨"NineInMind$Reader", "isWord", "(Ljava/lang/String;)Z"⟩, 10), (⟨"NineInMind$Reader", "readThings", "()Z"⟩, 10), (⟨"NineInMind$Reader", "readNumber", "(III)Z"⟩, 10), (⟨"NineInMind$Reader", "numberStands", "(III)Z"⟩, 10), (⟨"NineInMind$Reader", "readSign", "()Z"⟩, 10), (⟨"NineInMind$Reader", "readMind", "()Z"⟩, 10), (⟨"NineInMind$Reader", "readPair", "(Z)Z"⟩, 10), (⟨"NineInMind$Reader", "readThing", "(I)Z"⟩, 10), (⟨"NineInMind$Reader", "readWorth", "()Z"⟩, 10), (⟨"NineInMind$Reader", "readInn", "()Z"⟩, 10), (⟨"NineInMind$Courier", "bringForward", "(I)V"⟩, 7)]
theorem lw_r1 : ∀ q ∈ lw_privs_1, lw_okq q := List.forall_mem_cons.mpr ⟨lw_p0, List.forall_mem_cons.mpr ⟨lw_p1, List.forall_mem_cons.mpr ⟨lw_p2, List.forall_mem_cons.mpr ⟨lw_p3, List.forall_mem_cons.mpr ⟨lw_p4, List.forall_mem_cons.mpr ⟨lw_p5, List.forall_mem_cons.mpr ⟨lw_p6, List.forall_mem_cons.mpr ⟨lw_p7, List.forall_mem_cons.mpr ⟨lw_p8, List.forall_mem_cons.mpr ⟨lw_p9, List.forall_mem_cons.mpr ⟨lw_p10, List.forall_mem_cons.mpr ⟨lw_p11, List.forall_mem_cons.mpr ⟨lw_p12, List.forall_mem_cons.mpr ⟨lw_p13, List.forall_mem_cons.mpr ⟨lw_p14, List.forall_mem_cons.mpr ⟨lw_p15, fun _ h => absurd h List.not_mem_nil⟩⟩⟩⟩⟩⟩⟩⟩⟩⟩⟩⟩⟩⟩⟩⟩
theorem lw_p16 : lw_okq (⟨"NineInMind$Courier", "loseLast", "()I"⟩, 7) := ⟨⟨by decide +kernel, by decide +kernel⟩, List.mem_of_getElem? (i := 147) (by decide +kernel), List.mem_of_getElem? (i := 690) (by decide +kernel), List.mem_of_getElem? (i := 691) (by decide +kernel)⟩
theorem lw_p17 : lw_okq (⟨"NineInMind", "refusalOfRow", "(I)I"⟩, 12) := ⟨⟨by decide +kernel, by decide +kernel⟩, List.mem_of_getElem? (i := 23) (by decide +kernel), List.mem_of_getElem? (i := 729) (by decide +kernel), List.mem_of_getElem? (i := 730) (by decide +kernel)⟩
theorem lw_p18 : lw_okq (⟨"NineInMind$Company", "actOnce", "(LNineInMind$Lore;IJ)Z"⟩, 4) := ⟨⟨by decide +kernel, by decide +kernel⟩, List.mem_of_getElem? (i := 140) (by decide +kernel), List.mem_of_getElem? (i := 801) (by decide +kernel), List.mem_of_getElem? (i := 802) (by decide +kernel)⟩
theorem lw_p19 : lw_okq (⟨"NineInMind$Company", "lostByAll", "()I"⟩, 4) := ⟨⟨by decide +kernel, by decide +kernel⟩, List.mem_of_getElem? (i := 140) (by decide +kernel), List.mem_of_getElem? (i := 840) (by decide +kernel), List.mem_of_getElem? (i := 841) (by decide +kernel)⟩
theorem lw_p20 : lw_okq (⟨"NineInMind$Company", "spendOnce", "(LNineInMind$Lore;LNineInMind$Courier;)V"⟩, 4) := ⟨⟨by decide +kernel, by decide +kernel⟩, List.mem_of_getElem? (i := 140) (by decide +kernel), List.mem_of_getElem? (i := 844) (by decide +kernel), List.mem_of_getElem? (i := 845) (by decide +kernel)⟩
theorem lw_p21 : lw_okq (⟨"NineInMind$Company", "draw", "()I"⟩, 4) := ⟨⟨by decide +kernel, by decide +kernel⟩, List.mem_of_getElem? (i := 140) (by decide +kernel), List.mem_of_getElem? (i := 848) (by decide +kernel), List.mem_of_getElem? (i := 849) (by decide +kernel)⟩
theorem lw_p22 : lw_okq (⟨"NineInMind", "refusalOfHearings", "(IIII)I"⟩, 12) := ⟨⟨by decide +kernel, by decide +kernel⟩, List.mem_of_getElem? (i := 23) (by decide +kernel), List.mem_of_getElem? (i := 857) (by decide +kernel), List.mem_of_getElem? (i := 858) (by decide +kernel)⟩
theorem lw_p23 : lw_okq (⟨"NineInMind$Hearings", "newByForesight", "(I)I"⟩, 11) := ⟨⟨by decide +kernel, by decide +kernel⟩, List.mem_of_getElem? (i := 262) (by decide +kernel), List.mem_of_getElem? (i := 873) (by decide +kernel), List.mem_of_getElem? (i := 874) (by decide +kernel)⟩
theorem lw_p24 : lw_okq (⟨"NineInMind$Hearings", "neededLast", "(I)I"⟩, 11) := ⟨⟨by decide +kernel, by decide +kernel⟩, List.mem_of_getElem? (i := 262) (by decide +kernel), List.mem_of_getElem? (i := 878) (by decide +kernel), List.mem_of_getElem? (i := 879) (by decide +kernel)⟩
theorem lw_p25 : lw_okq (⟨"NineInMind$Hearings", "newByRule", "(IZ)I"⟩, 11) := ⟨⟨by decide +kernel, by decide +kernel⟩, List.mem_of_getElem? (i := 262) (by decide +kernel), List.mem_of_getElem? (i := 882) (by decide +kernel), List.mem_of_getElem? (i := 883) (by decide +kernel)⟩
theorem lw_p26 : lw_okq (⟨"NineInMind$Hearings", "tellOn", "(LNineInMind$Lore;II)V"⟩, 11) := ⟨⟨by decide +kernel, by decide +kernel⟩, List.mem_of_getElem? (i := 262) (by decide +kernel), List.mem_of_getElem? (i := 942) (by decide +kernel), List.mem_of_getElem? (i := 943) (by decide +kernel)⟩
theorem lw_p27 : lw_okq (⟨"NineInMind$Hearings", "weighOrder", "(LNineInMind$Lore;)V"⟩, 11) := ⟨⟨by decide +kernel, by decide +kernel⟩, List.mem_of_getElem? (i := 262) (by decide +kernel), List.mem_of_getElem? (i := 946) (by decide +kernel), List.mem_of_getElem? (i := 947) (by decide +kernel)⟩
theorem lw_p28 : lw_okq (⟨"NineInMind$Seeds", "prepare", "(LNineInMind$Lore;I)V"⟩, 3) := ⟨⟨by decide +kernel, by decide +kernel⟩, List.mem_of_getElem? (i := 306) (by decide +kernel), List.mem_of_getElem? (i := 978) (by decide +kernel), List.mem_of_getElem? (i := 979) (by decide +kernel)⟩
theorem lw_p29 : lw_okq (⟨"NineInMind$Seeds", "leastSet", "(III)I"⟩, 3) := ⟨⟨by decide +kernel, by decide +kernel⟩, List.mem_of_getElem? (i := 306) (by decide +kernel), List.mem_of_getElem? (i := 985) (by decide +kernel), List.mem_of_getElem? (i := 986) (by decide +kernel)⟩
theorem lw_p30 : lw_okq (⟨"NineInMind", "refusalOfMen", "(IIZ)I"⟩, 12) := ⟨⟨by decide +kernel, by decide +kernel⟩, List.mem_of_getElem? (i := 23) (by decide +kernel), List.mem_of_getElem? (i := 997) (by decide +kernel), List.mem_of_getElem? (i := 998) (by decide +kernel)⟩
theorem lw_p31 : lw_okq (⟨"NineInMind$Carriers", "canCarry", "(III)Z"⟩, 4) := ⟨⟨by decide +kernel, by decide +kernel⟩, List.mem_of_getElem? (i := 322) (by decide +kernel), List.mem_of_getElem? (i := 1006) (by decide +kernel), List.mem_of_getElem? (i := 1007) (by decide +kernel)⟩
def lw_privs_2 : List (MethodName × Nat) := [(⟨"NineInMind$Courier", "loseLast", "()I"⟩, 7), (⟨"NineInMind", "refusalOfRow", "(I)I"⟩, 12), (⟨"NineInMind$Company", "actOnce", "(LNineInMind$Lore;IJ)Z"⟩, 4), (⟨"NineInMind$Company", "lostByAll", "()I"⟩, 4), (⟨"NineInMind$Company", "spendOnce", "(LNineInMind$Lore;LNineInMind$Courier;)V"⟩, 4), (⟨"NineInMind$Company", "draw", "()I"⟩, 4), (⟨"NineInMind", "refusalOfHearings", "(IIII)I"⟩, 12), (⟨"NineInMind$Hearings", "newByForesight", "(I)I"⟩, 11), (⟨"NineInMind$Hearings", "neededLast", "(I)I"⟩, 11), (⟨"NineInMind$Hearings", "newByRule", "(IZ)I"⟩, 11), (⟨"NineInMind$Hearings", "tellOn", "(LNineInMind$Lore;II)V"⟩, 11), (⟨"NineInMind$Hearings", "weighOrder", "(LNineInMind$Lore;)V"⟩, 11), (⟨"NineInMind$Seeds", "prepare", "(LNineInMind$Lore;I)V"⟩, 3), (⟨"NineInMind$Seeds", "leastSet", "(III)I"⟩, 3), (⟨"NineInMind", "refusalOfMen", "(IIZ)I"⟩, 12), (⟨"NineInMind$Carriers", "canCarry", "(III)Z"⟩, 4)]
theorem lw_r2 : ∀ q ∈ lw_privs_2, lw_okq q := List.forall_mem_cons.mpr ⟨lw_p16, List.forall_mem_cons.mpr ⟨lw_p17, List.forall_mem_cons.mpr ⟨lw_p18, List.forall_mem_cons.mpr ⟨lw_p19, List.forall_mem_cons.mpr ⟨lw_p20, List.forall_mem_cons.mpr ⟨lw_p21, List.forall_mem_cons.mpr ⟨lw_p22, List.forall_mem_cons.mpr ⟨lw_p23, List.forall_mem_cons.mpr ⟨lw_p24, List.forall_mem_cons.mpr ⟨lw_p25, List.forall_mem_cons.mpr ⟨lw_p26, List.forall_mem_cons.mpr ⟨lw_p27, List.forall_mem_cons.mpr ⟨lw_p28, List.forall_mem_cons.mpr ⟨lw_p29, List.forall_mem_cons.mpr ⟨lw_p30, List.forall_mem_cons.mpr ⟨lw_p31, fun _ h => absurd h List.not_mem_nil⟩⟩⟩⟩⟩⟩⟩⟩⟩⟩⟩⟩⟩⟩⟩⟩
theorem lw_p32 : lw_okq (⟨"NineInMind$Carriers", "hardestOf", "(I)I"⟩, 4) := ⟨⟨by decide +kernel, by decide +kernel⟩, List.mem_of_getElem? (i := 322) (by decide +kernel), List.mem_of_getElem? (i := 1011) (by decide +kernel), List.mem_of_getElem? (i := 1012) (by decide +kernel)⟩
theorem lw_p33 : lw_okq (⟨"NineInMind$Carriers", "easyOf", "(II)I"⟩, 4) := ⟨⟨by decide +kernel, by decide +kernel⟩, List.mem_of_getElem? (i := 322) (by decide +kernel), List.mem_of_getElem? (i := 1015) (by decide +kernel), List.mem_of_getElem? (i := 1016) (by decide +kernel)⟩
theorem lw_p34 : lw_okq (⟨"NineInMind$Carriers", "canDivide", "(IIII)Z"⟩, 4) := ⟨⟨by decide +kernel, by decide +kernel⟩, List.mem_of_getElem? (i := 322) (by decide +kernel), List.mem_of_getElem? (i := 1019) (by decide +kernel), List.mem_of_getElem? (i := 1020) (by decide +kernel)⟩
theorem lw_p35 : lw_okq (⟨"NineInMind$Carriers", "tooMuchAt", "(I)I"⟩, 4) := ⟨⟨by decide +kernel, by decide +kernel⟩, List.mem_of_getElem? (i := 322) (by decide +kernel), List.mem_of_getElem? (i := 1023) (by decide +kernel), List.mem_of_getElem? (i := 1024) (by decide +kernel)⟩
theorem lw_p36 : lw_okq (⟨"NineInMind$Carriers", "isFull", "(II)Z"⟩, 4) := ⟨⟨by decide +kernel, by decide +kernel⟩, List.mem_of_getElem? (i := 322) (by decide +kernel), List.mem_of_getElem? (i := 1027) (by decide +kernel), List.mem_of_getElem? (i := 1028) (by decide +kernel)⟩
theorem lw_p37 : lw_okq (⟨"NineInMind$Carriers", "leastLoad", "(III)I"⟩, 4) := ⟨⟨by decide +kernel, by decide +kernel⟩, List.mem_of_getElem? (i := 322) (by decide +kernel), List.mem_of_getElem? (i := 1039) (by decide +kernel), List.mem_of_getElem? (i := 1040) (by decide +kernel)⟩
theorem lw_p38 : lw_okq (⟨"NineInMind$Ahead", "begin", "(LNineInMind$Courier;I)V"⟩, 8) := ⟨⟨by decide +kernel, by decide +kernel⟩, List.mem_of_getElem? (i := 341) (by decide +kernel), List.mem_of_getElem? (i := 1053) (by decide +kernel), List.mem_of_getElem? (i := 1054) (by decide +kernel)⟩
theorem lw_p39 : lw_okq (⟨"NineInMind$Ahead", "sayOn", "(LNineInMind$Lore;II)V"⟩, 8) := ⟨⟨by decide +kernel, by decide +kernel⟩, List.mem_of_getElem? (i := 341) (by decide +kernel), List.mem_of_getElem? (i := 1058) (by decide +kernel), List.mem_of_getElem? (i := 1059) (by decide +kernel)⟩
theorem lw_p40 : lw_okq (⟨"NineInMind$Ahead", "weigh", "(II)V"⟩, 8) := ⟨⟨by decide +kernel, by decide +kernel⟩, List.mem_of_getElem? (i := 341) (by decide +kernel), List.mem_of_getElem? (i := 1064) (by decide +kernel), List.mem_of_getElem? (i := 1065) (by decide +kernel)⟩
theorem lw_p41 : lw_okq (⟨"NineInMind$Ahead", "askOn", "(LNineInMind$Lore;II)V"⟩, 8) := ⟨⟨by decide +kernel, by decide +kernel⟩, List.mem_of_getElem? (i := 341) (by decide +kernel), List.mem_of_getElem? (i := 1083) (by decide +kernel), List.mem_of_getElem? (i := 1084) (by decide +kernel)⟩
theorem lw_p42 : lw_okq (⟨"NineInMind$Company", "heldBy", "(I)I"⟩, 4) := ⟨⟨by decide +kernel, by decide +kernel⟩, List.mem_of_getElem? (i := 140) (by decide +kernel), List.mem_of_getElem? (i := 1096) (by decide +kernel), List.mem_of_getElem? (i := 1097) (by decide +kernel)⟩
theorem lw_p43 : lw_okq (⟨"NineInMind$Pieces", "isWithinAnother", "(I)Z"⟩, 7) := ⟨⟨by decide +kernel, by decide +kernel⟩, List.mem_of_getElem? (i := 209) (by decide +kernel), List.mem_of_getElem? (i := 1126) (by decide +kernel), List.mem_of_getElem? (i := 1127) (by decide +kernel)⟩
theorem lw_p44 : lw_okq (⟨"NineInMind$Pieces", "isSame", "(IIII)Z"⟩, 7) := ⟨⟨by decide +kernel, by decide +kernel⟩, List.mem_of_getElem? (i := 209) (by decide +kernel), List.mem_of_getElem? (i := 1130) (by decide +kernel), List.mem_of_getElem? (i := 1131) (by decide +kernel)⟩
theorem lw_p45 : lw_okq (⟨"NineInMind$Pieces", "thingOf", "(II)I"⟩, 7) := ⟨⟨by decide +kernel, by decide +kernel⟩, List.mem_of_getElem? (i := 209) (by decide +kernel), List.mem_of_getElem? (i := 1134) (by decide +kernel), List.mem_of_getElem? (i := 1135) (by decide +kernel)⟩
theorem lw_p46 : lw_okq (⟨"NineInMind$Pieces", "overlapOf", "(II)I"⟩, 7) := ⟨⟨by decide +kernel, by decide +kernel⟩, List.mem_of_getElem? (i := 209) (by decide +kernel), List.mem_of_getElem? (i := 1138) (by decide +kernel), List.mem_of_getElem? (i := 1139) (by decide +kernel)⟩
theorem lw_p47 : lw_okq (⟨"NineInMind$Pieces", "joinOn", "(IIII)V"⟩, 7) := ⟨⟨by decide +kernel, by decide +kernel⟩, List.mem_of_getElem? (i := 209) (by decide +kernel), List.mem_of_getElem? (i := 1143) (by decide +kernel), List.mem_of_getElem? (i := 1144) (by decide +kernel)⟩
def lw_privs_3 : List (MethodName × Nat) := [(⟨"NineInMind$Carriers", "hardestOf", "(I)I"⟩, 4), (⟨"NineInMind$Carriers", "easyOf", "(II)I"⟩, 4), (⟨"NineInMind$Carriers", "canDivide", "(IIII)Z"⟩, 4), (⟨"NineInMind$Carriers", "tooMuchAt", "(I)I"⟩, 4), (⟨"NineInMind$Carriers", "isFull", "(II)Z"⟩, 4), (⟨"NineInMind$Carriers", "leastLoad", "(III)I"⟩, 4), (⟨"NineInMind$Ahead", "begin", "(LNineInMind$Courier;I)V"⟩, 8), (⟨"NineInMind$Ahead", "sayOn", "(LNineInMind$Lore;II)V"⟩, 8), (⟨"NineInMind$Ahead", "weigh", "(II)V"⟩, 8), (⟨"NineInMind$Ahead", "askOn", "(LNineInMind$Lore;II)V"⟩, 8), (⟨"NineInMind$Company", "heldBy", "(I)I"⟩, 4), (⟨"NineInMind$Pieces", "isWithinAnother", "(I)Z"⟩, 7), (⟨"NineInMind$Pieces", "isSame", "(IIII)Z"⟩, 7), (⟨"NineInMind$Pieces", "thingOf", "(II)I"⟩, 7), (⟨"NineInMind$Pieces", "overlapOf", "(II)I"⟩, 7), (⟨"NineInMind$Pieces", "joinOn", "(IIII)V"⟩, 7)]
theorem lw_r3 : ∀ q ∈ lw_privs_3, lw_okq q := List.forall_mem_cons.mpr ⟨lw_p32, List.forall_mem_cons.mpr ⟨lw_p33, List.forall_mem_cons.mpr ⟨lw_p34, List.forall_mem_cons.mpr ⟨lw_p35, List.forall_mem_cons.mpr ⟨lw_p36, List.forall_mem_cons.mpr ⟨lw_p37, List.forall_mem_cons.mpr ⟨lw_p38, List.forall_mem_cons.mpr ⟨lw_p39, List.forall_mem_cons.mpr ⟨lw_p40, List.forall_mem_cons.mpr ⟨lw_p41, List.forall_mem_cons.mpr ⟨lw_p42, List.forall_mem_cons.mpr ⟨lw_p43, List.forall_mem_cons.mpr ⟨lw_p44, List.forall_mem_cons.mpr ⟨lw_p45, List.forall_mem_cons.mpr ⟨lw_p46, List.forall_mem_cons.mpr ⟨lw_p47, fun _ h => absurd h List.not_mem_nil⟩⟩⟩⟩⟩⟩⟩⟩⟩⟩⟩⟩⟩⟩⟩⟩
theorem lw_p48 : lw_okq (⟨"NineInMind$Pieces", "isFirstByThings", "(I)Z"⟩, 7) := ⟨⟨by decide +kernel, by decide +kernel⟩, List.mem_of_getElem? (i := 209) (by decide +kernel), List.mem_of_getElem? (i := 1147) (by decide +kernel), List.mem_of_getElem? (i := 1148) (by decide +kernel)⟩
theorem lw_p49 : lw_okq (⟨"NineInMind$Pieces", "isTurned", "(IIII)Z"⟩, 7) := ⟨⟨by decide +kernel, by decide +kernel⟩, List.mem_of_getElem? (i := 209) (by decide +kernel), List.mem_of_getElem? (i := 1159) (by decide +kernel), List.mem_of_getElem? (i := 1160) (by decide +kernel)⟩
theorem lw_p50 : lw_okq (⟨"NineInMind$Pieces", "firstPlace", "(II)I"⟩, 7) := ⟨⟨by decide +kernel, by decide +kernel⟩, List.mem_of_getElem? (i := 209) (by decide +kernel), List.mem_of_getElem? (i := 1163) (by decide +kernel), List.mem_of_getElem? (i := 1164) (by decide +kernel)⟩
theorem lw_p51 : lw_okq (⟨"NineInMind$Row", "cut", "(J)J"⟩, 4) := ⟨⟨by decide +kernel, by decide +kernel⟩, List.mem_of_getElem? (i := 373) (by decide +kernel), List.mem_of_getElem? (i := 1196) (by decide +kernel), List.mem_of_getElem? (i := 1197) (by decide +kernel)⟩
theorem lw_p52 : lw_okq (⟨"NineInMindModel", "next", "()V"⟩, 40) := ⟨⟨by decide +kernel, by decide +kernel⟩, List.mem_of_getElem? (i := 1225) (by decide +kernel), List.mem_of_getElem? (i := 1365) (by decide +kernel), List.mem_of_getElem? (i := 1366) (by decide +kernel)⟩
theorem lw_p53 : lw_okq (⟨"NineInMindModel", "see", "(I)I"⟩, 40) := ⟨⟨by decide +kernel, by decide +kernel⟩, List.mem_of_getElem? (i := 1225) (by decide +kernel), List.mem_of_getElem? (i := 1369) (by decide +kernel), List.mem_of_getElem? (i := 1370) (by decide +kernel)⟩
theorem lw_p54 : lw_okq (⟨"NineInMindModel", "keyAt", "()I"⟩, 40) := ⟨⟨by decide +kernel, by decide +kernel⟩, List.mem_of_getElem? (i := 1225) (by decide +kernel), List.mem_of_getElem? (i := 1376) (by decide +kernel), List.mem_of_getElem? (i := 1377) (by decide +kernel)⟩
theorem lw_p55 : lw_okq (⟨"NineInMindModel", "readLine", "()V"⟩, 40) := ⟨⟨by decide +kernel, by decide +kernel⟩, List.mem_of_getElem? (i := 1225) (by decide +kernel), List.mem_of_getElem? (i := 1386) (by decide +kernel), List.mem_of_getElem? (i := 1387) (by decide +kernel)⟩
theorem lw_p56 : lw_okq (⟨"NineInMindModel", "is", "(I)Z"⟩, 40) := ⟨⟨by decide +kernel, by decide +kernel⟩, List.mem_of_getElem? (i := 1225) (by decide +kernel), List.mem_of_getElem? (i := 1390) (by decide +kernel), List.mem_of_getElem? (i := 1391) (by decide +kernel)⟩
theorem lw_p57 : lw_okq (⟨"NineInMindModel", "readThings", "()V"⟩, 40) := ⟨⟨by decide +kernel, by decide +kernel⟩, List.mem_of_getElem? (i := 1225) (by decide +kernel), List.mem_of_getElem? (i := 1394) (by decide +kernel), List.mem_of_getElem? (i := 1395) (by decide +kernel)⟩
theorem lw_p58 : lw_okq (⟨"NineInMindModel", "fails", "(I)V"⟩, 40) := ⟨⟨by decide +kernel, by decide +kernel⟩, List.mem_of_getElem? (i := 1225) (by decide +kernel), List.mem_of_getElem? (i := 1398) (by decide +kernel), List.mem_of_getElem? (i := 1399) (by decide +kernel)⟩
theorem lw_p59 : lw_okq (⟨"NineInMindModel", "takes", "(II)I"⟩, 40) := ⟨⟨by decide +kernel, by decide +kernel⟩, List.mem_of_getElem? (i := 1225) (by decide +kernel), List.mem_of_getElem? (i := 1402) (by decide +kernel), List.mem_of_getElem? (i := 1403) (by decide +kernel)⟩
theorem lw_p60 : lw_okq (⟨"NineInMindModel", "readInn", "()V"⟩, 40) := ⟨⟨by decide +kernel, by decide +kernel⟩, List.mem_of_getElem? (i := 1225) (by decide +kernel), List.mem_of_getElem? (i := 1406) (by decide +kernel), List.mem_of_getElem? (i := 1407) (by decide +kernel)⟩
theorem lw_p61 : lw_okq (⟨"NineInMindModel", "takesThing", "()I"⟩, 40) := ⟨⟨by decide +kernel, by decide +kernel⟩, List.mem_of_getElem? (i := 1225) (by decide +kernel), List.mem_of_getElem? (i := 1410) (by decide +kernel), List.mem_of_getElem? (i := 1411) (by decide +kernel)⟩
theorem lw_p62 : lw_okq (⟨"NineInMindModel", "eats", "(I)Z"⟩, 40) := ⟨⟨by decide +kernel, by decide +kernel⟩, List.mem_of_getElem? (i := 1225) (by decide +kernel), List.mem_of_getElem? (i := 1414) (by decide +kernel), List.mem_of_getElem? (i := 1415) (by decide +kernel)⟩
theorem lw_p63 : lw_okq (⟨"NineInMindModel", "readTwo", "(Z)V"⟩, 40) := ⟨⟨by decide +kernel, by decide +kernel⟩, List.mem_of_getElem? (i := 1225) (by decide +kernel), List.mem_of_getElem? (i := 1418) (by decide +kernel), List.mem_of_getElem? (i := 1419) (by decide +kernel)⟩
def lw_privs_4 : List (MethodName × Nat) := [(⟨"NineInMind$Pieces", "isFirstByThings", "(I)Z"⟩, 7), (⟨"NineInMind$Pieces", "isTurned", "(IIII)Z"⟩, 7), (⟨"NineInMind$Pieces", "firstPlace", "(II)I"⟩, 7), (⟨"NineInMind$Row", "cut", "(J)J"⟩, 4), (⟨"NineInMindModel", "next", "()V"⟩, 40), (⟨"NineInMindModel", "see", "(I)I"⟩, 40), (⟨"NineInMindModel", "keyAt", "()I"⟩, 40), (⟨"NineInMindModel", "readLine", "()V"⟩, 40), (⟨"NineInMindModel", "is", "(I)Z"⟩, 40), (⟨"NineInMindModel", "readThings", "()V"⟩, 40), (⟨"NineInMindModel", "fails", "(I)V"⟩, 40), (⟨"NineInMindModel", "takes", "(II)I"⟩, 40), (⟨"NineInMindModel", "readInn", "()V"⟩, 40), (⟨"NineInMindModel", "takesThing", "()I"⟩, 40), (⟨"NineInMindModel", "eats", "(I)Z"⟩, 40), (⟨"NineInMindModel", "readTwo", "(Z)V"⟩, 40)]
theorem lw_r4 : ∀ q ∈ lw_privs_4, lw_okq q := List.forall_mem_cons.mpr ⟨lw_p48, List.forall_mem_cons.mpr ⟨lw_p49, List.forall_mem_cons.mpr ⟨lw_p50, List.forall_mem_cons.mpr ⟨lw_p51, List.forall_mem_cons.mpr ⟨lw_p52, List.forall_mem_cons.mpr ⟨lw_p53, List.forall_mem_cons.mpr ⟨lw_p54, List.forall_mem_cons.mpr ⟨lw_p55, List.forall_mem_cons.mpr ⟨lw_p56, List.forall_mem_cons.mpr ⟨lw_p57, List.forall_mem_cons.mpr ⟨lw_p58, List.forall_mem_cons.mpr ⟨lw_p59, List.forall_mem_cons.mpr ⟨lw_p60, List.forall_mem_cons.mpr ⟨lw_p61, List.forall_mem_cons.mpr ⟨lw_p62, List.forall_mem_cons.mpr ⟨lw_p63, fun _ h => absurd h List.not_mem_nil⟩⟩⟩⟩⟩⟩⟩⟩⟩⟩⟩⟩⟩⟩⟩⟩
theorem lw_p64 : lw_okq (⟨"NineInMindModel", "readWorth", "()V"⟩, 40) := ⟨⟨by decide +kernel, by decide +kernel⟩, List.mem_of_getElem? (i := 1225) (by decide +kernel), List.mem_of_getElem? (i := 1422) (by decide +kernel), List.mem_of_getElem? (i := 1423) (by decide +kernel)⟩
theorem lw_p65 : lw_okq (⟨"NineInMindModel", "isThing", "(J)Z"⟩, 40) := ⟨⟨by decide +kernel, by decide +kernel⟩, List.mem_of_getElem? (i := 1225) (by decide +kernel), List.mem_of_getElem? (i := 1434) (by decide +kernel), List.mem_of_getElem? (i := 1435) (by decide +kernel)⟩
theorem lw_p66 : lw_okq (⟨"NineInMindModel", "isInn", "(J)Z"⟩, 40) := ⟨⟨by decide +kernel, by decide +kernel⟩, List.mem_of_getElem? (i := 1225) (by decide +kernel), List.mem_of_getElem? (i := 1443) (by decide +kernel), List.mem_of_getElem? (i := 1444) (by decide +kernel)⟩
theorem lw_p67 : lw_okq (⟨"NineInMindModel", "empties", "(II)V"⟩, 40) := ⟨⟨by decide +kernel, by decide +kernel⟩, List.mem_of_getElem? (i := 1225) (by decide +kernel), List.mem_of_getElem? (i := 1451) (by decide +kernel), List.mem_of_getElem? (i := 1452) (by decide +kernel)⟩
theorem lw_p68 : lw_okq (⟨"NineInMindModel", "isMan", "(J)Z"⟩, 40) := ⟨⟨by decide +kernel, by decide +kernel⟩, List.mem_of_getElem? (i := 1225) (by decide +kernel), List.mem_of_getElem? (i := 1462) (by decide +kernel), List.mem_of_getElem? (i := 1463) (by decide +kernel)⟩
theorem lw_p69 : lw_okq (⟨"NineInMindModel", "many", "(I)I"⟩, 40) := ⟨⟨by decide +kernel, by decide +kernel⟩, List.mem_of_getElem? (i := 1225) (by decide +kernel), List.mem_of_getElem? (i := 1468) (by decide +kernel), List.mem_of_getElem? (i := 1469) (by decide +kernel)⟩
theorem lw_p70 : lw_okq (⟨"NineInMindModel", "thingAt", "(II)I"⟩, 40) := ⟨⟨by decide +kernel, by decide +kernel⟩, List.mem_of_getElem? (i := 1225) (by decide +kernel), List.mem_of_getElem? (i := 1472) (by decide +kernel), List.mem_of_getElem? (i := 1473) (by decide +kernel)⟩
theorem lw_p71 : lw_okq (⟨"NineInMindModel", "bitsIn", "(I)I"⟩, 40) := ⟨⟨by decide +kernel, by decide +kernel⟩, List.mem_of_getElem? (i := 1225) (by decide +kernel), List.mem_of_getElem? (i := 1476) (by decide +kernel), List.mem_of_getElem? (i := 1477) (by decide +kernel)⟩
theorem lw_p72 : lw_okq (⟨"NineInMindModel", "worthOf", "(I)I"⟩, 40) := ⟨⟨by decide +kernel, by decide +kernel⟩, List.mem_of_getElem? (i := 1225) (by decide +kernel), List.mem_of_getElem? (i := 1480) (by decide +kernel), List.mem_of_getElem? (i := 1481) (by decide +kernel)⟩
theorem lw_p73 : lw_okq (⟨"NineInMindModel", "hear", "(II)I"⟩, 40) := ⟨⟨by decide +kernel, by decide +kernel⟩, List.mem_of_getElem? (i := 1225) (by decide +kernel), List.mem_of_getElem? (i := 1492) (by decide +kernel), List.mem_of_getElem? (i := 1493) (by decide +kernel)⟩
theorem lw_p74 : lw_okq (⟨"NineInMindModel", "placeOf", "(II)I"⟩, 40) := ⟨⟨by decide +kernel, by decide +kernel⟩, List.mem_of_getElem? (i := 1225) (by decide +kernel), List.mem_of_getElem? (i := 1496) (by decide +kernel), List.mem_of_getElem? (i := 1497) (by decide +kernel)⟩
theorem lw_p75 : lw_okq (⟨"NineInMindModel", "has", "(II)Z"⟩, 40) := ⟨⟨by decide +kernel, by decide +kernel⟩, List.mem_of_getElem? (i := 1225) (by decide +kernel), List.mem_of_getElem? (i := 1504) (by decide +kernel), List.mem_of_getElem? (i := 1505) (by decide +kernel)⟩
theorem lw_p76 : lw_okq (⟨"NineInMindModel", "say", "(II)I"⟩, 40) := ⟨⟨by decide +kernel, by decide +kernel⟩, List.mem_of_getElem? (i := 1225) (by decide +kernel), List.mem_of_getElem? (i := 1508) (by decide +kernel), List.mem_of_getElem? (i := 1509) (by decide +kernel)⟩
theorem lw_p77 : lw_okq (⟨"NineInMindModel", "tell", "(III)I"⟩, 40) := ⟨⟨by decide +kernel, by decide +kernel⟩, List.mem_of_getElem? (i := 1225) (by decide +kernel), List.mem_of_getElem? (i := 1516) (by decide +kernel), List.mem_of_getElem? (i := 1517) (by decide +kernel)⟩
theorem lw_p78 : lw_okq (⟨"NineInMindModel", "walk", "(II)I"⟩, 40) := ⟨⟨by decide +kernel, by decide +kernel⟩, List.mem_of_getElem? (i := 1225) (by decide +kernel), List.mem_of_getElem? (i := 1524) (by decide +kernel), List.mem_of_getElem? (i := 1525) (by decide +kernel)⟩
theorem lw_p79 : lw_okq (⟨"NineInMindModel", "deliver", "(I)I"⟩, 40) := ⟨⟨by decide +kernel, by decide +kernel⟩, List.mem_of_getElem? (i := 1225) (by decide +kernel), List.mem_of_getElem? (i := 1537) (by decide +kernel), List.mem_of_getElem? (i := 1538) (by decide +kernel)⟩
def lw_privs_5 : List (MethodName × Nat) := [(⟨"NineInMindModel", "readWorth", "()V"⟩, 40), (⟨"NineInMindModel", "isThing", "(J)Z"⟩, 40), (⟨"NineInMindModel", "isInn", "(J)Z"⟩, 40), (⟨"NineInMindModel", "empties", "(II)V"⟩, 40), (⟨"NineInMindModel", "isMan", "(J)Z"⟩, 40), (⟨"NineInMindModel", "many", "(I)I"⟩, 40), (⟨"NineInMindModel", "thingAt", "(II)I"⟩, 40), (⟨"NineInMindModel", "bitsIn", "(I)I"⟩, 40), (⟨"NineInMindModel", "worthOf", "(I)I"⟩, 40), (⟨"NineInMindModel", "hear", "(II)I"⟩, 40), (⟨"NineInMindModel", "placeOf", "(II)I"⟩, 40), (⟨"NineInMindModel", "has", "(II)Z"⟩, 40), (⟨"NineInMindModel", "say", "(II)I"⟩, 40), (⟨"NineInMindModel", "tell", "(III)I"⟩, 40), (⟨"NineInMindModel", "walk", "(II)I"⟩, 40), (⟨"NineInMindModel", "deliver", "(I)I"⟩, 40)]
theorem lw_r5 : ∀ q ∈ lw_privs_5, lw_okq q := List.forall_mem_cons.mpr ⟨lw_p64, List.forall_mem_cons.mpr ⟨lw_p65, List.forall_mem_cons.mpr ⟨lw_p66, List.forall_mem_cons.mpr ⟨lw_p67, List.forall_mem_cons.mpr ⟨lw_p68, List.forall_mem_cons.mpr ⟨lw_p69, List.forall_mem_cons.mpr ⟨lw_p70, List.forall_mem_cons.mpr ⟨lw_p71, List.forall_mem_cons.mpr ⟨lw_p72, List.forall_mem_cons.mpr ⟨lw_p73, List.forall_mem_cons.mpr ⟨lw_p74, List.forall_mem_cons.mpr ⟨lw_p75, List.forall_mem_cons.mpr ⟨lw_p76, List.forall_mem_cons.mpr ⟨lw_p77, List.forall_mem_cons.mpr ⟨lw_p78, List.forall_mem_cons.mpr ⟨lw_p79, fun _ h => absurd h List.not_mem_nil⟩⟩⟩⟩⟩⟩⟩⟩⟩⟩⟩⟩⟩⟩⟩⟩
theorem lw_p80 : lw_okq (⟨"NineInMindModel", "triesAs", "(I)V"⟩, 40) := ⟨⟨by decide +kernel, by decide +kernel⟩, List.mem_of_getElem? (i := 1225) (by decide +kernel), List.mem_of_getElem? (i := 1549) (by decide +kernel), List.mem_of_getElem? (i := 1550) (by decide +kernel)⟩
theorem lw_p81 : lw_okq (⟨"NineInMindModel", "isBreach", "(I)Z"⟩, 40) := ⟨⟨by decide +kernel, by decide +kernel⟩, List.mem_of_getElem? (i := 1225) (by decide +kernel), List.mem_of_getElem? (i := 1553) (by decide +kernel), List.mem_of_getElem? (i := 1554) (by decide +kernel)⟩
theorem lw_p82 : lw_okq (⟨"NineInMindModel", "actsAll", "(II)I"⟩, 40) := ⟨⟨by decide +kernel, by decide +kernel⟩, List.mem_of_getElem? (i := 1225) (by decide +kernel), List.mem_of_getElem? (i := 1572) (by decide +kernel), List.mem_of_getElem? (i := 1573) (by decide +kernel)⟩
theorem lw_p83 : lw_okq (⟨"NineInMindModel", "acts", "(IJ)Z"⟩, 40) := ⟨⟨by decide +kernel, by decide +kernel⟩, List.mem_of_getElem? (i := 1225) (by decide +kernel), List.mem_of_getElem? (i := 1576) (by decide +kernel), List.mem_of_getElem? (i := 1577) (by decide +kernel)⟩
theorem lw_p84 : lw_okq (⟨"NineInMindModel", "draw", "(I)I"⟩, 40) := ⟨⟨by decide +kernel, by decide +kernel⟩, List.mem_of_getElem? (i := 1225) (by decide +kernel), List.mem_of_getElem? (i := 1594) (by decide +kernel), List.mem_of_getElem? (i := 1595) (by decide +kernel)⟩
theorem lw_p85 : lw_okq (⟨"NineInMindModel", "areThings", "(I)Z"⟩, 40) := ⟨⟨by decide +kernel, by decide +kernel⟩, List.mem_of_getElem? (i := 1225) (by decide +kernel), List.mem_of_getElem? (i := 1603) (by decide +kernel), List.mem_of_getElem? (i := 1604) (by decide +kernel)⟩
theorem lw_p86 : lw_okq (⟨"NineInMindModel", "freshOf", "(III)I"⟩, 40) := ⟨⟨by decide +kernel, by decide +kernel⟩, List.mem_of_getElem? (i := 1225) (by decide +kernel), List.mem_of_getElem? (i := 1607) (by decide +kernel), List.mem_of_getElem? (i := 1608) (by decide +kernel)⟩
theorem lw_p87 : lw_okq (⟨"NineInMindModel", "driven", "(III)I"⟩, 40) := ⟨⟨by decide +kernel, by decide +kernel⟩, List.mem_of_getElem? (i := 1225) (by decide +kernel), List.mem_of_getElem? (i := 1611) (by decide +kernel), List.mem_of_getElem? (i := 1612) (by decide +kernel)⟩
theorem lw_p88 : lw_okq (⟨"NineInMindModel", "nextAt", "(III)I"⟩, 40) := ⟨⟨by decide +kernel, by decide +kernel⟩, List.mem_of_getElem? (i := 1225) (by decide +kernel), List.mem_of_getElem? (i := 1615) (by decide +kernel), List.mem_of_getElem? (i := 1616) (by decide +kernel)⟩
theorem lw_p89 : lw_okq (⟨"NineInMindModel", "tellsRow", "(I)V"⟩, 40) := ⟨⟨by decide +kernel, by decide +kernel⟩, List.mem_of_getElem? (i := 1225) (by decide +kernel), List.mem_of_getElem? (i := 1639) (by decide +kernel), List.mem_of_getElem? (i := 1640) (by decide +kernel)⟩
theorem lw_p90 : lw_okq (⟨"NineInMindModel", "throughOf", "(III)I"⟩, 40) := ⟨⟨by decide +kernel, by decide +kernel⟩, List.mem_of_getElem? (i := 1225) (by decide +kernel), List.mem_of_getElem? (i := 1643) (by decide +kernel), List.mem_of_getElem? (i := 1644) (by decide +kernel)⟩
theorem lw_p91 : lw_okq (⟨"NineInMindModel", "isSet", "(I)Z"⟩, 40) := ⟨⟨by decide +kernel, by decide +kernel⟩, List.mem_of_getElem? (i := 1225) (by decide +kernel), List.mem_of_getElem? (i := 1657) (by decide +kernel), List.mem_of_getElem? (i := 1658) (by decide +kernel)⟩
theorem lw_p92 : lw_okq (⟨"NineInMindModel", "tellsAll", "(IIII)V"⟩, 40) := ⟨⟨by decide +kernel, by decide +kernel⟩, List.mem_of_getElem? (i := 1225) (by decide +kernel), List.mem_of_getElem? (i := 1661) (by decide +kernel), List.mem_of_getElem? (i := 1662) (by decide +kernel)⟩
theorem lw_p93 : lw_okq (⟨"NineInMindModel", "backOf", "(I)I"⟩, 40) := ⟨⟨by decide +kernel, by decide +kernel⟩, List.mem_of_getElem? (i := 1225) (by decide +kernel), List.mem_of_getElem? (i := 1669) (by decide +kernel), List.mem_of_getElem? (i := 1670) (by decide +kernel)⟩
theorem lw_p94 : lw_okq (⟨"NineInMindModel", "refusesMen", "(IIZ)I"⟩, 40) := ⟨⟨by decide +kernel, by decide +kernel⟩, List.mem_of_getElem? (i := 1225) (by decide +kernel), List.mem_of_getElem? (i := 1681) (by decide +kernel), List.mem_of_getElem? (i := 1682) (by decide +kernel)⟩
theorem lw_p95 : lw_okq (⟨"NineInMindModel", "laysMen", "(IIZ)I"⟩, 40) := ⟨⟨by decide +kernel, by decide +kernel⟩, List.mem_of_getElem? (i := 1225) (by decide +kernel), List.mem_of_getElem? (i := 1685) (by decide +kernel), List.mem_of_getElem? (i := 1686) (by decide +kernel)⟩
def lw_privs_6 : List (MethodName × Nat) := [(⟨"NineInMindModel", "triesAs", "(I)V"⟩, 40), (⟨"NineInMindModel", "isBreach", "(I)Z"⟩, 40), (⟨"NineInMindModel", "actsAll", "(II)I"⟩, 40), (⟨"NineInMindModel", "acts", "(IJ)Z"⟩, 40), (⟨"NineInMindModel", "draw", "(I)I"⟩, 40), (⟨"NineInMindModel", "areThings", "(I)Z"⟩, 40), (⟨"NineInMindModel", "freshOf", "(III)I"⟩, 40), (⟨"NineInMindModel", "driven", "(III)I"⟩, 40), (⟨"NineInMindModel", "nextAt", "(III)I"⟩, 40), (⟨"NineInMindModel", "tellsRow", "(I)V"⟩, 40), (⟨"NineInMindModel", "throughOf", "(III)I"⟩, 40), (⟨"NineInMindModel", "isSet", "(I)Z"⟩, 40), (⟨"NineInMindModel", "tellsAll", "(IIII)V"⟩, 40), (⟨"NineInMindModel", "backOf", "(I)I"⟩, 40), (⟨"NineInMindModel", "refusesMen", "(IIZ)I"⟩, 40), (⟨"NineInMindModel", "laysMen", "(IIZ)I"⟩, 40)]
theorem lw_r6 : ∀ q ∈ lw_privs_6, lw_okq q := List.forall_mem_cons.mpr ⟨lw_p80, List.forall_mem_cons.mpr ⟨lw_p81, List.forall_mem_cons.mpr ⟨lw_p82, List.forall_mem_cons.mpr ⟨lw_p83, List.forall_mem_cons.mpr ⟨lw_p84, List.forall_mem_cons.mpr ⟨lw_p85, List.forall_mem_cons.mpr ⟨lw_p86, List.forall_mem_cons.mpr ⟨lw_p87, List.forall_mem_cons.mpr ⟨lw_p88, List.forall_mem_cons.mpr ⟨lw_p89, List.forall_mem_cons.mpr ⟨lw_p90, List.forall_mem_cons.mpr ⟨lw_p91, List.forall_mem_cons.mpr ⟨lw_p92, List.forall_mem_cons.mpr ⟨lw_p93, List.forall_mem_cons.mpr ⟨lw_p94, List.forall_mem_cons.mpr ⟨lw_p95, fun _ h => absurd h List.not_mem_nil⟩⟩⟩⟩⟩⟩⟩⟩⟩⟩⟩⟩⟩⟩⟩⟩
theorem lw_p96 : lw_okq (⟨"NineInMindModel", "asThings", "(I)I"⟩, 40) := ⟨⟨by decide +kernel, by decide +kernel⟩, List.mem_of_getElem? (i := 1225) (by decide +kernel), List.mem_of_getElem? (i := 1689) (by decide +kernel), List.mem_of_getElem? (i := 1690) (by decide +kernel)⟩
theorem lw_p97 : lw_okq (⟨"NineInMindModel", "canCarry", "(II)Z"⟩, 40) := ⟨⟨by decide +kernel, by decide +kernel⟩, List.mem_of_getElem? (i := 1225) (by decide +kernel), List.mem_of_getElem? (i := 1693) (by decide +kernel), List.mem_of_getElem? (i := 1694) (by decide +kernel)⟩
theorem lw_p98 : lw_okq (⟨"NineInMindModel", "leftIn", "(IZ)I"⟩, 40) := ⟨⟨by decide +kernel, by decide +kernel⟩, List.mem_of_getElem? (i := 1225) (by decide +kernel), List.mem_of_getElem? (i := 1697) (by decide +kernel), List.mem_of_getElem? (i := 1698) (by decide +kernel)⟩
theorem lw_p99 : lw_okq (⟨"NineInMindModel", "without", "(II)I"⟩, 40) := ⟨⟨by decide +kernel, by decide +kernel⟩, List.mem_of_getElem? (i := 1225) (by decide +kernel), List.mem_of_getElem? (i := 1701) (by decide +kernel), List.mem_of_getElem? (i := 1702) (by decide +kernel)⟩
theorem lw_p100 : lw_okq (⟨"NineInMindModel", "rowsOf", "(IIIII)V"⟩, 40) := ⟨⟨by decide +kernel, by decide +kernel⟩, List.mem_of_getElem? (i := 1225) (by decide +kernel), List.mem_of_getElem? (i := 1717) (by decide +kernel), List.mem_of_getElem? (i := 1718) (by decide +kernel)⟩
theorem lw_p101 : lw_okq (⟨"NineInMindModel", "isBest", "(II)V"⟩, 40) := ⟨⟨by decide +kernel, by decide +kernel⟩, List.mem_of_getElem? (i := 1225) (by decide +kernel), List.mem_of_getElem? (i := 1721) (by decide +kernel), List.mem_of_getElem? (i := 1722) (by decide +kernel)⟩
theorem lw_p102 : lw_okq (⟨"NineInMindModel", "toldBest", "(I)I"⟩, 40) := ⟨⟨by decide +kernel, by decide +kernel⟩, List.mem_of_getElem? (i := 1225) (by decide +kernel), List.mem_of_getElem? (i := 1725) (by decide +kernel), List.mem_of_getElem? (i := 1726) (by decide +kernel)⟩
theorem lw_p103 : lw_okq (⟨"NineInMindModel", "isWithin", "(I)Z"⟩, 40) := ⟨⟨by decide +kernel, by decide +kernel⟩, List.mem_of_getElem? (i := 1225) (by decide +kernel), List.mem_of_getElem? (i := 1750) (by decide +kernel), List.mem_of_getElem? (i := 1751) (by decide +kernel)⟩
theorem lw_p104 : lw_okq (⟨"NineInMindModel", "stands", "(I[III)Z"⟩, 40) := ⟨⟨by decide +kernel, by decide +kernel⟩, List.mem_of_getElem? (i := 1225) (by decide +kernel), List.mem_of_getElem? (i := 1754) (by decide +kernel), List.mem_of_getElem? (i := 1755) (by decide +kernel)⟩
theorem lw_p105 : lw_okq (⟨"NineInMindModel", "joins", "(II)V"⟩, 40) := ⟨⟨by decide +kernel, by decide +kernel⟩, List.mem_of_getElem? (i := 1225) (by decide +kernel), List.mem_of_getElem? (i := 1758) (by decide +kernel), List.mem_of_getElem? (i := 1759) (by decide +kernel)⟩
theorem lw_p106 : lw_okq (⟨"NineInMindModel", "isFirst", "(I)Z"⟩, 40) := ⟨⟨by decide +kernel, by decide +kernel⟩, List.mem_of_getElem? (i := 1225) (by decide +kernel), List.mem_of_getElem? (i := 1762) (by decide +kernel), List.mem_of_getElem? (i := 1763) (by decide +kernel)⟩
theorem lw_p107 : lw_okq (⟨"NineInMindModel", "lays", "(II)I"⟩, 40) := ⟨⟨by decide +kernel, by decide +kernel⟩, List.mem_of_getElem? (i := 1225) (by decide +kernel), List.mem_of_getElem? (i := 1766) (by decide +kernel), List.mem_of_getElem? (i := 1767) (by decide +kernel)⟩
theorem lw_p108 : lw_okq (⟨"NineInMindModel", "areUnfit", "(II)Z"⟩, 40) := ⟨⟨by decide +kernel, by decide +kernel⟩, List.mem_of_getElem? (i := 1225) (by decide +kernel), List.mem_of_getElem? (i := 1774) (by decide +kernel), List.mem_of_getElem? (i := 1775) (by decide +kernel)⟩
theorem lw_p109 : lw_okq (⟨"NineInMindModel", "firstIn", "(II)I"⟩, 40) := ⟨⟨by decide +kernel, by decide +kernel⟩, List.mem_of_getElem? (i := 1225) (by decide +kernel), List.mem_of_getElem? (i := 1778) (by decide +kernel), List.mem_of_getElem? (i := 1779) (by decide +kernel)⟩
def lw_privs_7 : List (MethodName × Nat) := [(⟨"NineInMindModel", "asThings", "(I)I"⟩, 40), (⟨"NineInMindModel", "canCarry", "(II)Z"⟩, 40), (⟨"NineInMindModel", "leftIn", "(IZ)I"⟩, 40), (⟨"NineInMindModel", "without", "(II)I"⟩, 40), (⟨"NineInMindModel", "rowsOf", "(IIIII)V"⟩, 40), (⟨"NineInMindModel", "isBest", "(II)V"⟩, 40), (⟨"NineInMindModel", "toldBest", "(I)I"⟩, 40), (⟨"NineInMindModel", "isWithin", "(I)Z"⟩, 40), (⟨"NineInMindModel", "stands", "(I[III)Z"⟩, 40), (⟨"NineInMindModel", "joins", "(II)V"⟩, 40), (⟨"NineInMindModel", "isFirst", "(I)Z"⟩, 40), (⟨"NineInMindModel", "lays", "(II)I"⟩, 40), (⟨"NineInMindModel", "areUnfit", "(II)Z"⟩, 40), (⟨"NineInMindModel", "firstIn", "(II)I"⟩, 40)]
theorem lw_r7 : ∀ q ∈ lw_privs_7, lw_okq q := List.forall_mem_cons.mpr ⟨lw_p96, List.forall_mem_cons.mpr ⟨lw_p97, List.forall_mem_cons.mpr ⟨lw_p98, List.forall_mem_cons.mpr ⟨lw_p99, List.forall_mem_cons.mpr ⟨lw_p100, List.forall_mem_cons.mpr ⟨lw_p101, List.forall_mem_cons.mpr ⟨lw_p102, List.forall_mem_cons.mpr ⟨lw_p103, List.forall_mem_cons.mpr ⟨lw_p104, List.forall_mem_cons.mpr ⟨lw_p105, List.forall_mem_cons.mpr ⟨lw_p106, List.forall_mem_cons.mpr ⟨lw_p107, List.forall_mem_cons.mpr ⟨lw_p108, List.forall_mem_cons.mpr ⟨lw_p109, fun _ h => absurd h List.not_mem_nil⟩⟩⟩⟩⟩⟩⟩⟩⟩⟩⟩⟩⟩⟩
def lw_privs : List (MethodName × Nat) := lw_privs_1 ++ (lw_privs_2 ++ (lw_privs_3 ++ (lw_privs_4 ++ (lw_privs_5 ++ (lw_privs_6 ++ (lw_privs_7))))))
def lw_tbl : List Cond := k2_sels lw_privs ++ tables_1
theorem lw_privs_ok : ∀ q ∈ lw_privs, lw_okq q := by
  show ∀ q ∈ lw_privs_1 ++ (lw_privs_2 ++ (lw_privs_3 ++ (lw_privs_4 ++ (lw_privs_5 ++ (lw_privs_6 ++ (lw_privs_7)))))), lw_okq q
  exact List.forall_mem_append.mpr ⟨lw_r1, List.forall_mem_append.mpr ⟨lw_r2, List.forall_mem_append.mpr ⟨lw_r3, List.forall_mem_append.mpr ⟨lw_r4, List.forall_mem_append.mpr ⟨lw_r5, List.forall_mem_append.mpr ⟨lw_r6, lw_r7⟩⟩⟩⟩⟩⟩

end
section
def RX0 : String := "NineInMind$Ahead"
def TX0 : u_T := fun k => match k with
  | 0 => ("NineInMind$Ahead", "speaker", "LNineInMind$Courier;", true)
  | 1 => ("NineInMind$Ahead", "walker", "LNineInMind$Courier;", true)
  | 2 => ("NineInMind$Ahead", "way", "LNineInMind$Courier;", true)
  | 3 => ("NineInMind$Ahead", "row", "[I", true)
  | 4 => ("NineInMind$Ahead", "best", "[I", true)
  | 5 => ("NineInMind$Ahead", "bestMany", "I", false)
  | 6 => ("NineInMind$Ahead", "bestSum", "I", false)
  | _ => ("NineInMind$Ahead", "most", "I", false)
def tyX0 : Nat → FieldType := fun k => match k with
  | 0 => .object "NineInMind$Courier"
  | 1 => .object "NineInMind$Courier"
  | 2 => .object "NineInMind$Courier"
  | 3 => .array .int
  | 4 => .array .int
  | 5 => .int
  | 6 => .int
  | _ => .int
theorem nmX0 : ∀ a, a < 8 → ∀ b, b < 8 → a ≠ b → (TX0 a).2.1 ≠ (TX0 b).2.1 := by decide +kernel
theorem tyX0_ok : ∀ k, k < 8 → parseFieldDescriptor (TX0 k).2.2.1 = some (tyX0 k) := by decide +kernel
abbrev cX0_init : ByteArray := prog_2_method_1_code
def yX0_init : MethodName := ⟨RX0, "<init>", "()V"⟩
abbrev cX0_chooseSayings : ByteArray := prog_2_method_2_code
def yX0_chooseSayings : MethodName := ⟨RX0, "chooseSayings", "(LNineInMind$Lore;LNineInMind$Courier;I)V"⟩
abbrev cX0_chooseQuestions : ByteArray := prog_2_method_3_code
def yX0_chooseQuestions : MethodName := ⟨RX0, "chooseQuestions", "(LNineInMind$Lore;LNineInMind$Courier;II)V"⟩
abbrev cX0_begin : ByteArray := prog_2_method_4_code
def yX0_begin : MethodName := ⟨RX0, "begin", "(LNineInMind$Courier;I)V"⟩
abbrev cX0_sayOn : ByteArray := prog_2_method_5_code
def yX0_sayOn : MethodName := ⟨RX0, "sayOn", "(LNineInMind$Lore;II)V"⟩
abbrev cX0_askOn : ByteArray := prog_2_method_6_code
def yX0_askOn : MethodName := ⟨RX0, "askOn", "(LNineInMind$Lore;II)V"⟩
abbrev cX0_weigh : ByteArray := prog_2_method_7_code
def yX0_weigh : MethodName := ⟨RX0, "weigh", "(II)V"⟩
abbrev cX0_answer : ByteArray := prog_2_method_8_code
def yX0_answer : MethodName := ⟨RX0, "answer", "(I)I"⟩
def RX1 : String := "NineInMind$Carriers"
def TX1 : u_T := fun k => match k with
  | 0 => ("NineInMind$Carriers", "secrets", "[I", true)
  | 1 => ("NineInMind$Carriers", "each", "I", false)
  | 2 => ("NineInMind$Carriers", "dueOnce", "I", false)
  | _ => ("NineInMind$Carriers", "dueTwice", "I", false)
def tyX1 : Nat → FieldType := fun k => match k with
  | 0 => .array .int
  | 1 => .int
  | 2 => .int
  | _ => .int
theorem nmX1 : ∀ a, a < 4 → ∀ b, b < 4 → a ≠ b → (TX1 a).2.1 ≠ (TX1 b).2.1 := by decide +kernel
theorem tyX1_ok : ∀ k, k < 4 → parseFieldDescriptor (TX1 k).2.2.1 = some (tyX1 k) := by decide +kernel
abbrev cX1_init : ByteArray := prog_3_method_1_code
def yX1_init : MethodName := ⟨RX1, "<init>", "()V"⟩
abbrev cX1_fewest : ByteArray := prog_3_method_2_code
def yX1_fewest : MethodName := ⟨RX1, "fewest", "(LNineInMind$Lore;IIZ)I"⟩
abbrev cX1_loadOf : ByteArray := prog_3_method_3_code
def yX1_loadOf : MethodName := ⟨RX1, "loadOf", "(II)I"⟩
abbrev cX1_leastLoad : ByteArray := prog_3_method_4_code
def yX1_leastLoad : MethodName := ⟨RX1, "leastLoad", "(III)I"⟩
abbrev cX1_canCarry : ByteArray := prog_3_method_5_code
def yX1_canCarry : MethodName := ⟨RX1, "canCarry", "(III)Z"⟩
abbrev cX1_canDivide : ByteArray := prog_3_method_6_code
def yX1_canDivide : MethodName := ⟨RX1, "canDivide", "(IIII)Z"⟩
abbrev cX1_hardestOf : ByteArray := prog_3_method_7_code
def yX1_hardestOf : MethodName := ⟨RX1, "hardestOf", "(I)I"⟩
abbrev cX1_easyOf : ByteArray := prog_3_method_8_code
def yX1_easyOf : MethodName := ⟨RX1, "easyOf", "(II)I"⟩
abbrev cX1_tooMuchAt : ByteArray := prog_3_method_9_code
def yX1_tooMuchAt : MethodName := ⟨RX1, "tooMuchAt", "(I)I"⟩
abbrev cX1_isFull : ByteArray := prog_3_method_10_code
def yX1_isFull : MethodName := ⟨RX1, "isFull", "(II)Z"⟩
def RX2 : String := "NineInMind$Company"
def TX2 : u_T := fun k => match k with
  | 0 => ("NineInMind$Company", "couriers", "[LNineInMind$Courier;", true)
  | 1 => ("NineInMind$Company", "many", "I", false)
  | 2 => ("NineInMind$Company", "breaches", "I", false)
  | _ => ("NineInMind$Company", "drawn", "I", false)
def tyX2 : Nat → FieldType := fun k => match k with
  | 0 => .array (.object "NineInMind$Courier")
  | 1 => .int
  | 2 => .int
  | _ => .int
theorem nmX2 : ∀ a, a < 4 → ∀ b, b < 4 → a ≠ b → (TX2 a).2.1 ≠ (TX2 b).2.1 := by decide +kernel
theorem tyX2_ok : ∀ k, k < 4 → parseFieldDescriptor (TX2 k).2.2.1 = some (tyX2 k) := by decide +kernel
abbrev cX2_init : ByteArray := prog_4_method_1_code
def yX2_init : MethodName := ⟨RX2, "<init>", "()V"⟩
abbrev cX2_likeOf : ByteArray := prog_4_method_2_code
def yX2_likeOf : MethodName := ⟨RX2, "likeOf", "(LNineInMind$Company;)V"⟩
abbrev cX2_isOne : ByteArray := prog_4_method_3_code
def yX2_isOne : MethodName := ⟨RX2, "isOne", "(J)Z"⟩
abbrev cX2_areTwo : ByteArray := prog_4_method_4_code
def yX2_areTwo : MethodName := ⟨RX2, "areTwo", "(JJ)Z"⟩
abbrev cX2_addOne : ByteArray := prog_4_method_5_code
def yX2_addOne : MethodName := ⟨RX2, "addOne", "(I)I"⟩
abbrev cX2_turnedPairs : ByteArray := prog_4_method_6_code
def yX2_turnedPairs : MethodName := ⟨RX2, "turnedPairs", "(LNineInMind$Courier;LNineInMind$Courier;)I"⟩
abbrev cX2_act : ByteArray := prog_4_method_7_code
def yX2_act : MethodName := ⟨RX2, "act", "(LNineInMind$Lore;ILNineInMind$Row;)I"⟩
abbrev cX2_actOnce : ByteArray := prog_4_method_8_code
def yX2_actOnce : MethodName := ⟨RX2, "actOnce", "(LNineInMind$Lore;IJ)Z"⟩
abbrev cX2_hearIfThere : ByteArray := prog_4_method_9_code
def yX2_hearIfThere : MethodName := ⟨RX2, "hearIfThere", "(LNineInMind$Lore;LNineInMind$Courier;J)Z"⟩
abbrev cX2_sayIfHeld : ByteArray := prog_4_method_10_code
def yX2_sayIfHeld : MethodName := ⟨RX2, "sayIfHeld", "(LNineInMind$Lore;LNineInMind$Courier;J)Z"⟩
abbrev cX2_walkIfThere : ByteArray := prog_4_method_11_code
def yX2_walkIfThere : MethodName := ⟨RX2, "walkIfThere", "(LNineInMind$Lore;LNineInMind$Courier;J)Z"⟩
abbrev cX2_listenIfNear : ByteArray := prog_4_method_12_code
def yX2_listenIfNear : MethodName := ⟨RX2, "listenIfNear", "(LNineInMind$Lore;LNineInMind$Courier;LNineInMind$Courier;)Z"⟩
abbrev cX2_spendDay : ByteArray := prog_4_method_13_code
def yX2_spendDay : MethodName := ⟨RX2, "spendDay", "(LNineInMind$Lore;II)I"⟩
abbrev cX2_spendOnce : ByteArray := prog_4_method_14_code
def yX2_spendOnce : MethodName := ⟨RX2, "spendOnce", "(LNineInMind$Lore;LNineInMind$Courier;)V"⟩
abbrev cX2_draw : ByteArray := prog_4_method_15_code
def yX2_draw : MethodName := ⟨RX2, "draw", "()I"⟩
abbrev cX2_lostByAll : ByteArray := prog_4_method_16_code
def yX2_lostByAll : MethodName := ⟨RX2, "lostByAll", "()I"⟩
abbrev cX2_heldByHimAlone : ByteArray := prog_4_method_17_code
def yX2_heldByHimAlone : MethodName := ⟨RX2, "heldByHimAlone", "(I)I"⟩
abbrev cX2_heldBy : ByteArray := prog_4_method_18_code
def yX2_heldBy : MethodName := ⟨RX2, "heldBy", "(I)I"⟩
abbrev cX2_fewestHolding : ByteArray := prog_4_method_19_code
def yX2_fewestHolding : MethodName := ⟨RX2, "fewestHolding", "(I)I"⟩
def RX3 : String := "NineInMind$Courier"
def TX3 : u_T := fun k => match k with
  | 0 => ("NineInMind$Courier", "size", "I", false)
  | 1 => ("NineInMind$Courier", "inn", "I", false)
  | 2 => ("NineInMind$Courier", "many", "I", false)
  | 3 => ("NineInMind$Courier", "held", "I", false)
  | 4 => ("NineInMind$Courier", "mind", "J", false)
  | 5 => ("NineInMind$Courier", "lostMany", "I", false)
  | _ => ("NineInMind$Courier", "lostAt", "[I", true)
def tyX3 : Nat → FieldType := fun k => match k with
  | 0 => .int
  | 1 => .int
  | 2 => .int
  | 3 => .int
  | 4 => .long
  | 5 => .int
  | _ => .array .int
theorem nmX3 : ∀ a, a < 7 → ∀ b, b < 7 → a ≠ b → (TX3 a).2.1 ≠ (TX3 b).2.1 := by decide +kernel
theorem tyX3_ok : ∀ k, k < 7 → parseFieldDescriptor (TX3 k).2.2.1 = some (tyX3 k) := by decide +kernel
abbrev cX3_init : ByteArray := prog_5_method_1_code
def yX3_init : MethodName := ⟨RX3, "<init>", "()V"⟩
abbrev cX3_begin : ByteArray := prog_5_method_2_code
def yX3_begin : MethodName := ⟨RX3, "begin", "(I)V"⟩
abbrev cX3_likeOf : ByteArray := prog_5_method_3_code
def yX3_likeOf : MethodName := ⟨RX3, "likeOf", "(LNineInMind$Courier;)V"⟩
abbrev cX3_likeMindOf : ByteArray := prog_5_method_4_code
def yX3_likeMindOf : MethodName := ⟨RX3, "likeMindOf", "(LNineInMind$Courier;)V"⟩
abbrev cX3_setMind : ByteArray := prog_5_method_5_code
def yX3_setMind : MethodName := ⟨RX3, "setMind", "(JI)V"⟩
abbrev cX3_has : ByteArray := prog_5_method_6_code
def yX3_has : MethodName := ⟨RX3, "has", "(I)Z"⟩
abbrev cX3_thingAt : ByteArray := prog_5_method_7_code
def yX3_thingAt : MethodName := ⟨RX3, "thingAt", "(I)I"⟩
abbrev cX3_placeOf : ByteArray := prog_5_method_8_code
def yX3_placeOf : MethodName := ⟨RX3, "placeOf", "(I)I"⟩
abbrev cX3_hear : ByteArray := prog_5_method_9_code
def yX3_hear : MethodName := ⟨RX3, "hear", "(I)I"⟩
abbrev cX3_bringForward : ByteArray := prog_5_method_10_code
def yX3_bringForward : MethodName := ⟨RX3, "bringForward", "(I)V"⟩
abbrev cX3_loseLast : ByteArray := prog_5_method_11_code
def yX3_loseLast : MethodName := ⟨RX3, "loseLast", "()I"⟩
abbrev cX3_say : ByteArray := prog_5_method_12_code
def yX3_say : MethodName := ⟨RX3, "say", "(LNineInMind$Lore;I)I"⟩
abbrev cX3_walk : ByteArray := prog_5_method_13_code
def yX3_walk : MethodName := ⟨RX3, "walk", "(LNineInMind$Lore;I)I"⟩
abbrev cX3_hearLatestOf : ByteArray := prog_5_method_14_code
def yX3_hearLatestOf : MethodName := ⟨RX3, "hearLatestOf", "(LNineInMind$Courier;)V"⟩
abbrev cX3_recite : ByteArray := prog_5_method_15_code
def yX3_recite : MethodName := ⟨RX3, "recite", "(LNineInMind$Lore;LNineInMind$Row;)I"⟩
abbrev cX3_deliver : ByteArray := prog_5_method_16_code
def yX3_deliver : MethodName := ⟨RX3, "deliver", "(LNineInMind$Lore;)I"⟩
def RX4 : String := "NineInMind$Hearings"
def TX4 : u_T := fun k => match k with
  | 0 => ("NineInMind$Hearings", "row", "[I", true)
  | 1 => ("NineInMind$Hearings", "held", "I", false)
  | 2 => ("NineInMind$Hearings", "many", "I", false)
  | 3 => ("NineInMind$Hearings", "man", "LNineInMind$Courier;", true)
  | 4 => ("NineInMind$Hearings", "listener", "LNineInMind$Courier;", true)
  | 5 => ("NineInMind$Hearings", "way", "LNineInMind$Courier;", true)
  | 6 => ("NineInMind$Hearings", "order", "[I", true)
  | 7 => ("NineInMind$Hearings", "best", "[I", true)
  | 8 => ("NineInMind$Hearings", "bestMany", "I", false)
  | 9 => ("NineInMind$Hearings", "bestSum", "I", false)
  | _ => ("NineInMind$Hearings", "bestCourt", "I", false)
def tyX4 : Nat → FieldType := fun k => match k with
  | 0 => .array .int
  | 1 => .int
  | 2 => .int
  | 3 => .object "NineInMind$Courier"
  | 4 => .object "NineInMind$Courier"
  | 5 => .object "NineInMind$Courier"
  | 6 => .array .int
  | 7 => .array .int
  | 8 => .int
  | 9 => .int
  | _ => .int
theorem nmX4 : ∀ a, a < 11 → ∀ b, b < 11 → a ≠ b → (TX4 a).2.1 ≠ (TX4 b).2.1 := by decide +kernel
theorem tyX4_ok : ∀ k, k < 11 → parseFieldDescriptor (TX4 k).2.2.1 = some (tyX4 k) := by decide +kernel
abbrev cX4_init : ByteArray := prog_6_method_1_code
def yX4_init : MethodName := ⟨RX4, "<init>", "()V"⟩
abbrev cX4_takeRow : ByteArray := prog_6_method_2_code
def yX4_takeRow : MethodName := ⟨RX4, "takeRow", "(LNineInMind$Row;LNineInMind$Lore;)Z"⟩
abbrev cX4_inRow : ByteArray := prog_6_method_3_code
def yX4_inRow : MethodName := ⟨RX4, "inRow", "()I"⟩
abbrev cX4_newOnes : ByteArray := prog_6_method_4_code
def yX4_newOnes : MethodName := ⟨RX4, "newOnes", "(II)I"⟩
abbrev cX4_newByRule : ByteArray := prog_6_method_5_code
def yX4_newByRule : MethodName := ⟨RX4, "newByRule", "(IZ)I"⟩
abbrev cX4_newByForesight : ByteArray := prog_6_method_6_code
def yX4_newByForesight : MethodName := ⟨RX4, "newByForesight", "(I)I"⟩
abbrev cX4_neededLast : ByteArray := prog_6_method_7_code
def yX4_neededLast : MethodName := ⟨RX4, "neededLast", "(I)I"⟩
abbrev cX4_unlikeSinceLast : ByteArray := prog_6_method_8_code
def yX4_unlikeSinceLast : MethodName := ⟨RX4, "unlikeSinceLast", "(I)I"⟩
abbrev cX4_comesThrough : ByteArray := prog_6_method_9_code
def yX4_comesThrough : MethodName := ⟨RX4, "comesThrough", "(LNineInMind$Lore;II)I"⟩
abbrev cX4_tellBest : ByteArray := prog_6_method_10_code
def yX4_tellBest : MethodName := ⟨RX4, "tellBest", "(LNineInMind$Lore;III)V"⟩
abbrev cX4_tellOn : ByteArray := prog_6_method_11_code
def yX4_tellOn : MethodName := ⟨RX4, "tellOn", "(LNineInMind$Lore;II)V"⟩
abbrev cX4_weighOrder : ByteArray := prog_6_method_12_code
def yX4_weighOrder : MethodName := ⟨RX4, "weighOrder", "(LNineInMind$Lore;)V"⟩
abbrev cX4_answerOfTold : ByteArray := prog_6_method_13_code
def yX4_answerOfTold : MethodName := ⟨RX4, "answerOfTold", "(I)I"⟩
def RX5 : String := "NineInMind$Lore"
def TX5 : u_T := fun k => match k with
  | 0 => ("NineInMind$Lore", "things", "I", false)
  | 1 => ("NineInMind$Lore", "mind", "I", false)
  | 2 => ("NineInMind$Lore", "lines", "I", false)
  | 3 => ("NineInMind$Lore", "inns", "I", false)
  | 4 => ("NineInMind$Lore", "rhymes", "[I", true)
  | 5 => ("NineInMind$Lore", "secrets", "[I", true)
  | 6 => ("NineInMind$Lore", "worths", "[I", true)
  | 7 => ("NineInMind$Lore", "newsMany", "[I", true)
  | _ => ("NineInMind$Lore", "newsThings", "[I", true)
def tyX5 : Nat → FieldType := fun k => match k with
  | 0 => .int
  | 1 => .int
  | 2 => .int
  | 3 => .int
  | 4 => .array .int
  | 5 => .array .int
  | 6 => .array .int
  | 7 => .array .int
  | _ => .array .int
theorem nmX5 : ∀ a, a < 9 → ∀ b, b < 9 → a ≠ b → (TX5 a).2.1 ≠ (TX5 b).2.1 := by decide +kernel
theorem tyX5_ok : ∀ k, k < 9 → parseFieldDescriptor (TX5 k).2.2.1 = some (tyX5 k) := by decide +kernel
abbrev cX5_init : ByteArray := prog_7_method_1_code
def yX5_init : MethodName := ⟨RX5, "<init>", "()V"⟩
abbrev cX5_clear : ByteArray := prog_7_method_2_code
def yX5_clear : MethodName := ⟨RX5, "clear", "()V"⟩
abbrev cX5_likeOf : ByteArray := prog_7_method_3_code
def yX5_likeOf : MethodName := ⟨RX5, "likeOf", "(LNineInMind$Lore;)V"⟩
abbrev cX5_isThing : ByteArray := prog_7_method_4_code
def yX5_isThing : MethodName := ⟨RX5, "isThing", "(J)Z"⟩
abbrev cX5_isInn : ByteArray := prog_7_method_5_code
def yX5_isInn : MethodName := ⟨RX5, "isInn", "(J)Z"⟩
abbrev cX5_isSet : ByteArray := prog_7_method_6_code
def yX5_isSet : MethodName := ⟨RX5, "isSet", "(I)Z"⟩
abbrev cX5_allThings : ByteArray := prog_7_method_7_code
def yX5_allThings : MethodName := ⟨RX5, "allThings", "()I"⟩
abbrev cX5_newsAt : ByteArray := prog_7_method_8_code
def yX5_newsAt : MethodName := ⟨RX5, "newsAt", "(II)I"⟩
abbrev cX5_addNews : ByteArray := prog_7_method_9_code
def yX5_addNews : MethodName := ⟨RX5, "addNews", "(II)Z"⟩
abbrev cX5_newsOnWay : ByteArray := prog_7_method_10_code
def yX5_newsOnWay : MethodName := ⟨RX5, "newsOnWay", "(II)I"⟩
abbrev cX5_worthOf : ByteArray := prog_7_method_11_code
def yX5_worthOf : MethodName := ⟨RX5, "worthOf", "(I)I"⟩
abbrev cX5_secretPair : ByteArray := prog_7_method_12_code
def yX5_secretPair : MethodName := ⟨RX5, "secretPair", "(I)I"⟩
abbrev cX5_comeBack : ByteArray := prog_7_method_13_code
def yX5_comeBack : MethodName := ⟨RX5, "comeBack", "(I)I"⟩
def RX6 : String := "NineInMind$Pieces"
def TX6 : u_T := fun k => match k with
  | 0 => ("NineInMind$Pieces", "many", "I", false)
  | 1 => ("NineInMind$Pieces", "lengths", "[I", true)
  | 2 => ("NineInMind$Pieces", "things", "[I", true)
  | 3 => ("NineInMind$Pieces", "overlaps", "[I", true)
  | 4 => ("NineInMind$Pieces", "row", "[I", true)
  | 5 => ("NineInMind$Pieces", "best", "[I", true)
  | _ => ("NineInMind$Pieces", "bestMany", "I", false)
def tyX6 : Nat → FieldType := fun k => match k with
  | 0 => .int
  | 1 => .array .int
  | 2 => .array .int
  | 3 => .array .int
  | 4 => .array .int
  | 5 => .array .int
  | _ => .int
theorem nmX6 : ∀ a, a < 7 → ∀ b, b < 7 → a ≠ b → (TX6 a).2.1 ≠ (TX6 b).2.1 := by decide +kernel
theorem tyX6_ok : ∀ k, k < 7 → parseFieldDescriptor (TX6 k).2.2.1 = some (tyX6 k) := by decide +kernel
abbrev cX6_init : ByteArray := prog_8_method_1_code
def yX6_init : MethodName := ⟨RX6, "<init>", "()V"⟩
abbrev cX6_likeOf : ByteArray := prog_8_method_2_code
def yX6_likeOf : MethodName := ⟨RX6, "likeOf", "(LNineInMind$Pieces;)V"⟩
abbrev cX6_addOne : ByteArray := prog_8_method_3_code
def yX6_addOne : MethodName := ⟨RX6, "addOne", "([II)I"⟩
abbrev cX6_thingOf : ByteArray := prog_8_method_4_code
def yX6_thingOf : MethodName := ⟨RX6, "thingOf", "(II)I"⟩
abbrev cX6_inThem : ByteArray := prog_8_method_5_code
def yX6_inThem : MethodName := ⟨RX6, "inThem", "()I"⟩
abbrev cX6_areUnfit : ByteArray := prog_8_method_6_code
def yX6_areUnfit : MethodName := ⟨RX6, "areUnfit", "(II)Z"⟩
abbrev cX6_isTurned : ByteArray := prog_8_method_7_code
def yX6_isTurned : MethodName := ⟨RX6, "isTurned", "(IIII)Z"⟩
abbrev cX6_firstPlace : ByteArray := prog_8_method_8_code
def yX6_firstPlace : MethodName := ⟨RX6, "firstPlace", "(II)I"⟩
abbrev cX6_join : ByteArray := prog_8_method_9_code
def yX6_join : MethodName := ⟨RX6, "join", "()V"⟩
abbrev cX6_isWithinAnother : ByteArray := prog_8_method_10_code
def yX6_isWithinAnother : MethodName := ⟨RX6, "isWithinAnother", "(I)Z"⟩
abbrev cX6_overlapOf : ByteArray := prog_8_method_11_code
def yX6_overlapOf : MethodName := ⟨RX6, "overlapOf", "(II)I"⟩
abbrev cX6_isSame : ByteArray := prog_8_method_12_code
def yX6_isSame : MethodName := ⟨RX6, "isSame", "(IIII)Z"⟩
abbrev cX6_joinOn : ByteArray := prog_8_method_13_code
def yX6_joinOn : MethodName := ⟨RX6, "joinOn", "(IIII)V"⟩
abbrev cX6_isFirstByThings : ByteArray := prog_8_method_14_code
def yX6_isFirstByThings : MethodName := ⟨RX6, "isFirstByThings", "(I)Z"⟩
def RX7 : String := "NineInMind$Reader"
def TX7 : u_T := fun k => match k with
  | 0 => ("NineInMind$Reader", "lore", "LNineInMind$Lore;", true)
  | 1 => ("NineInMind$Reader", "flaw", "I", false)
  | 2 => ("NineInMind$Reader", "place", "I", false)
  | 3 => ("NineInMind$Reader", "taped", "I", false)
  | 4 => ("NineInMind$Reader", "text", "[B", true)
  | 5 => ("NineInMind$Reader", "length", "I", false)
  | 6 => ("NineInMind$Reader", "at", "I", false)
  | 7 => ("NineInMind$Reader", "start", "I", false)
  | 8 => ("NineInMind$Reader", "kind", "I", false)
  | _ => ("NineInMind$Reader", "number", "I", false)
def tyX7 : Nat → FieldType := fun k => match k with
  | 0 => .object "NineInMind$Lore"
  | 1 => .int
  | 2 => .int
  | 3 => .int
  | 4 => .array .byte
  | 5 => .int
  | 6 => .int
  | 7 => .int
  | 8 => .int
  | _ => .int
theorem nmX7 : ∀ a, a < 10 → ∀ b, b < 10 → a ≠ b → (TX7 a).2.1 ≠ (TX7 b).2.1 := by decide +kernel
theorem tyX7_ok : ∀ k, k < 10 → parseFieldDescriptor (TX7 k).2.2.1 = some (tyX7 k) := by decide +kernel
abbrev cX7_init : ByteArray := prog_9_method_1_code
def yX7_init : MethodName := ⟨RX7, "<init>", "()V"⟩
abbrev cX7_putOnTape : ByteArray := prog_9_method_2_code
def yX7_putOnTape : MethodName := ⟨RX7, "putOnTape", "(I)V"⟩
abbrev cX7_readText : ByteArray := prog_9_method_3_code
def yX7_readText : MethodName := ⟨RX7, "readText", "(I)Z"⟩
abbrev cX7_fail : ByteArray := prog_9_method_4_code
def yX7_fail : MethodName := ⟨RX7, "fail", "(I)Z"⟩
abbrev cX7_readLine : ByteArray := prog_9_method_5_code
def yX7_readLine : MethodName := ⟨RX7, "readLine", "()Z"⟩
abbrev cX7_lineHere : ByteArray := prog_9_method_6_code
def yX7_lineHere : MethodName := ⟨RX7, "lineHere", "()I"⟩
abbrev cX7_readThings : ByteArray := prog_9_method_7_code
def yX7_readThings : MethodName := ⟨RX7, "readThings", "()Z"⟩
abbrev cX7_readMind : ByteArray := prog_9_method_8_code
def yX7_readMind : MethodName := ⟨RX7, "readMind", "()Z"⟩
abbrev cX7_readPair : ByteArray := prog_9_method_9_code
def yX7_readPair : MethodName := ⟨RX7, "readPair", "(Z)Z"⟩
abbrev cX7_readWorth : ByteArray := prog_9_method_10_code
def yX7_readWorth : MethodName := ⟨RX7, "readWorth", "()Z"⟩
abbrev cX7_readInn : ByteArray := prog_9_method_11_code
def yX7_readInn : MethodName := ⟨RX7, "readInn", "()Z"⟩
abbrev cX7_readThing : ByteArray := prog_9_method_12_code
def yX7_readThing : MethodName := ⟨RX7, "readThing", "(I)Z"⟩
abbrev cX7_readNumber : ByteArray := prog_9_method_13_code
def yX7_readNumber : MethodName := ⟨RX7, "readNumber", "(III)Z"⟩
abbrev cX7_numberStands : ByteArray := prog_9_method_14_code
def yX7_numberStands : MethodName := ⟨RX7, "numberStands", "(III)Z"⟩
abbrev cX7_readSign : ByteArray := prog_9_method_15_code
def yX7_readSign : MethodName := ⟨RX7, "readSign", "()Z"⟩
abbrev cX7_nextToken : ByteArray := prog_9_method_16_code
def yX7_nextToken : MethodName := ⟨RX7, "nextToken", "()V"⟩
abbrev cX7_takeDigits : ByteArray := prog_9_method_17_code
def yX7_takeDigits : MethodName := ⟨RX7, "takeDigits", "()V"⟩
abbrev cX7_isWord : ByteArray := prog_9_method_18_code
def yX7_isWord : MethodName := ⟨RX7, "isWord", "(Ljava/lang/String;)Z"⟩
abbrev cX7_isLetter : ByteArray := prog_9_method_19_code
def yX7_isLetter : MethodName := ⟨RX7, "isLetter", "(I)Z"⟩
abbrev cX7_isDigit : ByteArray := prog_9_method_20_code
def yX7_isDigit : MethodName := ⟨RX7, "isDigit", "(I)Z"⟩
def RX8 : String := "NineInMind$Row"
def TX8 : u_T := fun k => match k with
  | 0 => ("NineInMind$Row", "values", "[J", true)
  | 1 => ("NineInMind$Row", "many", "I", false)
  | 2 => ("NineInMind$Row", "there", "Z", false)
  | _ => ("NineInMind$Row", "sort", "I", false)
def tyX8 : Nat → FieldType := fun k => match k with
  | 0 => .array .long
  | 1 => .int
  | 2 => .boolean
  | _ => .int
theorem nmX8 : ∀ a, a < 4 → ∀ b, b < 4 → a ≠ b → (TX8 a).2.1 ≠ (TX8 b).2.1 := by decide +kernel
theorem tyX8_ok : ∀ k, k < 4 → parseFieldDescriptor (TX8 k).2.2.1 = some (tyX8 k) := by decide +kernel
abbrev cX8_init : ByteArray := prog_10_method_1_code
def yX8_init : MethodName := ⟨RX8, "<init>", "()V"⟩
abbrev cX8_begin : ByteArray := prog_10_method_2_code
def yX8_begin : MethodName := ⟨RX8, "begin", "(II)V"⟩
abbrev cX8_put : ByteArray := prog_10_method_3_code
def yX8_put : MethodName := ⟨RX8, "put", "(IJ)J"⟩
abbrev cX8_cut : ByteArray := prog_10_method_4_code
def yX8_cut : MethodName := ⟨RX8, "cut", "(J)J"⟩
def RX9 : String := "NineInMind$Seeds"
def TX9 : u_T := fun k => match k with
  | 0 => ("NineInMind$Seeds", "reach", "[I", true)
  | 1 => ("NineInMind$Seeds", "reachUpTo", "[I", true)
  | _ => ("NineInMind$Seeds", "mostUpTo", "[I", true)
def tyX9 : Nat → FieldType := fun k => match k with
  | 0 => .array .int
  | 1 => .array .int
  | _ => .array .int
theorem nmX9 : ∀ a, a < 3 → ∀ b, b < 3 → a ≠ b → (TX9 a).2.1 ≠ (TX9 b).2.1 := by decide +kernel
theorem tyX9_ok : ∀ k, k < 3 → parseFieldDescriptor (TX9 k).2.2.1 = some (tyX9 k) := by decide +kernel
abbrev cX9_init : ByteArray := prog_11_method_1_code
def yX9_init : MethodName := ⟨RX9, "<init>", "()V"⟩
abbrev cX9_fewestFor : ByteArray := prog_11_method_2_code
def yX9_fewestFor : MethodName := ⟨RX9, "fewestFor", "(LNineInMind$Lore;I)I"⟩
abbrev cX9_prepare : ByteArray := prog_11_method_3_code
def yX9_prepare : MethodName := ⟨RX9, "prepare", "(LNineInMind$Lore;I)V"⟩
abbrev cX9_leastSet : ByteArray := prog_11_method_4_code
def yX9_leastSet : MethodName := ⟨RX9, "leastSet", "(III)I"⟩
def RX10 : String := "NineInMind$World"
def TX10 : u_T := fun k => match k with
  | 0 => ("NineInMind$World", "lore", "LNineInMind$Lore;", true)
  | 1 => ("NineInMind$World", "company", "LNineInMind$Company;", true)
  | 2 => ("NineInMind$World", "pieces", "LNineInMind$Pieces;", true)
  | _ => ("NineInMind$World", "made", "Z", false)
def tyX10 : Nat → FieldType := fun k => match k with
  | 0 => .object "NineInMind$Lore"
  | 1 => .object "NineInMind$Company"
  | 2 => .object "NineInMind$Pieces"
  | _ => .boolean
theorem nmX10 : ∀ a, a < 4 → ∀ b, b < 4 → a ≠ b → (TX10 a).2.1 ≠ (TX10 b).2.1 := by decide +kernel
theorem tyX10_ok : ∀ k, k < 4 → parseFieldDescriptor (TX10 k).2.2.1 = some (tyX10 k) := by decide +kernel
abbrev cX10_init : ByteArray := prog_12_method_1_code
def yX10_init : MethodName := ⟨RX10, "<init>", "()V"⟩
abbrev cX10_beginWith : ByteArray := prog_12_method_2_code
def yX10_beginWith : MethodName := ⟨RX10, "beginWith", "(LNineInMind$Lore;)V"⟩
abbrev cX10_likeOf : ByteArray := prog_12_method_3_code
def yX10_likeOf : MethodName := ⟨RX10, "likeOf", "(LNineInMind$World;)V"⟩
def RX11 : String := "NineInMind"
def TX11 : u_T := fun k => match k with
  | 0 => ("NineInMind", "reader", "LNineInMind$Reader;", true)
  | 1 => ("NineInMind", "now", "LNineInMind$World;", true)
  | 2 => ("NineInMind", "known", "LNineInMind$Lore;", true)
  | 3 => ("NineInMind", "company", "LNineInMind$Company;", true)
  | 4 => ("NineInMind", "pieces", "LNineInMind$Pieces;", true)
  | 5 => ("NineInMind", "images", "[LNineInMind$World;", true)
  | 6 => ("NineInMind", "rows", "[LNineInMind$Row;", true)
  | 7 => ("NineInMind", "judged", "LNineInMind$Company;", true)
  | 8 => ("NineInMind", "hearings", "LNineInMind$Hearings;", true)
  | 9 => ("NineInMind", "seeding", "LNineInMind$Seeds;", true)
  | 10 => ("NineInMind", "carriers", "LNineInMind$Carriers;", true)
  | _ => ("NineInMind", "ahead", "LNineInMind$Ahead;", true)
def tyX11 : Nat → FieldType := fun k => match k with
  | 0 => .object "NineInMind$Reader"
  | 1 => .object "NineInMind$World"
  | 2 => .object "NineInMind$Lore"
  | 3 => .object "NineInMind$Company"
  | 4 => .object "NineInMind$Pieces"
  | 5 => .array (.object "NineInMind$World")
  | 6 => .array (.object "NineInMind$Row")
  | 7 => .object "NineInMind$Company"
  | 8 => .object "NineInMind$Hearings"
  | 9 => .object "NineInMind$Seeds"
  | 10 => .object "NineInMind$Carriers"
  | _ => .object "NineInMind$Ahead"
theorem nmX11 : ∀ a, a < 12 → ∀ b, b < 12 → a ≠ b → (TX11 a).2.1 ≠ (TX11 b).2.1 := by decide +kernel
theorem tyX11_ok : ∀ k, k < 12 → parseFieldDescriptor (TX11 k).2.2.1 = some (tyX11 k) := by decide +kernel
abbrev cX11_init : ByteArray := prog_1_method_1_code
def yX11_init : MethodName := ⟨RX11, "<init>", "()V"⟩
abbrev cX11_feed : ByteArray := prog_1_method_2_code
def yX11_feed : MethodName := ⟨RX11, "feed", "(IIIII)I"⟩
abbrev cX11_lore : ByteArray := prog_1_method_3_code
def yX11_lore : MethodName := ⟨RX11, "lore", "(I)I"⟩
abbrev cX11_fault : ByteArray := prog_1_method_4_code
def yX11_fault : MethodName := ⟨RX11, "fault", "(I)I"⟩
abbrev cX11_thing : ByteArray := prog_1_method_5_code
def yX11_thing : MethodName := ⟨RX11, "thing", "(II)I"⟩
abbrev cX11_news : ByteArray := prog_1_method_6_code
def yX11_news : MethodName := ⟨RX11, "news", "(II)I"⟩
abbrev cX11_comes : ByteArray := prog_1_method_7_code
def yX11_comes : MethodName := ⟨RX11, "comes", "(I)I"⟩
abbrev cX11_of : ByteArray := prog_1_method_8_code
def yX11_of : MethodName := ⟨RX11, "of", "(II)I"⟩
abbrev cX11_lost : ByteArray := prog_1_method_9_code
def yX11_lost : MethodName := ⟨RX11, "lost", "(II)I"⟩
abbrev cX11_hears : ByteArray := prog_1_method_10_code
def yX11_hears : MethodName := ⟨RX11, "hears", "(II)I"⟩
abbrev cX11_says : ByteArray := prog_1_method_11_code
def yX11_says : MethodName := ⟨RX11, "says", "(II)I"⟩
abbrev cX11_tells : ByteArray := prog_1_method_12_code
def yX11_tells : MethodName := ⟨RX11, "tells", "(III)I"⟩
abbrev cX11_walks : ByteArray := prog_1_method_13_code
def yX11_walks : MethodName := ⟨RX11, "walks", "(II)I"⟩
abbrev cX11_recites : ByteArray := prog_1_method_14_code
def yX11_recites : MethodName := ⟨RX11, "recites", "(II)I"⟩
abbrev cX11_delivers : ByteArray := prog_1_method_15_code
def yX11_delivers : MethodName := ⟨RX11, "delivers", "(I)I"⟩
abbrev cX11_breach : ByteArray := prog_1_method_16_code
def yX11_breach : MethodName := ⟨RX11, "breach", "()I"⟩
abbrev cX11_risk : ByteArray := prog_1_method_17_code
def yX11_risk : MethodName := ⟨RX11, "risk", "(II)I"⟩
abbrev cX11_loud : ByteArray := prog_1_method_18_code
def yX11_loud : MethodName := ⟨RX11, "loud", "(II)I"⟩
abbrev cX11_turned : ByteArray := prog_1_method_19_code
def yX11_turned : MethodName := ⟨RX11, "turned", "(II)I"⟩
abbrev cX11_judge : ByteArray := prog_1_method_20_code
def yX11_judge : MethodName := ⟨RX11, "judge", "(III)I"⟩
abbrev cX11_perform : ByteArray := prog_1_method_21_code
def yX11_perform : MethodName := ⟨RX11, "perform", "(II)I"⟩
abbrev cX11_day : ByteArray := prog_1_method_22_code
def yX11_day : MethodName := ⟨RX11, "day", "(II)I"⟩
abbrev cX11_fresh : ByteArray := prog_1_method_23_code
def yX11_fresh : MethodName := ⟨RX11, "fresh", "(III)I"⟩
abbrev cX11_kept : ByteArray := prog_1_method_24_code
def yX11_kept : MethodName := ⟨RX11, "kept", "(III)I"⟩
abbrev cX11_less : ByteArray := prog_1_method_25_code
def yX11_less : MethodName := ⟨RX11, "less", "(I)I"⟩
abbrev cX11_enough : ByteArray := prog_1_method_26_code
def yX11_enough : MethodName := ⟨RX11, "enough", "(III)I"⟩
abbrev cX11_farBack : ByteArray := prog_1_method_27_code
def yX11_farBack : MethodName := ⟨RX11, "farBack", "(II)I"⟩
abbrev cX11_through : ByteArray := prog_1_method_28_code
def yX11_through : MethodName := ⟨RX11, "through", "(III)I"⟩
abbrev cX11_sizeFor : ByteArray := prog_1_method_29_code
def yX11_sizeFor : MethodName := ⟨RX11, "sizeFor", "(II)I"⟩
abbrev cX11_told : ByteArray := prog_1_method_30_code
def yX11_told : MethodName := ⟨RX11, "told", "(IIII)I"⟩
abbrev cX11_back : ByteArray := prog_1_method_31_code
def yX11_back : MethodName := ⟨RX11, "back", "(I)I"⟩
abbrev cX11_seeds : ByteArray := prog_1_method_32_code
def yX11_seeds : MethodName := ⟨RX11, "seeds", "(I)I"⟩
abbrev cX11_men : ByteArray := prog_1_method_33_code
def yX11_men : MethodName := ⟨RX11, "men", "(IIZ)I"⟩
abbrev cX11_load : ByteArray := prog_1_method_34_code
def yX11_load : MethodName := ⟨RX11, "load", "(IIZI)I"⟩
abbrev cX11_road : ByteArray := prog_1_method_35_code
def yX11_road : MethodName := ⟨RX11, "road", "(III)I"⟩
abbrev cX11_questions : ByteArray := prog_1_method_36_code
def yX11_questions : MethodName := ⟨RX11, "questions", "(IIII)I"⟩
abbrev cX11_asked : ByteArray := prog_1_method_37_code
def yX11_asked : MethodName := ⟨RX11, "asked", "(I)I"⟩
abbrev cX11_broken : ByteArray := prog_1_method_38_code
def yX11_broken : MethodName := ⟨RX11, "broken", "(II)I"⟩
abbrev cX11_piece : ByteArray := prog_1_method_39_code
def yX11_piece : MethodName := ⟨RX11, "piece", "(I)I"⟩
abbrev cX11_joined : ByteArray := prog_1_method_40_code
def yX11_joined : MethodName := ⟨RX11, "joined", "(I)I"⟩
abbrev cX11_unfit : ByteArray := prog_1_method_41_code
def yX11_unfit : MethodName := ⟨RX11, "unfit", "()I"⟩
abbrev cX11_gaps : ByteArray := prog_1_method_42_code
def yX11_gaps : MethodName := ⟨RX11, "gaps", "()I"⟩
abbrev cX11_numbers : ByteArray := prog_1_method_43_code
def yX11_numbers : MethodName := ⟨RX11, "numbers", "(III)I"⟩
abbrev cX11_write : ByteArray := prog_1_method_44_code
def yX11_write : MethodName := ⟨RX11, "write", "(IIJ)J"⟩
abbrev cX11_copy : ByteArray := prog_1_method_45_code
def yX11_copy : MethodName := ⟨RX11, "copy", "(II)I"⟩
abbrev cX11_image : ByteArray := prog_1_method_46_code
def yX11_image : MethodName := ⟨RX11, "image", "(I)I"⟩
abbrev cX11_restore : ByteArray := prog_1_method_47_code
def yX11_restore : MethodName := ⟨RX11, "restore", "(I)I"⟩
abbrev cX11_count : ByteArray := prog_1_method_48_code
def yX11_count : MethodName := ⟨RX11, "count", "(I)I"⟩
abbrev cX11_refusalOfRow : ByteArray := prog_1_method_49_code
def yX11_refusalOfRow : MethodName := ⟨RX11, "refusalOfRow", "(I)I"⟩
abbrev cX11_refusalOfHearings : ByteArray := prog_1_method_50_code
def yX11_refusalOfHearings : MethodName := ⟨RX11, "refusalOfHearings", "(IIII)I"⟩
abbrev cX11_refusalOfMen : ByteArray := prog_1_method_51_code
def yX11_refusalOfMen : MethodName := ⟨RX11, "refusalOfMen", "(IIZ)I"⟩
abbrev cX11_isSize : ByteArray := prog_1_method_52_code
def yX11_isSize : MethodName := ⟨RX11, "isSize", "(I)Z"⟩
abbrev cX11_isAnswerOrPlace : ByteArray := prog_1_method_53_code
def yX11_isAnswerOrPlace : MethodName := ⟨RX11, "isAnswerOrPlace", "(II)Z"⟩
def RX12 : String := "NineInMindModel"
def TX12 : u_T := fun k => match k with
  | 0 => ("NineInMindModel", "thrown", "I", false)
  | 1 => ("NineInMindModel", "all", "[I", true)
  | 2 => ("NineInMindModel", "hasImage", "[Z", true)
  | 3 => ("NineInMindModel", "tape", "[I", true)
  | 4 => ("NineInMindModel", "fresh", "[I", true)
  | 5 => ("NineInMindModel", "taped", "I", false)
  | 6 => ("NineInMindModel", "at", "I", false)
  | 7 => ("NineInMindModel", "behind", "I", false)
  | 8 => ("NineInMindModel", "size", "I", false)
  | 9 => ("NineInMindModel", "kind", "I", false)
  | 10 => ("NineInMindModel", "number", "I", false)
  | 11 => ("NineInMindModel", "wrong", "I", false)
  | 12 => ("NineInMindModel", "wrongAt", "I", false)
  | 13 => ("NineInMindModel", "faultKind", "I", false)
  | 14 => ("NineInMindModel", "faultPlace", "I", false)
  | 15 => ("NineInMindModel", "stood", "[I", true)
  | 16 => ("NineInMindModel", "keptMen", "[I", true)
  | 17 => ("NineInMindModel", "breaches", "I", false)
  | 18 => ("NineInMindModel", "x", "I", false)
  | 19 => ("NineInMindModel", "heardAt", "[I", true)
  | 20 => ("NineInMindModel", "cameAt", "[I", true)
  | 21 => ("NineInMindModel", "inMind", "I", false)
  | 22 => ("NineInMindModel", "told", "[I", true)
  | 23 => ("NineInMindModel", "bestTold", "[I", true)
  | 24 => ("NineInMindModel", "bestSum", "I", false)
  | 25 => ("NineInMindModel", "bestSet", "I", false)
  | 26 => ("NineInMindModel", "fewest", "[I", true)
  | 27 => ("NineInMindModel", "carried", "I", false)
  | 28 => ("NineInMindModel", "things", "[I", true)
  | 29 => ("NineInMindModel", "weights", "[I", true)
  | 30 => ("NineInMindModel", "canBe", "[Z", true)
  | 31 => ("NineInMindModel", "rowNow", "[I", true)
  | 32 => ("NineInMindModel", "rowBest", "[I", true)
  | 33 => ("NineInMindModel", "bestLong", "I", false)
  | 34 => ("NineInMindModel", "joinedNow", "[I", true)
  | 35 => ("NineInMindModel", "joinedBest", "[I", true)
  | 36 => ("NineInMindModel", "joinedLong", "I", false)
  | 37 => ("NineInMindModel", "rowSort", "[I", true)
  | 38 => ("NineInMindModel", "rowMany", "[I", true)
  | _ => ("NineInMindModel", "numbers", "[J", true)
def tyX12 : Nat → FieldType := fun k => match k with
  | 0 => .int
  | 1 => .array .int
  | 2 => .array .boolean
  | 3 => .array .int
  | 4 => .array .int
  | 5 => .int
  | 6 => .int
  | 7 => .int
  | 8 => .int
  | 9 => .int
  | 10 => .int
  | 11 => .int
  | 12 => .int
  | 13 => .int
  | 14 => .int
  | 15 => .array .int
  | 16 => .array .int
  | 17 => .int
  | 18 => .int
  | 19 => .array .int
  | 20 => .array .int
  | 21 => .int
  | 22 => .array .int
  | 23 => .array .int
  | 24 => .int
  | 25 => .int
  | 26 => .array .int
  | 27 => .int
  | 28 => .array .int
  | 29 => .array .int
  | 30 => .array .boolean
  | 31 => .array .int
  | 32 => .array .int
  | 33 => .int
  | 34 => .array .int
  | 35 => .array .int
  | 36 => .int
  | 37 => .array .int
  | 38 => .array .int
  | _ => .array .long
theorem nmX12 : ∀ a, a < 40 → ∀ b, b < 40 → a ≠ b → (TX12 a).2.1 ≠ (TX12 b).2.1 := by decide +kernel
theorem tyX12_ok : ∀ k, k < 40 → parseFieldDescriptor (TX12 k).2.2.1 = some (tyX12 k) := by decide +kernel
abbrev cX12_within : ByteArray := prog_14_method_2_code
def yX12_within : MethodName := ⟨RX12, "within", "(JJJ)Z"⟩
abbrev cX12_init : ByteArray := prog_14_method_3_code
def yX12_init : MethodName := ⟨RX12, "<init>", "()V"⟩
abbrev cX12_feed : ByteArray := prog_14_method_4_code
def yX12_feed : MethodName := ⟨RX12, "feed", "(IIIII)I"⟩
abbrev cX12_see : ByteArray := prog_14_method_5_code
def yX12_see : MethodName := ⟨RX12, "see", "(I)I"⟩
abbrev cX12_isSmall : ByteArray := prog_14_method_6_code
def yX12_isSmall : MethodName := ⟨RX12, "isSmall", "(I)Z"⟩
abbrev cX12_isDigit : ByteArray := prog_14_method_7_code
def yX12_isDigit : MethodName := ⟨RX12, "isDigit", "(I)Z"⟩
abbrev cX12_keyAt : ByteArray := prog_14_method_8_code
def yX12_keyAt : MethodName := ⟨RX12, "keyAt", "()I"⟩
abbrev cX12_next : ByteArray := prog_14_method_9_code
def yX12_next : MethodName := ⟨RX12, "next", "()V"⟩
abbrev cX12_fails : ByteArray := prog_14_method_10_code
def yX12_fails : MethodName := ⟨RX12, "fails", "(I)V"⟩
abbrev cX12_is : ByteArray := prog_14_method_11_code
def yX12_is : MethodName := ⟨RX12, "is", "(I)Z"⟩
abbrev cX12_eats : ByteArray := prog_14_method_12_code
def yX12_eats : MethodName := ⟨RX12, "eats", "(I)Z"⟩
abbrev cX12_takes : ByteArray := prog_14_method_13_code
def yX12_takes : MethodName := ⟨RX12, "takes", "(II)I"⟩
abbrev cX12_takesThing : ByteArray := prog_14_method_14_code
def yX12_takesThing : MethodName := ⟨RX12, "takesThing", "()I"⟩
abbrev cX12_readThings : ByteArray := prog_14_method_15_code
def yX12_readThings : MethodName := ⟨RX12, "readThings", "()V"⟩
abbrev cX12_readTwo : ByteArray := prog_14_method_16_code
def yX12_readTwo : MethodName := ⟨RX12, "readTwo", "(Z)V"⟩
abbrev cX12_readWorth : ByteArray := prog_14_method_17_code
def yX12_readWorth : MethodName := ⟨RX12, "readWorth", "()V"⟩
abbrev cX12_readInn : ByteArray := prog_14_method_18_code
def yX12_readInn : MethodName := ⟨RX12, "readInn", "()V"⟩
abbrev cX12_readLine : ByteArray := prog_14_method_19_code
def yX12_readLine : MethodName := ⟨RX12, "readLine", "()V"⟩
abbrev cX12_lore : ByteArray := prog_14_method_20_code
def yX12_lore : MethodName := ⟨RX12, "lore", "(I)I"⟩
abbrev cX12_fault : ByteArray := prog_14_method_21_code
def yX12_fault : MethodName := ⟨RX12, "fault", "(I)I"⟩
abbrev cX12_isThing : ByteArray := prog_14_method_22_code
def yX12_isThing : MethodName := ⟨RX12, "isThing", "(J)Z"⟩
abbrev cX12_isInn : ByteArray := prog_14_method_23_code
def yX12_isInn : MethodName := ⟨RX12, "isInn", "(J)Z"⟩
abbrev cX12_isMan : ByteArray := prog_14_method_24_code
def yX12_isMan : MethodName := ⟨RX12, "isMan", "(J)Z"⟩
abbrev cX12_isSet : ByteArray := prog_14_method_25_code
def yX12_isSet : MethodName := ⟨RX12, "isSet", "(I)Z"⟩
abbrev cX12_thing : ByteArray := prog_14_method_26_code
def yX12_thing : MethodName := ⟨RX12, "thing", "(II)I"⟩
abbrev cX12_news : ByteArray := prog_14_method_27_code
def yX12_news : MethodName := ⟨RX12, "news", "(II)I"⟩
abbrev cX12_manAt : ByteArray := prog_14_method_28_code
def yX12_manAt : MethodName := ⟨RX12, "manAt", "(I)I"⟩
abbrev cX12_many : ByteArray := prog_14_method_29_code
def yX12_many : MethodName := ⟨RX12, "many", "(I)I"⟩
abbrev cX12_thingAt : ByteArray := prog_14_method_30_code
def yX12_thingAt : MethodName := ⟨RX12, "thingAt", "(II)I"⟩
abbrev cX12_placeOf : ByteArray := prog_14_method_31_code
def yX12_placeOf : MethodName := ⟨RX12, "placeOf", "(II)I"⟩
abbrev cX12_has : ByteArray := prog_14_method_32_code
def yX12_has : MethodName := ⟨RX12, "has", "(II)Z"⟩
abbrev cX12_bitsIn : ByteArray := prog_14_method_33_code
def yX12_bitsIn : MethodName := ⟨RX12, "bitsIn", "(I)I"⟩
abbrev cX12_worthOf : ByteArray := prog_14_method_34_code
def yX12_worthOf : MethodName := ⟨RX12, "worthOf", "(I)I"⟩
abbrev cX12_empties : ByteArray := prog_14_method_35_code
def yX12_empties : MethodName := ⟨RX12, "empties", "(II)V"⟩
abbrev cX12_hear : ByteArray := prog_14_method_36_code
def yX12_hear : MethodName := ⟨RX12, "hear", "(II)I"⟩
abbrev cX12_say : ByteArray := prog_14_method_37_code
def yX12_say : MethodName := ⟨RX12, "say", "(II)I"⟩
abbrev cX12_walk : ByteArray := prog_14_method_38_code
def yX12_walk : MethodName := ⟨RX12, "walk", "(II)I"⟩
abbrev cX12_deliver : ByteArray := prog_14_method_39_code
def yX12_deliver : MethodName := ⟨RX12, "deliver", "(I)I"⟩
abbrev cX12_comes : ByteArray := prog_14_method_40_code
def yX12_comes : MethodName := ⟨RX12, "comes", "(I)I"⟩
abbrev cX12_of : ByteArray := prog_14_method_41_code
def yX12_of : MethodName := ⟨RX12, "of", "(II)I"⟩
abbrev cX12_lost : ByteArray := prog_14_method_42_code
def yX12_lost : MethodName := ⟨RX12, "lost", "(II)I"⟩
abbrev cX12_hears : ByteArray := prog_14_method_43_code
def yX12_hears : MethodName := ⟨RX12, "hears", "(II)I"⟩
abbrev cX12_says : ByteArray := prog_14_method_44_code
def yX12_says : MethodName := ⟨RX12, "says", "(II)I"⟩
abbrev cX12_tell : ByteArray := prog_14_method_45_code
def yX12_tell : MethodName := ⟨RX12, "tell", "(III)I"⟩
abbrev cX12_tells : ByteArray := prog_14_method_46_code
def yX12_tells : MethodName := ⟨RX12, "tells", "(III)I"⟩
abbrev cX12_walks : ByteArray := prog_14_method_47_code
def yX12_walks : MethodName := ⟨RX12, "walks", "(II)I"⟩
abbrev cX12_recites : ByteArray := prog_14_method_48_code
def yX12_recites : MethodName := ⟨RX12, "recites", "(II)I"⟩
abbrev cX12_delivers : ByteArray := prog_14_method_49_code
def yX12_delivers : MethodName := ⟨RX12, "delivers", "(I)I"⟩
abbrev cX12_isBreach : ByteArray := prog_14_method_50_code
def yX12_isBreach : MethodName := ⟨RX12, "isBreach", "(I)Z"⟩
abbrev cX12_breach : ByteArray := prog_14_method_51_code
def yX12_breach : MethodName := ⟨RX12, "breach", "()I"⟩
abbrev cX12_triesAs : ByteArray := prog_14_method_52_code
def yX12_triesAs : MethodName := ⟨RX12, "triesAs", "(I)V"⟩
abbrev cX12_risk : ByteArray := prog_14_method_53_code
def yX12_risk : MethodName := ⟨RX12, "risk", "(II)I"⟩
abbrev cX12_loud : ByteArray := prog_14_method_54_code
def yX12_loud : MethodName := ⟨RX12, "loud", "(II)I"⟩
abbrev cX12_bitsOf : ByteArray := prog_14_method_55_code
def yX12_bitsOf : MethodName := ⟨RX12, "bitsOf", "(I)I"⟩
abbrev cX12_turned : ByteArray := prog_14_method_56_code
def yX12_turned : MethodName := ⟨RX12, "turned", "(II)I"⟩
abbrev cX12_acts : ByteArray := prog_14_method_57_code
def yX12_acts : MethodName := ⟨RX12, "acts", "(IJ)Z"⟩
abbrev cX12_actsAll : ByteArray := prog_14_method_58_code
def yX12_actsAll : MethodName := ⟨RX12, "actsAll", "(II)I"⟩
abbrev cX12_judge : ByteArray := prog_14_method_59_code
def yX12_judge : MethodName := ⟨RX12, "judge", "(III)I"⟩
abbrev cX12_perform : ByteArray := prog_14_method_60_code
def yX12_perform : MethodName := ⟨RX12, "perform", "(II)I"⟩
abbrev cX12_draw : ByteArray := prog_14_method_61_code
def yX12_draw : MethodName := ⟨RX12, "draw", "(I)I"⟩
abbrev cX12_day : ByteArray := prog_14_method_62_code
def yX12_day : MethodName := ⟨RX12, "day", "(II)I"⟩
abbrev cX12_areThings : ByteArray := prog_14_method_63_code
def yX12_areThings : MethodName := ⟨RX12, "areThings", "(I)Z"⟩
abbrev cX12_nextAt : ByteArray := prog_14_method_64_code
def yX12_nextAt : MethodName := ⟨RX12, "nextAt", "(III)I"⟩
abbrev cX12_driven : ByteArray := prog_14_method_65_code
def yX12_driven : MethodName := ⟨RX12, "driven", "(III)I"⟩
abbrev cX12_freshOf : ByteArray := prog_14_method_66_code
def yX12_freshOf : MethodName := ⟨RX12, "freshOf", "(III)I"⟩
abbrev cX12_fresh : ByteArray := prog_14_method_67_code
def yX12_fresh : MethodName := ⟨RX12, "fresh", "(III)I"⟩
abbrev cX12_kept : ByteArray := prog_14_method_68_code
def yX12_kept : MethodName := ⟨RX12, "kept", "(III)I"⟩
abbrev cX12_less : ByteArray := prog_14_method_69_code
def yX12_less : MethodName := ⟨RX12, "less", "(I)I"⟩
abbrev cX12_enough : ByteArray := prog_14_method_70_code
def yX12_enough : MethodName := ⟨RX12, "enough", "(III)I"⟩
abbrev cX12_farBack : ByteArray := prog_14_method_71_code
def yX12_farBack : MethodName := ⟨RX12, "farBack", "(II)I"⟩
abbrev cX12_throughOf : ByteArray := prog_14_method_72_code
def yX12_throughOf : MethodName := ⟨RX12, "throughOf", "(III)I"⟩
abbrev cX12_tellsRow : ByteArray := prog_14_method_73_code
def yX12_tellsRow : MethodName := ⟨RX12, "tellsRow", "(I)V"⟩
abbrev cX12_through : ByteArray := prog_14_method_74_code
def yX12_through : MethodName := ⟨RX12, "through", "(III)I"⟩
abbrev cX12_sizeFor : ByteArray := prog_14_method_75_code
def yX12_sizeFor : MethodName := ⟨RX12, "sizeFor", "(II)I"⟩
abbrev cX12_tellsAll : ByteArray := prog_14_method_76_code
def yX12_tellsAll : MethodName := ⟨RX12, "tellsAll", "(IIII)V"⟩
abbrev cX12_told : ByteArray := prog_14_method_77_code
def yX12_told : MethodName := ⟨RX12, "told", "(IIII)I"⟩
abbrev cX12_backOf : ByteArray := prog_14_method_78_code
def yX12_backOf : MethodName := ⟨RX12, "backOf", "(I)I"⟩
abbrev cX12_back : ByteArray := prog_14_method_79_code
def yX12_back : MethodName := ⟨RX12, "back", "(I)I"⟩
abbrev cX12_seeds : ByteArray := prog_14_method_80_code
def yX12_seeds : MethodName := ⟨RX12, "seeds", "(I)I"⟩
abbrev cX12_canCarry : ByteArray := prog_14_method_81_code
def yX12_canCarry : MethodName := ⟨RX12, "canCarry", "(II)Z"⟩
abbrev cX12_leftIn : ByteArray := prog_14_method_82_code
def yX12_leftIn : MethodName := ⟨RX12, "leftIn", "(IZ)I"⟩
abbrev cX12_without : ByteArray := prog_14_method_83_code
def yX12_without : MethodName := ⟨RX12, "without", "(II)I"⟩
abbrev cX12_asThings : ByteArray := prog_14_method_84_code
def yX12_asThings : MethodName := ⟨RX12, "asThings", "(I)I"⟩
abbrev cX12_laysMen : ByteArray := prog_14_method_85_code
def yX12_laysMen : MethodName := ⟨RX12, "laysMen", "(IIZ)I"⟩
abbrev cX12_refusesMen : ByteArray := prog_14_method_86_code
def yX12_refusesMen : MethodName := ⟨RX12, "refusesMen", "(IIZ)I"⟩
abbrev cX12_men : ByteArray := prog_14_method_87_code
def yX12_men : MethodName := ⟨RX12, "men", "(IIZ)I"⟩
abbrev cX12_load : ByteArray := prog_14_method_88_code
def yX12_load : MethodName := ⟨RX12, "load", "(IIZI)I"⟩
abbrev cX12_isBest : ByteArray := prog_14_method_89_code
def yX12_isBest : MethodName := ⟨RX12, "isBest", "(II)V"⟩
abbrev cX12_rowsOf : ByteArray := prog_14_method_90_code
def yX12_rowsOf : MethodName := ⟨RX12, "rowsOf", "(IIIII)V"⟩
abbrev cX12_toldBest : ByteArray := prog_14_method_91_code
def yX12_toldBest : MethodName := ⟨RX12, "toldBest", "(I)I"⟩
abbrev cX12_isWhat : ByteArray := prog_14_method_92_code
def yX12_isWhat : MethodName := ⟨RX12, "isWhat", "(I)Z"⟩
abbrev cX12_road : ByteArray := prog_14_method_93_code
def yX12_road : MethodName := ⟨RX12, "road", "(III)I"⟩
abbrev cX12_questions : ByteArray := prog_14_method_94_code
def yX12_questions : MethodName := ⟨RX12, "questions", "(IIII)I"⟩
abbrev cX12_asked : ByteArray := prog_14_method_95_code
def yX12_asked : MethodName := ⟨RX12, "asked", "(I)I"⟩
abbrev cX12_broken : ByteArray := prog_14_method_96_code
def yX12_broken : MethodName := ⟨RX12, "broken", "(II)I"⟩
abbrev cX12_piece : ByteArray := prog_14_method_97_code
def yX12_piece : MethodName := ⟨RX12, "piece", "(I)I"⟩
abbrev cX12_stands : ByteArray := prog_14_method_98_code
def yX12_stands : MethodName := ⟨RX12, "stands", "(I[III)Z"⟩
abbrev cX12_isWithin : ByteArray := prog_14_method_99_code
def yX12_isWithin : MethodName := ⟨RX12, "isWithin", "(I)Z"⟩
abbrev cX12_lays : ByteArray := prog_14_method_100_code
def yX12_lays : MethodName := ⟨RX12, "lays", "(II)I"⟩
abbrev cX12_isFirst : ByteArray := prog_14_method_101_code
def yX12_isFirst : MethodName := ⟨RX12, "isFirst", "(I)Z"⟩
abbrev cX12_joins : ByteArray := prog_14_method_102_code
def yX12_joins : MethodName := ⟨RX12, "joins", "(II)V"⟩
abbrev cX12_joined : ByteArray := prog_14_method_103_code
def yX12_joined : MethodName := ⟨RX12, "joined", "(I)I"⟩
abbrev cX12_firstIn : ByteArray := prog_14_method_104_code
def yX12_firstIn : MethodName := ⟨RX12, "firstIn", "(II)I"⟩
abbrev cX12_areUnfit : ByteArray := prog_14_method_105_code
def yX12_areUnfit : MethodName := ⟨RX12, "areUnfit", "(II)Z"⟩
abbrev cX12_unfit : ByteArray := prog_14_method_106_code
def yX12_unfit : MethodName := ⟨RX12, "unfit", "()I"⟩
abbrev cX12_gaps : ByteArray := prog_14_method_107_code
def yX12_gaps : MethodName := ⟨RX12, "gaps", "()I"⟩
abbrev cX12_cut : ByteArray := prog_14_method_108_code
def yX12_cut : MethodName := ⟨RX12, "cut", "(JI)J"⟩
abbrev cX12_numbers : ByteArray := prog_14_method_109_code
def yX12_numbers : MethodName := ⟨RX12, "numbers", "(III)I"⟩
abbrev cX12_write : ByteArray := prog_14_method_110_code
def yX12_write : MethodName := ⟨RX12, "write", "(IIJ)J"⟩
abbrev cX12_copy : ByteArray := prog_14_method_111_code
def yX12_copy : MethodName := ⟨RX12, "copy", "(II)I"⟩
abbrev cX12_image : ByteArray := prog_14_method_112_code
def yX12_image : MethodName := ⟨RX12, "image", "(I)I"⟩
abbrev cX12_restore : ByteArray := prog_14_method_113_code
def yX12_restore : MethodName := ⟨RX12, "restore", "(I)I"⟩
abbrev cX12_count : ByteArray := prog_14_method_114_code
def yX12_count : MethodName := ⟨RX12, "count", "(I)I"⟩
def RJ6 : String := "java/lang/Integer"
abbrev cJ6_bitCount_0f7a4 : ByteArray := prog_15_method_49_code
def yJ6_bitCount_0f7a4 : MethodName := ⟨RJ6, "bitCount", "(I)I"⟩
def RJ9 : String := "java/lang/Math"
abbrev cJ9_abs_0f7a4 : ByteArray := prog_16_method_59_code
def yJ9_abs_0f7a4 : MethodName := ⟨RJ9, "abs", "(I)I"⟩
abbrev cJ9_max_7cf53 : ByteArray := prog_16_method_65_code
def yJ9_max_7cf53 : MethodName := ⟨RJ9, "max", "(II)I"⟩
abbrev cJ9_min_7cf53 : ByteArray := prog_16_method_69_code
def yJ9_min_7cf53 : MethodName := ⟨RJ9, "min", "(II)I"⟩
def RJ7 : String := "java/util/Arrays"
abbrev cJ7_fill_d0a16 : ByteArray := prog_21_method_101_code
def yJ7_fill_d0a16 : MethodName := ⟨RJ7, "fill", "([JJ)V"⟩
abbrev cJ7_fill_53178 : ByteArray := prog_21_method_103_code
def yJ7_fill_53178 : MethodName := ⟨RJ7, "fill", "([II)V"⟩
end
end
section
section
abbrev classes : List vw_C := [(RX0, TX0, 8), (RX1, TX1, 4), (RX2, TX2, 4), (RX3, TX3, 7), (RX4, TX4, 11), (RX5, TX5, 9), (RX6, TX6, 7), (RX7, TX7, 10), (RX8, TX8, 4), (RX9, TX9, 3), (RX10, TX10, 4), (RX11, TX11, 12), (RX12, TX12, 40)]
/-- a method: its name, code, locals, what it gives -/
abbrev ab_Y : Type := MethodName × ByteArray × Nat × Option FieldType
def ab_mts : List ab_Y := [(yX11_init, cX11_init, 2, none), (yX11_feed, cX11_feed, 6, (some .int)), (yX11_lore, cX11_lore, 2, (some .int)), (yX11_fault, cX11_fault, 2, (some .int)), (yX11_thing, cX11_thing, 3, (some .int)), (yX11_news, cX11_news, 3, (some .int)), (yX11_comes, cX11_comes, 2, (some .int)), (yX11_of, cX11_of, 5, (some .int)), (yX11_lost, cX11_lost, 3, (some .int)), (yX11_hears, cX11_hears, 3, (some .int)), (yX11_says, cX11_says, 4, (some .int)), (yX11_tells, cX11_tells, 7, (some .int)), (yX11_walks, cX11_walks, 3, (some .int)), (yX11_recites, cX11_recites, 4, (some .int)), (yX11_delivers, cX11_delivers, 2, (some .int)), (yX11_breach, cX11_breach, 3, (some .int)), (yX11_risk, cX11_risk, 4, (some .int)), (yX11_loud, cX11_loud, 3, (some .int)), (yX11_turned, cX11_turned, 3, (some .int)), (yX11_judge, cX11_judge, 7, (some .int)), (yX11_perform, cX11_perform, 4, (some .int)), (yX11_day, cX11_day, 3, (some .int)), (yX11_fresh, cX11_fresh, 5, (some .int)), (yX11_kept, cX11_kept, 5, (some .int)), (yX11_less, cX11_less, 4, (some .int)), (yX11_enough, cX11_enough, 6, (some .int)), (yX11_farBack, cX11_farBack, 4, (some .int)), (yX11_through, cX11_through, 5, (some .int)), (yX11_sizeFor, cX11_sizeFor, 6, (some .int)), (yX11_told, cX11_told, 5, (some .int)), (yX11_back, cX11_back, 2, (some .int)), (yX11_seeds, cX11_seeds, 2, (some .int)), (yX11_men, cX11_men, 5, (some .int)), (yX11_load, cX11_load, 7, (some .int)), (yX11_road, cX11_road, 4, (some .int)), (yX11_questions, cX11_questions, 5, (some .int)), (yX11_asked, cX11_asked, 2, (some .int)), (yX11_broken, cX11_broken, 3, (some .int)), (yX11_piece, cX11_piece, 4, (some .int)), (yX11_joined, cX11_joined, 2, (some .int)), (yX11_unfit, cX11_unfit, 3, (some .int)), (yX11_gaps, cX11_gaps, 1, (some .int)), (yX11_numbers, cX11_numbers, 4, (some .int)), (yX11_write, cX11_write, 6, (some .long)), (yX11_copy, cX11_copy, 6, (some .int)), (yX11_image, cX11_image, 2, (some .int)), (yX11_restore, cX11_restore, 2, (some .int)), (yX11_count, cX11_count, 2, (some .int)), (yX11_refusalOfRow, cX11_refusalOfRow, 2, (some .int)), (yX11_refusalOfHearings, cX11_refusalOfHearings, 6, (some .int)), (yX11_refusalOfMen, cX11_refusalOfMen, 4, (some .int)), (yX11_isSize, cX11_isSize, 1, (some .boolean)), (yX11_isAnswerOrPlace, cX11_isAnswerOrPlace, 2, (some .boolean)), (yX12_within, cX12_within, 6, (some .boolean)), (yX12_init, cX12_init, 1, none), (yX12_feed, cX12_feed, 8, (some .int)), (yX12_see, cX12_see, 2, (some .int)), (yX12_isSmall, cX12_isSmall, 1, (some .boolean)), (yX12_isDigit, cX12_isDigit, 1, (some .boolean)), (yX12_keyAt, cX12_keyAt, 4, (some .int)), (yX12_next, cX12_next, 1, none), (yX12_fails, cX12_fails, 2, none), (yX12_is, cX12_is, 2, (some .boolean)), (yX12_eats, cX12_eats, 2, (some .boolean)), (yX12_takes, cX12_takes, 4, (some .int)), (yX12_takesThing, cX12_takesThing, 1, (some .int)), (yX12_readThings, cX12_readThings, 2, none), (yX12_readTwo, cX12_readTwo, 4, none), (yX12_readWorth, cX12_readWorth, 3, none), (yX12_readInn, cX12_readInn, 4, none), (yX12_readLine, cX12_readLine, 1, none), (yX12_lore, cX12_lore, 3, (some .int)), (yX12_fault, cX12_fault, 2, (some .int)), (yX12_isThing, cX12_isThing, 3, (some .boolean)), (yX12_isInn, cX12_isInn, 3, (some .boolean)), (yX12_isMan, cX12_isMan, 3, (some .boolean)), (yX12_isSet, cX12_isSet, 2, (some .boolean)), (yX12_thing, cX12_thing, 3, (some .int)), (yX12_news, cX12_news, 3, (some .int)), (yX12_manAt, cX12_manAt, 1, (some .int)), (yX12_many, cX12_many, 2, (some .int)), (yX12_thingAt, cX12_thingAt, 3, (some .int)), (yX12_placeOf, cX12_placeOf, 4, (some .int)), (yX12_has, cX12_has, 3, (some .boolean)), (yX12_bitsIn, cX12_bitsIn, 4, (some .int)), (yX12_worthOf, cX12_worthOf, 4, (some .int)), (yX12_empties, cX12_empties, 5, none), (yX12_hear, cX12_hear, 7, (some .int)), (yX12_say, cX12_say, 5, (some .int)), (yX12_walk, cX12_walk, 7, (some .int)), (yX12_deliver, cX12_deliver, 5, (some .int)), (yX12_comes, cX12_comes, 2, (some .int)), (yX12_of, cX12_of, 3, (some .int)), (yX12_lost, cX12_lost, 3, (some .int)), (yX12_hears, cX12_hears, 3, (some .int)), (yX12_says, cX12_says, 3, (some .int)), (yX12_tell, cX12_tell, 5, (some .int)), (yX12_tells, cX12_tells, 4, (some .int)), (yX12_walks, cX12_walks, 3, (some .int)), (yX12_recites, cX12_recites, 7, (some .int)), (yX12_delivers, cX12_delivers, 2, (some .int)), (yX12_isBreach, cX12_isBreach, 4, (some .boolean)), (yX12_breach, cX12_breach, 5, (some .int)), (yX12_triesAs, cX12_triesAs, 3, none), (yX12_risk, cX12_risk, 3, (some .int)), (yX12_loud, cX12_loud, 6, (some .int)), (yX12_bitsOf, cX12_bitsOf, 3, (some .int)), (yX12_turned, cX12_turned, 8, (some .int)), (yX12_acts, cX12_acts, 7, (some .boolean)), (yX12_actsAll, cX12_actsAll, 4, (some .int)), (yX12_judge, cX12_judge, 8, (some .int)), (yX12_perform, cX12_perform, 3, (some .int)), (yX12_draw, cX12_draw, 2, (some .int)), (yX12_day, cX12_day, 7, (some .int)), (yX12_areThings, cX12_areThings, 3, (some .boolean)), (yX12_nextAt, cX12_nextAt, 5, (some .int)), (yX12_driven, cX12_driven, 8, (some .int)), (yX12_freshOf, cX12_freshOf, 7, (some .int)), (yX12_fresh, cX12_fresh, 4, (some .int)), (yX12_kept, cX12_kept, 4, (some .int)), (yX12_less, cX12_less, 3, (some .int)), (yX12_enough, cX12_enough, 5, (some .int)), (yX12_farBack, cX12_farBack, 5, (some .int)), (yX12_throughOf, cX12_throughOf, 5, (some .int)), (yX12_tellsRow, cX12_tellsRow, 3, none), (yX12_through, cX12_through, 4, (some .int)), (yX12_sizeFor, cX12_sizeFor, 5, (some .int)), (yX12_tellsAll, cX12_tellsAll, 7, none), (yX12_told, cX12_told, 5, (some .int)), (yX12_backOf, cX12_backOf, 5, (some .int)), (yX12_back, cX12_back, 2, (some .int)), (yX12_seeds, cX12_seeds, 5, (some .int)), (yX12_canCarry, cX12_canCarry, 4, (some .boolean)), (yX12_leftIn, cX12_leftIn, 6, (some .int)), (yX12_without, cX12_without, 5, (some .int)), (yX12_asThings, cX12_asThings, 4, (some .int)), (yX12_laysMen, cX12_laysMen, 15, (some .int)), (yX12_refusesMen, cX12_refusesMen, 4, (some .int)), (yX12_men, cX12_men, 5, (some .int)), (yX12_load, cX12_load, 10, (some .int)), (yX12_isBest, cX12_isBest, 4, none), (yX12_rowsOf, cX12_rowsOf, 7, none), (yX12_toldBest, cX12_toldBest, 2, (some .int)), (yX12_isWhat, cX12_isWhat, 1, (some .boolean)), (yX12_road, cX12_road, 5, (some .int)), (yX12_questions, cX12_questions, 6, (some .int)), (yX12_asked, cX12_asked, 7, (some .int)), (yX12_broken, cX12_broken, 5, (some .int)), (yX12_piece, cX12_piece, 4, (some .int)), (yX12_stands, cX12_stands, 6, (some .boolean)), (yX12_isWithin, cX12_isWithin, 4, (some .boolean)), (yX12_lays, cX12_lays, 7, (some .int)), (yX12_isFirst, cX12_isFirst, 3, (some .boolean)), (yX12_joins, cX12_joins, 4, none), (yX12_joined, cX12_joined, 4, (some .int)), (yX12_firstIn, cX12_firstIn, 4, (some .int)), (yX12_areUnfit, cX12_areUnfit, 5, (some .boolean)), (yX12_unfit, cX12_unfit, 3, (some .int)), (yX12_gaps, cX12_gaps, 4, (some .int)), (yX12_cut, cX12_cut, 3, (some .long)), (yX12_numbers, cX12_numbers, 5, (some .int)), (yX12_write, cX12_write, 5, (some .long)), (yX12_copy, cX12_copy, 4, (some .int)), (yX12_image, cX12_image, 3, (some .int)), (yX12_restore, cX12_restore, 3, (some .int)), (yX12_count, cX12_count, 2, (some .int)), (yX0_init, cX0_init, 1, none), (yX0_chooseSayings, cX0_chooseSayings, 4, none), (yX0_chooseQuestions, cX0_chooseQuestions, 5, none), (yX0_begin, cX0_begin, 3, none), (yX0_sayOn, cX0_sayOn, 8, none), (yX0_askOn, cX0_askOn, 8, none), (yX0_weigh, cX0_weigh, 3, none), (yX0_answer, cX0_answer, 3, (some .int)), (yX1_init, cX1_init, 1, none), (yX1_fewest, cX1_fewest, 6, (some .int)), (yX1_loadOf, cX1_loadOf, 5, (some .int)), (yX1_leastLoad, cX1_leastLoad, 9, (some .int)), (yX1_canCarry, cX1_canCarry, 7, (some .boolean)), (yX1_canDivide, cX1_canDivide, 11, (some .boolean)), (yX1_hardestOf, cX1_hardestOf, 6, (some .int)), (yX1_easyOf, cX1_easyOf, 5, (some .int)), (yX1_tooMuchAt, cX1_tooMuchAt, 4, (some .int)), (yX1_isFull, cX1_isFull, 4, (some .boolean)), (yX2_init, cX2_init, 2, none), (yX2_likeOf, cX2_likeOf, 3, none), (yX2_isOne, cX2_isOne, 3, (some .boolean)), (yX2_areTwo, cX2_areTwo, 5, (some .boolean)), (yX2_addOne, cX2_addOne, 2, (some .int)), (yX2_turnedPairs, cX2_turnedPairs, 8, (some .int)), (yX2_act, cX2_act, 5, (some .int)), (yX2_actOnce, cX2_actOnce, 8, (some .boolean)), (yX2_hearIfThere, cX2_hearIfThere, 4, (some .boolean)), (yX2_sayIfHeld, cX2_sayIfHeld, 4, (some .boolean)), (yX2_walkIfThere, cX2_walkIfThere, 4, (some .boolean)), (yX2_listenIfNear, cX2_listenIfNear, 8, (some .boolean)), (yX2_spendDay, cX2_spendDay, 7, (some .int)), (yX2_spendOnce, cX2_spendOnce, 4, none), (yX2_draw, cX2_draw, 1, (some .int)), (yX2_lostByAll, cX2_lostByAll, 3, (some .int)), (yX2_heldByHimAlone, cX2_heldByHimAlone, 2, (some .int)), (yX2_heldBy, cX2_heldBy, 4, (some .int)), (yX2_fewestHolding, cX2_fewestHolding, 6, (some .int)), (yX3_init, cX3_init, 1, none), (yX3_begin, cX3_begin, 2, none), (yX3_likeOf, cX3_likeOf, 2, none), (yX3_likeMindOf, cX3_likeMindOf, 2, none), (yX3_setMind, cX3_setMind, 4, none), (yX3_has, cX3_has, 2, (some .boolean)), (yX3_thingAt, cX3_thingAt, 2, (some .int)), (yX3_placeOf, cX3_placeOf, 3, (some .int)), (yX3_hear, cX3_hear, 2, (some .int)), (yX3_bringForward, cX3_bringForward, 7, none), (yX3_loseLast, cX3_loseLast, 2, (some .int)), (yX3_say, cX3_say, 6, (some .int)), (yX3_walk, cX3_walk, 7, (some .int)), (yX3_hearLatestOf, cX3_hearLatestOf, 3, none), (yX3_recite, cX3_recite, 7, (some .int)), (yX3_deliver, cX3_deliver, 7, (some .int)), (yX4_init, cX4_init, 1, none), (yX4_takeRow, cX4_takeRow, 4, (some .boolean)), (yX4_inRow, cX4_inRow, 3, (some .int)), (yX4_newOnes, cX4_newOnes, 3, (some .int)), (yX4_newByRule, cX4_newByRule, 6, (some .int)), (yX4_newByForesight, cX4_newByForesight, 5, (some .int)), (yX4_neededLast, cX4_neededLast, 4, (some .int)), (yX4_unlikeSinceLast, cX4_unlikeSinceLast, 4, (some .int)), (yX4_comesThrough, cX4_comesThrough, 5, (some .int)), (yX4_tellBest, cX4_tellBest, 5, none), (yX4_tellOn, cX4_tellOn, 8, none), (yX4_weighOrder, cX4_weighOrder, 4, none), (yX4_answerOfTold, cX4_answerOfTold, 3, (some .int)), (yX5_init, cX5_init, 1, none), (yX5_clear, cX5_clear, 1, none), (yX5_likeOf, cX5_likeOf, 2, none), (yX5_isThing, cX5_isThing, 3, (some .boolean)), (yX5_isInn, cX5_isInn, 3, (some .boolean)), (yX5_isSet, cX5_isSet, 2, (some .boolean)), (yX5_allThings, cX5_allThings, 1, (some .int)), (yX5_newsAt, cX5_newsAt, 3, (some .int)), (yX5_addNews, cX5_addNews, 3, (some .boolean)), (yX5_newsOnWay, cX5_newsOnWay, 8, (some .int)), (yX5_worthOf, cX5_worthOf, 4, (some .int)), (yX5_secretPair, cX5_secretPair, 5, (some .int)), (yX5_comeBack, cX5_comeBack, 6, (some .int)), (yX6_init, cX6_init, 1, none), (yX6_likeOf, cX6_likeOf, 2, none), (yX6_addOne, cX6_addOne, 3, (some .int)), (yX6_thingOf, cX6_thingOf, 3, (some .int)), (yX6_inThem, cX6_inThem, 4, (some .int)), (yX6_areUnfit, cX6_areUnfit, 5, (some .boolean)), (yX6_isTurned, cX6_isTurned, 9, (some .boolean)), (yX6_firstPlace, cX6_firstPlace, 4, (some .int)), (yX6_join, cX6_join, 4, none), (yX6_isWithinAnother, cX6_isWithinAnother, 5, (some .boolean)), (yX6_overlapOf, cX6_overlapOf, 4, (some .int)), (yX6_isSame, cX6_isSame, 6, (some .boolean)), (yX6_joinOn, cX6_joinOn, 8, none), (yX6_isFirstByThings, cX6_isFirstByThings, 3, (some .boolean)), (yX7_init, cX7_init, 1, none), (yX7_putOnTape, cX7_putOnTape, 3, none), (yX7_readText, cX7_readText, 3, (some .boolean)), (yX7_fail, cX7_fail, 2, (some .boolean)), (yX7_readLine, cX7_readLine, 2, (some .boolean)), (yX7_lineHere, cX7_lineHere, 1, (some .int)), (yX7_readThings, cX7_readThings, 1, (some .boolean)), (yX7_readMind, cX7_readMind, 1, (some .boolean)), (yX7_readPair, cX7_readPair, 3, (some .boolean)), (yX7_readWorth, cX7_readWorth, 2, (some .boolean)), (yX7_readInn, cX7_readInn, 3, (some .boolean)), (yX7_readThing, cX7_readThing, 2, (some .boolean)), (yX7_readNumber, cX7_readNumber, 4, (some .boolean)), (yX7_numberStands, cX7_numberStands, 4, (some .boolean)), (yX7_readSign, cX7_readSign, 1, (some .boolean)), (yX7_nextToken, cX7_nextToken, 1, none), (yX7_takeDigits, cX7_takeDigits, 1, none), (yX7_isWord, cX7_isWord, 3, (some .boolean)), (yX7_isLetter, cX7_isLetter, 1, (some .boolean)), (yX7_isDigit, cX7_isDigit, 1, (some .boolean)), (yX8_init, cX8_init, 1, none), (yX8_begin, cX8_begin, 3, none), (yX8_put, cX8_put, 4, (some .long)), (yX8_cut, cX8_cut, 3, (some .long)), (yX9_init, cX9_init, 1, none), (yX9_fewestFor, cX9_fewestFor, 5, (some .int)), (yX9_prepare, cX9_prepare, 6, none), (yX9_leastSet, cX9_leastSet, 6, (some .int)), (yX10_init, cX10_init, 1, none), (yX10_beginWith, cX10_beginWith, 2, none), (yX10_likeOf, cX10_likeOf, 2, none), (x, code, 4, (some .boolean)), (yJ6_bitCount_0f7a4, cJ6_bitCount_0f7a4, 1, (some .int)), (yJ9_abs_0f7a4, cJ9_abs_0f7a4, 1, (some .int)), (yJ9_max_7cf53, cJ9_max_7cf53, 2, (some .int)), (yJ9_min_7cf53, cJ9_min_7cf53, 2, (some .int)), (yJ7_fill_53178, cJ7_fill_53178, 4, none), (yJ7_fill_d0a16, cJ7_fill_d0a16, 5, none)]
def ab_mt (m : Nat) : ab_Y := ab_mts.getD m (x, code, 0, none)
def ab_fks : List (List Nat) := [[3, 3, 3, 3, 3, 0, 0, 0], [3, 0, 0, 0], [3, 0, 0, 0], [0, 0, 0, 0, 2, 0, 3], [3, 0, 0, 3, 3, 3, 3, 3, 0, 0, 0], [0, 0, 0, 0, 3, 3, 3, 3, 3], [0, 3, 3, 3, 3, 3, 0], [3, 0, 0, 0, 3, 0, 0, 0, 0, 0], [3, 0, 1, 0], [3, 3, 3], [3, 3, 3, 1], [3, 3, 3, 3, 3, 3, 3, 3, 3, 3, 3, 3], [0, 3, 3, 3, 3, 0, 0, 0, 0, 0, 0, 0, 0, 0, 0, 3, 3, 0, 0, 3, 3, 0, 3, 3, 0, 0, 3, 0, 3, 3, 3, 3, 3, 0, 3, 3, 0, 3, 3, 3]]
def ab_fk (t k : Nat) : Nat := (ab_fks.getD t []).getD k 0
def ab_nf (t : Nat) : Nat := (ab_fks.getD t []).length
def ab_els : List (Nat × Nat) := [(20, 10), (21, 8), (46, 3)]
end
end
section
section
def ab_cls (t : Nat) : vw_C := classes.getD t ("", TX0, 0)
/-- where the texts stand: class and entry -/
def ab_so (j : Nat) : String × Nat := [("NineInMindModel", 89), ("NineInMind$Reader", 90), ("NineInMind$Reader", 95), ("NineInMind$Reader", 97), ("NineInMind$Reader", 99), ("NineInMind$Reader", 101), ("NineInMind$Reader", 103)].getD j ("", 0)
/-- an int, a long in its bounds -/
abbrev in32 (x : Int) : Prop := -2147483648 ≤ x ∧ x < 2147483648
abbrev in64 (x : Int) : Prop := -9223372036854775808 ≤ x ∧ x < 9223372036854775808
def ab_rk (r : Option FieldType) : Int := match r with
  | none => 0
  | some .long => 2
  | _ => 1
def ab_aty (k : Nat) : ArrayType := match k with
  | 1 => .int
  | 2 => .byte
  | 3 => .boolean
  | _ => .long
def ab_l4 (cc : ByteArray) (pc nx a : Nat) (f : Nat → Instr) (g : Fin 4 → Instr) : Bool := decide ((decode cc pc = .ok (f a, 2) ∧ nx = pc + 2) ∨ (decode cc pc = .ok (g (Fin.ofNat 4 a), 1) ∧ nx = pc + 1 ∧ a < 4))
def ab_pl (cc : ByteArray) (pc nx : Nat) (i : Instr) : Bool := decide (decode cc pc = .ok (i, 1) ∧ nx = pc + 1)
/-- an instruction of a table is the one that the class file has; hi, hp: its entry in the pool, the place of its word in the tables -/
def ab_chk (own : String) (cc : ByteArray) (rt : Option FieldType) (init : Bool) (pc : Nat) (e : ab_E) (hi hp : Nat) : Bool :=
  match e with
  | (op, nx, a, b, x) => match op with
  | .iconst _ => decide ((decode cc pc = .ok (.iconst x, 1) ∧ nx = pc + 1 ∧ in32 x) ∨ (decode cc pc = .ok (.bipush x, 2) ∧ nx = pc + 2 ∧ -128 ≤ x ∧ x < 128) ∨ (decode cc pc = .ok (.sipush x, 3) ∧ nx = pc + 3 ∧ -32768 ≤ x ∧ x < 32768) ∨ (decode cc pc = .ok (.ldc hi, 2) ∧ nx = pc + 2 ∧ in32 x ∧ lw_tbl[hp]? = some (.constant own hi (Int32.ofInt x))) ∨ (decode cc pc = .ok (.ldc_w hi, 3) ∧ nx = pc + 3 ∧ in32 x ∧ lw_tbl[hp]? = some (.constant own hi (Int32.ofInt x))))
  | .ldc2_w _ => decide ((decode cc pc = .ok (.lconst 0, 1) ∧ nx = pc + 1 ∧ x = 0) ∨ (decode cc pc = .ok (.lconst 1, 1) ∧ nx = pc + 1 ∧ x = 1) ∨ (decode cc pc = .ok (.ldc2_w hi, 3) ∧ nx = pc + 3 ∧ in64 x ∧ lw_tbl[hp]? = some (.constantLong own hi (Int64.ofInt x))))
  | .iload _ => ab_l4 cc pc nx a .iload .iload_n
  | .lload _ => ab_l4 cc pc nx a .lload .lload_n
  | .aload _ => ab_l4 cc pc nx a .aload .aload_n
  | .istore _ => ab_l4 cc pc nx a .istore .istore_n
  | .lstore _ => ab_l4 cc pc nx a .lstore .lstore_n
  | .astore _ => ab_l4 cc pc nx a .astore .astore_n
  | .iinc _ _ => decide (decode cc pc = .ok (.iinc a x, 3) ∧ nx = pc + 3)
  | .iadd => ab_pl cc pc nx .iadd
  | .isub => ab_pl cc pc nx .isub
  | .imul => ab_pl cc pc nx .imul
  | .idiv => ab_pl cc pc nx .idiv
  | .irem => ab_pl cc pc nx .irem
  | .ineg => ab_pl cc pc nx .ineg
  | .iand => ab_pl cc pc nx .iand
  | .ior => ab_pl cc pc nx .ior
  | .ixor => ab_pl cc pc nx .ixor
  | .ishl => ab_pl cc pc nx .ishl
  | .ishr => ab_pl cc pc nx .ishr
  | .iushr => ab_pl cc pc nx .iushr
  | .lsub => ab_pl cc pc nx .lsub
  | .land => ab_pl cc pc nx .land
  | .lor => ab_pl cc pc nx .lor
  | .lshl => ab_pl cc pc nx .lshl
  | .lushr => ab_pl cc pc nx .lushr
  | .lcmp => ab_pl cc pc nx .lcmp
  | .i2l => ab_pl cc pc nx .i2l
  | .l2i => ab_pl cc pc nx .l2i
  | .i2b => ab_pl cc pc nx .i2b
  | .i2s => ab_pl cc pc nx .i2s
  | .dup => ab_pl cc pc nx .dup
  | .dup2 => ab_pl cc pc nx .dup2
  | .pop => ab_pl cc pc nx .pop
  | .pop2 => ab_pl cc pc nx .pop2
  | .iaload => ab_pl cc pc nx .iaload
  | .baload => ab_pl cc pc nx .baload
  | .laload => ab_pl cc pc nx .laload
  | .aaload => ab_pl cc pc nx .aaload
  | .iastore => ab_pl cc pc nx .iastore
  | .bastore => ab_pl cc pc nx .bastore
  | .lastore => ab_pl cc pc nx .lastore
  | .aastore => ab_pl cc pc nx .aastore && decide ((ab_tg b).1 = 5 ∧ (ab_els.lookup b).getD 0 = a ∧ a < 13)
  | .arraylength => ab_pl cc pc nx .arraylength
  | .goto _ => decide (decode cc pc = .ok (.goto ((a : Int) - pc), 3))
  | .ifCond c _ => decide (decode cc pc = .ok (.ifCond c ((a : Int) - pc), 3) ∧ nx = pc + 3)
  | .if_icmp c _ => decide (decode cc pc = .ok (.if_icmp c ((a : Int) - pc), 3) ∧ nx = pc + 3)
  | .lookupswitch _ ps => match decode cc pc with
    | .ok (.tableswitch d lo hi2 offs, _) => decide ((pc : Int) + d = a ∧ hi2 = lo + offs.size - 1 ∧ ps.toList = (offs.toList.zipIdx).map (fun q => (lo + q.2, (pc : Int) + q.1)) ∧ offs.toList.all (fun o => 0 ≤ (pc : Int) + o) = true)
    | .ok (.lookupswitch d qs, _) => decide ((pc : Int) + d = a ∧ ps.toList = qs.toList.map (fun q => (q.1, (pc : Int) + q.2)) ∧ (qs.toList.zip (qs.toList.drop 1)).all (fun q => q.1.1 < q.2.1) = true ∧ qs.toList.all (fun q => 0 ≤ (pc : Int) + q.2) = true)
    | _ => false
  | .getfield _ => decide (decode cc pc = .ok (.getfield hi, 3) ∧ nx = pc + 3 ∧ a < 13 ∧ b < (ab_cls a).2.2 ∧ x = (ab_fk a b : Int) ∧ lw_tbl[hp]? = some (.fieldLink own hi ((ab_cls a).2.1 b).1 ((ab_cls a).2.1 b).2.1 ((ab_cls a).2.1 b).2.2.1))
  | .putfield _ => decide (decode cc pc = .ok (.putfield hi, 3) ∧ nx = pc + 3 ∧ a < 13 ∧ b < (ab_cls a).2.2 ∧ x = (ab_fk a b : Int) ∧ (((ab_cls a).2.1 b).2.2.2 = false ∨ (((ab_cls a).2.1 b).2.2.2 = true ∧ init = true ∧ ((ab_cls a).2.1 b).1 = own)) ∧ lw_tbl[hp]? = some (.fieldLink own hi ((ab_cls a).2.1 b).1 ((ab_cls a).2.1 b).2.1 ((ab_cls a).2.1 b).2.2.1))
  | .new _ => decide (decode cc pc = .ok (.new hi, 3) ∧ nx = pc + 3 ∧ a < 13 ∧ lw_tbl[hp]? = some (.classLink own hi (ab_cls a).1))
  | .newarray _ => decide (decode cc pc = .ok (.newarray (ab_aty (ab_tg a).1), 2) ∧ nx = pc + 2 ∧ 1 ≤ (ab_tg a).1 ∧ (ab_tg a).1 ≤ 4)
  | .anewarray _ => decide (decode cc pc = .ok (.anewarray hi, 3) ∧ nx = pc + 3 ∧ (ab_tg a).1 = 5 ∧ lw_tbl[hp]? = some (.classLink own hi (ab_cls ((ab_els.lookup a).getD 0)).1))
  | .invokestatic _ => decide (decode cc pc = .ok (.invokestatic hi, 3) ∧ nx = pc + 3 ∧ a < 297 ∧ x = ab_rk (ab_mt a).2.2.2 ∧ (parseMethodDescriptor (ab_mt a).1.desc).map (fun d => d.parameters.length) = some b ∧ lw_tbl[hp]? = some (.methodLink own hi (ab_mt a).1))
  | .invokevirtual t => decide (decode cc pc = .ok (.invokevirtual hi, 3) ∧ nx = pc + 3 ∧ a < 297 ∧ t < 13 ∧ x = ab_rk (ab_mt a).2.2.2 ∧ (ab_mt a).1.cls = (ab_cls t).1 ∧ 0 < b ∧ (parseMethodDescriptor (ab_mt a).1.desc).map (fun d => d.parameters.length) = some (b - 1) ∧ lw_tbl[hp]? = some (.methodLink own hi (ab_mt a).1))
  | .invokespecial t => decide (decode cc pc = .ok (.invokespecial hi, 3) ∧ nx = pc + 3 ∧ a < 297 ∧ t < 13 ∧ x = 0 ∧ (ab_mt a).2.2.2 = none ∧ (ab_mt a).1.name = "<init>" ∧ 0 < b ∧ (parseMethodDescriptor (ab_mt a).1.desc).map (fun d => d.parameters.length) = some (b - 1) ∧ (lw_tbl[hp]? = some (.methodLink own hi (ab_mt a).1) ∨ lw_tbl[hp]? = some (.methodLinkNest own hi (ab_mt a).1 "NineInMind")))
  | .caload => decide (decode cc pc = .ok (.invokestatic hi, 3) ∧ nx = pc + 3 ∧ lw_tbl[hp]? = some (.methodLink own hi arraycopyName))
  | .castore => decide (decode cc pc = .ok (.invokevirtual hi, 3) ∧ nx = pc + 3 ∧ lw_tbl[hp]? = some (.methodLink own hi ⟨"java/lang/String", "length", "()I"⟩))
  | .d2f => decide (decode cc pc = .ok (.invokevirtual hi, 3) ∧ nx = pc + 3 ∧ lw_tbl[hp]? = some (.methodLink own hi ⟨"java/lang/String", "charAt", "(I)C"⟩))
  | .d2i => decide (decode cc pc = .ok (.ldc hi, 2) ∧ nx = pc + 2 ∧ a < 7 ∧ ab_so a = (own, hi))
  | .d2l => decide (decode cc pc = .ok (.invokespecial hi, 3) ∧ nx = pc + 3 ∧ lw_tbl[hp]? = some (.methodLink own hi Lib.objectInit))
  | .ireturn => decide (decode cc pc = .ok (.ireturn, 1) ∧ ((a = 0 ∧ rt = some .int) ∨ (a = 1 ∧ rt = some .boolean)))
  | .lreturn => decide (decode cc pc = .ok (.lreturn, 1) ∧ rt = some .long)
  | .return_ => decide (decode cc pc = .ok (.return_, 1) ∧ rt = none)
  | _ => false
def ab_chks (own : String) (cc : ByteArray) (rt : Option FieldType) (init : Bool) : List (Nat × ab_E) → List (Nat × Nat) → Bool
  | [], _ => true
  | (pc, e) :: r, (hi, hp) :: s => ab_chk own cc rt init pc e hi hp && ab_chks own cc rt init r s
  | (pc, e) :: r, [] => ab_chk own cc rt init pc e 0 0 && ab_chks own cc rt init r []
end
end
section
section
theorem w32_in (x : Int) : in32 (w32 x) := by unfold w32; omega
theorem w64_in (x : Int) : in64 (w64 x) := by unfold w64; omega
theorem w32_id {x : Int} (h : in32 x) : w32 x = x := by unfold w32; omega
theorem w64_id {x : Int} (h : in64 x) : w64 x = x := by unfold w64; omega
theorem ar_in (v : Int32) : in32 v.toInt := ⟨Int32.le_toInt v, Int32.toInt_lt v⟩
theorem al_in (v : Int64) : in64 v.toInt := ⟨Int64.le_toInt v, Int64.toInt_lt v⟩
theorem ar_bm (z : Int) : Int.bmod z 4294967296 = w32 z := by
  unfold Int.bmod w32
  dsimp only
  split <;> omega
theorem al_bm (z : Int) : Int.bmod z 18446744073709551616 = w64 z := by
  unfold Int.bmod w64
  dsimp only
  split <;> omega
theorem ar_ti (z : Int) : (Int32.ofInt z).toInt = w32 z := (Int32.toInt_ofInt).trans (ar_bm z)
theorem al_ti (z : Int) : (Int64.ofInt z).toInt = w64 z := (Int64.toInt_ofInt).trans (al_bm z)
theorem ar_to {x : Int} (h : in32 x) : (Int32.ofInt x).toInt = x := by rw [ar_ti, w32_id h]
theorem al_to {x : Int} (h : in64 x) : (Int64.ofInt x).toInt = x := by rw [al_ti, w64_id h]
theorem ar_eq {a b : Int32} (h : a.toInt = b.toInt) : a = b := Int32.toInt_inj.mp h
theorem al_eq {a b : Int64} (h : a.toInt = b.toInt) : a = b := Int64.toInt_inj.mp h
theorem ar_w (z : Int) : Int32.ofInt (w32 z) = Int32.ofInt z := ar_eq (by rw [ar_ti, ar_ti, w32_id (w32_in z)])
theorem al_w (z : Int) : Int64.ofInt (w64 z) = Int64.ofInt z := al_eq (by rw [al_ti, al_ti, w64_id (w64_in z)])
theorem ar_add (x y : Int) : Int32.ofInt x + Int32.ofInt y = Int32.ofInt (w32 (x + y)) := by
  apply ar_eq
  rw [Int32.toInt_add, ar_ti, ar_ti, ar_ti]
  refine (ar_bm _).trans ?_
  unfold w32; omega
theorem ar_sub (x y : Int) : Int32.ofInt x - Int32.ofInt y = Int32.ofInt (w32 (x - y)) := by
  apply ar_eq
  rw [Int32.toInt_sub, ar_ti, ar_ti, ar_ti]
  refine (ar_bm _).trans ?_
  unfold w32; omega
theorem al_sub (x y : Int) : Int64.ofInt x - Int64.ofInt y = Int64.ofInt (w64 (x - y)) := by
  apply al_eq
  rw [Int64.toInt_sub, al_ti, al_ti, al_ti]
  refine (al_bm _).trans ?_
  unfold w64; omega
theorem ar_neg (x : Int) : - Int32.ofInt x = Int32.ofInt (w32 (-x)) := by
  apply ar_eq
  rw [Int32.toInt_neg, ar_ti, ar_ti]
  refine (ar_bm _).trans ?_
  unfold w32; omega
theorem ar_mul {x y : Int} (hx : in32 x) (hy : in32 y) : Int32.ofInt x * Int32.ofInt y = Int32.ofInt (w32 (x * y)) := by
  apply ar_eq
  rw [Int32.toInt_mul, ar_to hx, ar_to hy, ar_to (w32_in _)]
  exact ar_bm _
theorem ar_div {x y : Int} (hx : in32 x) (hy : in32 y) : Int32.ofInt x / Int32.ofInt y = Int32.ofInt (w32 (Int.tdiv x y)) := by
  apply ar_eq
  rw [Int32.toInt_div, ar_to hx, ar_to hy, ar_to (w32_in _)]
  exact ar_bm _
theorem ar_rem {x y : Int} (hx : in32 x) (hy : in32 y) : Int32.ofInt x - Int32.ofInt x / Int32.ofInt y * Int32.ofInt y = Int32.ofInt (w32 (Int.tmod x y)) := by
  rw [ar_div hx hy, ar_mul (w32_in _) hy, ar_sub, Int.tmod_def]
  apply ar_eq
  rw [ar_ti, ar_ti]
  have h1 : ∃ q, w32 (Int.tdiv x y) = Int.tdiv x y + 4294967296 * q := ⟨-((Int.tdiv x y + 2147483648) / 4294967296), by unfold w32; omega⟩
  obtain ⟨q, hq⟩ := h1
  rw [hq, Int.add_mul]
  have h2 : (4294967296 * q * y : Int) = 4294967296 * (q * y) := by rw [Int.mul_assoc]
  rw [h2, Int.mul_comm y]
  generalize Int.tdiv x y * y = z
  generalize q * y = r
  unfold w32; omega
theorem ar_ne {x : Int} (hx : in32 x) (h : ¬ x = 0) : ¬ Int32.ofInt x = 0 := fun e => h (by have := congrArg Int32.toInt e; rw [ar_to hx] at this; exact this)
theorem ar_bv (x : Int) : (Int32.ofInt x).toBitVec = BitVec.ofInt 32 x := rfl
theorem al_bv (x : Int) : (Int64.ofInt x).toBitVec = BitVec.ofInt 64 x := rfl
theorem ar_bb (b : BitVec 32) : Int32.ofInt b.toInt = Int32.ofBitVec b := by
  apply ar_eq
  rw [ar_to ⟨BitVec.le_toInt b, BitVec.toInt_lt⟩]
  rfl
theorem al_bb (b : BitVec 64) : Int64.ofInt b.toInt = Int64.ofBitVec b := by
  apply al_eq
  rw [al_to ⟨BitVec.le_toInt b, BitVec.toInt_lt⟩]
  rfl
theorem ar_and (x y : Int) : Int32.ofInt x &&& Int32.ofInt y = Int32.ofInt (b_an x y) := (ar_bb _).symm
theorem ar_or (x y : Int) : Int32.ofInt x ||| Int32.ofInt y = Int32.ofInt (b_orr x y) := (ar_bb _).symm
theorem ar_xor (x y : Int) : Int32.ofInt x ^^^ Int32.ofInt y = Int32.ofInt (b_xr x y) := (ar_bb _).symm
theorem al_and (x y : Int) : Int64.ofInt x &&& Int64.ofInt y = Int64.ofInt (d_an x y) := (al_bb _).symm
theorem al_or (x y : Int) : Int64.ofInt x ||| Int64.ofInt y = Int64.ofInt (d_orr x y) := (al_bb _).symm
theorem b_an_in (x y : Int) : in32 (b_an x y) := ⟨BitVec.le_toInt _, BitVec.toInt_lt⟩
theorem b_orr_in (x y : Int) : in32 (b_orr x y) := ⟨BitVec.le_toInt _, BitVec.toInt_lt⟩
theorem b_xr_in (x y : Int) : in32 (b_xr x y) := ⟨BitVec.le_toInt _, BitVec.toInt_lt⟩
theorem d_an_in (x y : Int) : in64 (d_an x y) := ⟨BitVec.le_toInt _, BitVec.toInt_lt⟩
theorem d_orr_in (x y : Int) : in64 (d_orr x y) := ⟨BitVec.le_toInt _, BitVec.toInt_lt⟩
theorem b_sl_in (x y : Int) : in32 (b_sl x y) := w32_in _
theorem b_us_in (x y : Int) : in32 (b_us x y) := w32_in _
theorem d_sl_in (x y : Int) : in64 (d_sl x y) := w64_in _
theorem d_us_in (x y : Int) : in64 (d_us x y) := w64_in _
theorem ar_pw (n : Nat) : (1 : Int) ≤ 2 ^ n := by
  have : (0 : Int) < 2 ^ n := Int.pow_pos (by decide)
  omega
theorem b_sr_in {x : Int} (y : Int) (h : in32 x) : in32 (b_sr x y) := by
  unfold b_sr
  have hp := ar_pw (y % 32).toNat
  generalize (2 : Int) ^ (y % 32).toNat = p at hp
  refine ⟨?_, ?_⟩
  · exact (Int.le_ediv_iff_mul_le (by omega)).mpr (by
      have : (-2147483648 : Int) * p ≤ -2147483648 * 1 := Int.mul_le_mul_of_nonpos_left (by decide) hp
      omega)
  · exact (Int.ediv_lt_iff_lt_mul (by omega)).mpr (by
      have : (2147483648 : Int) * 1 ≤ 2147483648 * p := Int.mul_le_mul_of_nonneg_left hp (by decide)
      omega)
theorem w8_in (x : Int) : in32 (w8 x) := by unfold w8; omega
theorem w16_in (x : Int) : in32 (w16 x) := by unfold w16; omega
end
end
section
section
theorem ar_63 (n : Nat) : n &&& 63 = n % 64 := Nat.and_two_pow_sub_one_eq_mod n 6
theorem ar_31n (n : Nat) : n &&& 31 = n % 32 := Nat.and_two_pow_sub_one_eq_mod n 5
theorem ar_tn (y : Int) : (Int32.ofInt y).toBitVec.toNat = (y % 4294967296).toNat := by
  rw [ar_bv, BitVec.toNat_ofInt]; rfl
theorem al_tn (y : Int) : (Int64.ofInt y).toBitVec.toNat = (y % 18446744073709551616).toNat := by
  rw [al_bv, BitVec.toNat_ofInt]; rfl
theorem ar_31 (y : Int) : Int32.ofInt y &&& 31 = nI (y % 32).toNat := by
  rw [pk_and (Int32.ofInt y) (m := 31) 5 rfl, ar_tn]
  congr 1
  omega
theorem ar_sc : ∀ n, n < 32 → ((nI n).toBitVec.smod 32).toNat = n := by decide +kernel
theorem ar_lt (y : Int) : (y % 32).toNat < 32 := by omega
theorem al_lt (y : Int) : (y % 64).toNat < 64 := by omega
theorem ar_pc (n : Nat) : ((2 ^ n : Nat) : Int) = 2 ^ n := by rw [Int.natCast_pow]; rfl
theorem ar_nat_inj {a b : Int32} (h : a.toBitVec.toNat = b.toBitVec.toNat) : a = b := Int32.toBitVec_inj.mp (BitVec.eq_of_toNat_eq h)
theorem al_nat_inj {a b : Int64} (h : a.toBitVec.toNat = b.toBitVec.toNat) : a = b := Int64.toBitVec_inj.mp (BitVec.eq_of_toNat_eq h)
theorem ar_mm (x P M : Int) : (x % M) * P % M = x * P % M := by
  rw [Int.mul_emod, Int.emod_emod, ← Int.mul_emod]
theorem ar_shl (x y : Int) : Int32.ofInt x <<< (Int32.ofInt y &&& 31) = Int32.ofInt (b_sl x y) := by
  rw [ar_31]
  apply ar_nat_inj
  rw [pk_shl (Int32.ofInt x) _ _ (ar_sc _ (ar_lt y))]
  unfold b_sl
  rw [ar_w, ar_tn, ar_tn]
  have h := ar_mm x (2 ^ (y % 32).toNat) 4294967296
  rw [← ar_pc] at h ⊢
  generalize (2 ^ (y % 32).toNat : Nat) = P at h ⊢
  rw [← h]
  have h0 : 0 ≤ x % 4294967296 := Int.emod_nonneg _ (by decide)
  generalize x % 4294967296 = z at h0 ⊢
  obtain ⟨n, rfl⟩ := Int.eq_ofNat_of_zero_le h0
  rw [← Int.natCast_mul]
  simp only [Int.toNat_natCast]
  generalize n * P = w
  omega
theorem ar_shr {x : Int} (y : Int) (hx : in32 x) : Int32.ofInt x >>> (Int32.ofInt y &&& 31) = Int32.ofInt (b_sr x y) := by
  rw [ar_31]
  apply ar_eq
  rw [pk_shr (Int32.ofInt x) _ _ (ar_sc _ (ar_lt y)), ar_to hx, ar_to (b_sr_in y hx)]
  unfold b_sr
  rw [Int.shiftRight_eq_div_pow, ar_pc]
theorem ar_ush (x y : Int) : ((Int32.ofInt x).toUInt32 >>> ((Int32.ofInt y).toUInt32 &&& Int32.toUInt32 31)).toInt32 = Int32.ofInt (b_us x y) := by
  apply ar_nat_inj
  have hs : (((Int32.ofInt y).toUInt32 &&& Int32.toUInt32 31).toBitVec % 32).toNat = (y % 32).toNat := by
    show ((BitVec.ofInt 32 y &&& 31#32) % 32#32).toNat = _
    rw [BitVec.toNat_umod, BitVec.toNat_and, BitVec.toNat_ofInt]
    show ((y % 4294967296).toNat &&& 31) % 32 = _
    rw [ar_31n]
    omega
  rw [pk_ushr (Int32.ofInt x) _ _ hs]
  unfold b_us
  rw [ar_w, ar_tn, ar_tn]
  rw [← ar_pc]
  have h0 : 0 ≤ x % 4294967296 := Int.emod_nonneg _ (by decide)
  have h1 : x % 4294967296 < 4294967296 := Int.emod_lt_of_pos _ (by decide)
  generalize x % 4294967296 = z at h0 h1 ⊢
  obtain ⟨n, rfl⟩ := Int.eq_ofNat_of_zero_le h0
  generalize (2 ^ (y % 32).toNat : Nat) = P
  have h2 : n / P ≤ n := Nat.div_le_self _ _
  rw [← Int.natCast_ediv]
  simp only [Int.toNat_natCast]
  generalize n / P = w at h2 ⊢
  omega
theorem al_64 (y : Int) : (Int32.ofInt y).toInt64 = Int64.ofInt (w32 y) := by
  apply al_eq
  rw [Int32.toInt_toInt64, ar_ti, al_to]
  have := w32_in y
  omega
theorem al_sm : ∀ k, k < 64 → (BitVec.ofNat 64 k).smod 64 = BitVec.ofNat 64 k := by decide +kernel
theorem al_63 (y : Int) : (Int32.ofInt y).toInt64 &&& 63 = lN (y % 64).toNat := by
  apply al_nat_inj
  rw [al_64, Int64.toBitVec_and, BitVec.toNat_and, al_tn]
  show (w32 y % 18446744073709551616).toNat &&& 63 = (BitVec.ofNat 64 (y % 64).toNat).toNat
  rw [ar_63, BitVec.toNat_ofNat]
  unfold w32
  omega
theorem al_shl (x y : Int) : Int64.ofInt x <<< ((Int32.ofInt y).toInt64 &&& 63) = Int64.ofInt (d_sl x y) := by
  rw [al_63]
  apply al_nat_inj
  rw [Int64.toBitVec_shiftLeft]
  show (BitVec.ofInt 64 x <<< (BitVec.ofNat 64 (y % 64).toNat).smod 64).toNat = _
  rw [al_sm _ (al_lt y), BitVec.shiftLeft_eq', BitVec.toNat_shiftLeft, BitVec.toNat_ofInt, BitVec.toNat_ofNat, Nat.mod_eq_of_lt (show (y % 64).toNat < 2 ^ 64 by have := al_lt y; omega), Nat.shiftLeft_eq]
  unfold d_sl
  rw [al_w, al_tn]
  have h := ar_mm x (2 ^ (y % 64).toNat) 18446744073709551616
  rw [← ar_pc] at h ⊢
  generalize (2 ^ (y % 64).toNat : Nat) = P at h ⊢
  rw [← h]
  have h0 : 0 ≤ x % 18446744073709551616 := Int.emod_nonneg _ (by decide)
  show (x % 18446744073709551616).toNat * P % 18446744073709551616 = _
  generalize x % 18446744073709551616 = z at h0 ⊢
  obtain ⟨n, rfl⟩ := Int.eq_ofNat_of_zero_le h0
  rw [← Int.natCast_mul]
  simp only [Int.toNat_natCast]
  generalize n * P = w
  omega
theorem al_ush (x y : Int) : ((Int64.ofInt x).toUInt64 >>> ((Int32.ofInt y).toInt64.toUInt64 &&& Int64.toUInt64 63)).toInt64 = Int64.ofInt (d_us x y) := by
  apply al_nat_inj
  have hs : ((Int32.ofInt y).toInt64.toUInt64 &&& Int64.toUInt64 63) = UInt64.ofNat (y % 64).toNat := by
    have := congrArg Int64.toUInt64 (al_63 y)
    exact this
  rw [hs]
  show ((Int64.ofInt x).toUInt64 >>> UInt64.ofNat (y % 64).toNat).toNat = _
  have h1 : (UInt64.ofNat (y % 64).toNat).toNat = (y % 64).toNat := by
    show (BitVec.ofNat 64 _).toNat = _
    rw [BitVec.toNat_ofNat, Nat.mod_eq_of_lt (show (y % 64).toNat < 2 ^ 64 by have := al_lt y; omega)]
  have h2 : (Int64.ofInt x).toUInt64.toNat = (x % 18446744073709551616).toNat := al_tn x
  rw [UInt64.toNat_shiftRight, h1, h2, Nat.mod_eq_of_lt (al_lt y), Nat.shiftRight_eq_div_pow]
  unfold d_us
  rw [al_w, al_tn, ← ar_pc]
  have h0 : 0 ≤ x % 18446744073709551616 := Int.emod_nonneg _ (by decide)
  have h1 : x % 18446744073709551616 < 18446744073709551616 := Int.emod_lt_of_pos _ (by decide)
  generalize x % 18446744073709551616 = z at h0 h1 ⊢
  obtain ⟨n, rfl⟩ := Int.eq_ofNat_of_zero_le h0
  generalize (2 ^ (y % 64).toNat : Nat) = P
  have h2 : n / P ≤ n := Nat.div_le_self _ _
  rw [← Int.natCast_ediv]
  simp only [Int.toNat_natCast]
  generalize n / P = w at h2 ⊢
  omega
theorem ar_8 (x : Int) : (Int32.ofInt x).toInt8.toInt32 = Int32.ofInt (w8 x) := by
  apply ar_eq
  rw [Int8.toInt_toInt32, Int32.toInt_toInt8, ar_ti, ar_to (w8_in x)]
  show Int.bmod _ 256 = _
  unfold Int.bmod w8 w32
  dsimp only
  split <;> omega
theorem ar_16 (x : Int) : (Int32.ofInt x).toInt16.toInt32 = Int32.ofInt (w16 x) := by
  apply ar_eq
  rw [Int16.toInt_toInt32, Int32.toInt_toInt16, ar_ti, ar_to (w16_in x)]
  show Int.bmod _ 65536 = _
  unfold Int.bmod w16 w32
  dsimp only
  split <;> omega
theorem al_l2i (x : Int) : (Int64.ofInt x).toInt32 = Int32.ofInt (w32 x) := by
  apply ar_eq
  rw [Int64.toInt_toInt32, al_ti, ar_to (w32_in x)]
  refine (ar_bm _).trans ?_
  unfold w64 w32
  omega
theorem al_i2l {x : Int} (h : in32 x) : (Int32.ofInt x).toInt64 = Int64.ofInt x := by rw [al_64, w32_id h]
theorem al_cmp {x y : Int} (hx : in64 x) (hy : in64 y) : lg_cmp (Int64.ofInt x) (Int64.ofInt y) = Int32.ofInt (d_cmp x y) := by
  unfold lg_cmp d_cmp
  simp only [gt_iff_lt, Int64.lt_iff_toInt_lt, ← Int64.toInt_inj, al_to hx, al_to hy]
  repeat' split
  all_goals first | rfl | omega
end
end
section
section
def cvA (ac : List (Nat × ClassId)) (al : List (Nat × Nat)) (q : Nat × Nat) : Nat := (ac.getD (al.idxOf q) (0, 0)).1
def cv (sa : Nat → Nat) (ac : List (Nat × ClassId)) (al : List (Nat × Nat)) (v : ab_V) : Value := match v with
  | .inl x => .int (Int32.ofInt x)
  | .inr (.inl x) => .long (Int64.ofInt x)
  | .inr (.inr (.inl q)) => .ref (cvA ac al q)
  | .inr (.inr (.inr (.inl j))) => .ref (sa j)
  | .inr (.inr (.inr (.inr _))) => .null
/-- a value that can be: numbers in their bounds, places that were made -/
def okv (al : List (Nat × Nat)) (v : ab_V) : Prop := match v with
  | .inl x => in32 x
  | .inr (.inl x) => in64 x
  | .inr (.inr (.inl q)) => q ∈ al
  | .inr (.inr (.inr (.inl _))) => True
  | .inr (.inr (.inr (.inr _))) => False
def ab_el (t : Nat) : Nat := (ab_els.lookup t).getD 0
def fty (t : Nat) : FieldType := match (ab_tg t).1 with
  | 1 => .int
  | 2 => .byte
  | 3 => .boolean
  | 4 => .long
  | _ => .object (ab_cls (ab_el t)).1
/-- what a field holds -/
def fvl (ac : List (Nat × ClassId)) (h : ab_H) (q : Nat × Nat) (k : Nat) : Value := match ab_fk q.1 k with
  | 2 => .long (Int64.ofInt (h.2.2 q.1 q.2 k))
  | 3 => va_rf ((h.2.1 q.1 q.2 k).map (cvA ac h.1))
  | _ => .int (Int32.ofInt (h.2.2 q.1 q.2 k))
def en (ac : List (Nat × ClassId)) (h : ab_H) (cA : ClassId) (q : Nat × Nat) : va_E := match (ab_tg q.1).1 with
  | 0 => .inr (q.1, (List.range (ab_nf q.1)).map (fvl ac h q))
  | 4 => .inl (cA, (ab_tg q.1).2, .inr (.inl (fun j => Int64.ofInt (h.2.2 q.1 q.2 j))))
  | 5 => .inl (cA, (ab_tg q.1).2, .inr (.inr (.inr (.inr (fun j => (h.2.1 q.1 q.2 j).map (cvA ac h.1))))))
  | _ => .inl (cA, (ab_tg q.1).2, .inl (fun j => Int32.ofInt (h.2.2 q.1 q.2 j)))
def wsl (ac : List (Nat × ClassId)) (h : ab_H) : va_W := (List.zip ac h.1).map (fun z => (z.1.1, en ac h z.1.2 z.2))
theorem wsl_get {ac : List (Nat × ClassId)} {h : ab_H} {k : Nat} {q : Nat × Nat} {a : Nat} {cA : ClassId} (h1 : h.1[k]? = some q) (h2 : ac[k]? = some (a, cA)) : (wsl ac h)[k]? = some (a, en ac h cA q) := by
  unfold wsl
  rw [List.getElem?_map, (List.getElem?_zip_eq_some (z := ((a, cA), q))).mpr ⟨h2, h1⟩]
  rfl
theorem wsl_inv {ac : List (Nat × ClassId)} {h : ab_H} {k : Nat} {x : Nat × va_E} (h1 : (wsl ac h)[k]? = some x) : ∃ q a cA, h.1[k]? = some q ∧ ac[k]? = some (a, cA) ∧ x = (a, en ac h cA q) := by
  unfold wsl at h1
  rw [List.getElem?_map] at h1
  cases hz : (List.zip ac h.1)[k]? with
  | none => rw [hz] at h1; cases h1
  | some z =>
    rw [hz] at h1
    obtain ⟨h2, h3⟩ := List.getElem?_zip_eq_some.mp hz
    cases h1
    exact ⟨z.2, z.1.1, z.1.2, h3, h2, rfl⟩
theorem wsl_len {ac : List (Nat × ClassId)} {h : ab_H} (hl : ac.length = h.1.length) : (wsl ac h).length = h.1.length := by
  unfold wsl
  rw [List.length_map, List.length_zip, hl, Nat.min_self]
theorem nd_inj {α : Type} {l : List α} (hn : l.Nodup) {i j : Nat} {q : α} (h1 : l[i]? = some q) (h2 : l[j]? = some q) : i = j := by
  obtain ⟨g1, g2⟩ := List.getElem?_eq_some_iff.mp h1
  obtain ⟨g3, g4⟩ := List.getElem?_eq_some_iff.mp h2
  have hp := List.pairwise_iff_getElem.mp (List.nodup_iff_pairwise_ne.mp hn)
  rcases Nat.lt_trichotomy i j with h | h | h
  · exact absurd (g2.trans g4.symm) (hp i j g1 g3 h)
  · exact h
  · exact absurd (g4.trans g2.symm) (hp j i g3 g1 h)
theorem wsl_set {ac : List (Nat × ClassId)} {h h' : ab_H} {k : Nat} {q : Nat × Nat} {a : Nat} {cA : ClassId} (hl : ac.length = h.1.length) (hn : h.1.Nodup) (ha : h'.1 = h.1) (h1 : h.1[k]? = some q) (h2 : ac[k]? = some (a, cA)) (hd : ∀ (q' : Nat × Nat) (c : ClassId), q' ≠ q → en ac h' c q' = en ac h c q') : (wsl ac h).set k (a, en ac h' cA q) = wsl ac h' := by
  have hk : k < (wsl ac h).length := by rw [wsl_len hl]; exact (List.getElem?_eq_some_iff.mp h1).1
  apply List.ext_getElem?
  intro j
  by_cases hj : j = k
  · subst hj
    rw [List.getElem?_set_self hk, wsl_get (h := h') (by rw [ha]; exact h1) h2]
  · rw [List.getElem?_set_ne (Ne.symm hj)]
    cases hq : h.1[j]? with
    | none =>
      have e1 : h.1.length ≤ j := List.getElem?_eq_none_iff.mp hq
      rw [List.getElem?_eq_none_iff.mpr (by rw [wsl_len hl]; exact e1), List.getElem?_eq_none_iff.mpr (by rw [wsl_len (by rw [ha]; exact hl), ha]; exact e1)]
    | some q' =>
      have e1 : j < ac.length := by rw [hl]; exact (List.getElem?_eq_some_iff.mp hq).1
      have e2 : ac[j]? = some (ac[j].1, ac[j].2) := List.getElem?_eq_getElem e1
      rw [wsl_get hq e2, wsl_get (h := h') (by rw [ha]; exact hq) e2, hd q' _ ?_]
      intro e
      subst e
      exact hj (nd_inj hn hq h1)
/-- kinds of slots: 0 an int, 1 a boolean, 2 a long, 3 a place, 4 a byte -/
def kk (t k : Nat) : Nat := match (ab_tg t).1 with
  | 0 => ab_fk t k
  | 1 => 0
  | 2 => 4
  | 3 => 1
  | 4 => 2
  | _ => 3
def rgk (k : Nat) (x : Int) : Prop := match k with
  | 0 => in32 x
  | 1 => x = 0 ∨ x = 1
  | 2 => in64 x
  | 4 => -128 ≤ x ∧ x < 128
  | _ => True
def RG (h : ab_H) : Prop := ∀ q ∈ h.1, ∀ k, rgk (kk q.1 k) (h.2.2 q.1 q.2 k)
def RF (h : ab_H) : Prop := ∀ q ∈ h.1, ∀ (k : Nat) (q' : Nat × Nat), h.2.1 q.1 q.2 k = some q' → q' ∈ h.1
def AT (ac : List (Nat × ClassId)) (al : List (Nat × Nat)) (U : State) : Prop := ∀ (k : Nat) (q : Nat × Nat) (a : Nat) (cA : ClassId), al[k]? = some q → ac[k]? = some (a, cA) → (ab_tg q.1).1 ≠ 0 → ArrOfT U cA (fty q.1) ∧ va_RA U cA (fty q.1)
def WD (G : va_G) (ac : List (Nat × ClassId)) (h : ab_H) (A : Nat → Prop) (U : State) (H : Heap) : Prop :=
  ac.length = h.1.length ∧ h.1.Nodup ∧ va_P G classes (wsl ac h) H ∧ va_D A (wsl ac h) ∧ va_K G classes [] U ∧ AT ac h.1 U ∧ RG h ∧ RF h
theorem WD.moved {G : va_G} {ac : List (Nat × ClassId)} {h : ab_H} {A : Nat → Prop} {u U : State} {H : Heap} (hvm : u.vm.Alike U.vm) (w : WD G ac h A u H) : WD G ac h A U H := by
  obtain ⟨w1, w2, w3, w4, w5, w6, w7, w8⟩ := w
  exact ⟨w1, w2, w3, w4, w5.moved hvm, fun k q a cA e1 e2 e3 => ⟨arrOfT_moved hvm (w6 k q a cA e1 e2 e3).1, (w6 k q a cA e1 e2 e3).2.moved hvm⟩, w7, w8⟩
/-- the place of what was made -/
theorem al_pos {al : List (Nat × Nat)} {ac : List (Nat × ClassId)} {q : Nat × Nat} (hl : ac.length = al.length) (hq : q ∈ al) : ∃ cA, al[al.idxOf q]? = some q ∧ ac[al.idxOf q]? = some (cvA ac al q, cA) := by
  have h1 : al.idxOf q < al.length := List.idxOf_lt_length_of_mem hq
  refine ⟨(ac[al.idxOf q]'(by omega)).2, ?_, ?_⟩
  · rw [List.getElem?_eq_getElem h1, List.getElem_idxOf h1]
  · have h2 : al.idxOf q < ac.length := by omega
    unfold cvA
    rw [List.getElem?_eq_getElem h2, List.getD_eq_getElem?_getD, List.getElem?_eq_getElem h2]
    rfl
def LH (ls : Array Slot) (nL : Nat) (f : ab_V → Value) (L : List ab_V) : Prop := L.length = nL ∧ ls.size = nL ∧ lv_wf ls ∧ ∀ (i : Nat) (v : ab_V), L[i]? = some v → v ≠ vU → ls[i]? = some (.val (f v))
def lvo (f : ab_V → Value) (L : List ab_V) : List (Nat × Value) := L.zipIdx.filterMap (fun z => if z.1 = vU then none else some (z.2, f z.1))
theorem lvo_mem {f : ab_V → Value} {L : List ab_V} {i : Nat} {w : Value} : (i, w) ∈ lvo f L ↔ ∃ v, L[i]? = some v ∧ v ≠ vU ∧ w = f v := by
  unfold lvo
  rw [List.mem_filterMap]
  constructor
  · rintro ⟨⟨v, j⟩, h1, h2⟩
    rw [List.mem_zipIdx_iff_getElem?] at h1
    split at h2
    · cases h2
    · rename_i hv
      cases h2
      exact ⟨v, h1, hv, rfl⟩
  · rintro ⟨v, h1, h2, rfl⟩
    exact ⟨(v, i), List.mem_zipIdx_iff_getElem?.mpr h1, by rw [if_neg h2]⟩
theorem LH.has {ls : Array Slot} {nL : Nat} {f : ab_V → Value} {L : List ab_V} (h : LH ls nL f L) : lv_has ls nL (lvo f L) := by
  obtain ⟨h1, h2, h3, h4⟩ := h
  refine ⟨h2, h3, fun q hq => ?_⟩
  obtain ⟨v, e1, e2, e3⟩ := lvo_mem.mp (show (q.1, q.2) ∈ lvo f L from hq)
  rw [e3]
  exact h4 _ _ e1 e2
theorem LH.of {ls : Array Slot} {nL : Nat} {f : ab_V → Value} {L : List ab_V} {lv : List (Nat × Value)} (hl : L.length = nL) (h : lv_has ls nL lv) (hs : ∀ (i : Nat) (v : ab_V), L[i]? = some v → v ≠ vU → (i, f v) ∈ lv) : LH ls nL f L :=
  ⟨hl, h.1, h.2.1, fun i v e1 e2 => h.2.2 (i, f v) (hs i v e1 e2)⟩
end
end
section
section
def lw_good : List Cond := lw_tbl.filter goodWord
def st_len : List Nat := ab_txs.map List.length
def st_byt : List (List Int32) := ab_txs.map (fun l => l.map (fun n => Int32.ofNat n))
/-- what lies outside the world: the script, the texts, words that the kit's lists don't carry -/
def ST (sa : Nat → Nat) (A : Nat → Prop) (X : Nat × (Nat → Int)) (U : State) : Prop :=
  (va_X (sa 1000) X.1 (fun j => Int32.ofInt (X.2 j)) U U.heap ∧ sa 1000 < U.heap.size ∧ ¬ A (sa 1000) ∧ (∀ j, in32 (X.2 j)) ∧ X.1 < 2147483648) ∧
  (∀ own i y hst, Cond.methodLinkNest own i y hst ∈ lw_tbl → va_Nw (.methodLinkNest own i y hst) U) ∧
  (∀ C, Cond.arrayOver (.object C) ∈ lw_tbl → va_AO C U) ∧
  (∃ adV, vk_S 7 st_len st_byt sa adV A U U.heap) ∧
  (∀ j, j < 7 → ∃ tx, vk_R (ab_so j).1 (ab_so j).2 tx (sa j) U) ∧
  va_Z "java/lang/String" "COMPACT_STRINGS" "Z" (.int 1) A U U.heap
theorem ST.go {sa : Nat → Nat} {A : Nat → Prop} {X : Nat × (Nat → Int)} {s U : State} {H : Heap} {locs : List Loc} (h : ST sa A X s) (hW : s.WarmedH U.vm) (hS : va_S A s.heap H locs) (hU : U.heap = H) : ST sa A X U := by
  obtain ⟨⟨a1, a2, a3, a4, a5⟩, b, c, ⟨adV, d⟩, e, f⟩ := h
  have hq : ∀ a : Nat, a < s.heap.size → ¬ A a → U.heap[a]? = s.heap[a]? := by rw [hU]; exact hS.2.1
  refine ⟨⟨(a1.kept (hq _ a2 a3)).moved hW.alike, Nat.lt_of_lt_of_le a2 (by rw [hU]; exact hS.1), a3, a4, a5⟩, fun own i y hst hm => (b own i y hst hm).warmM hW, fun C hm => (c C hm).moved hW.alike, ⟨adV, (d.kept hq).moved hW.alike⟩, fun j hj => ?_, (f.kept hq).moved hW.alike⟩
  obtain ⟨tx, ht⟩ := e j hj
  exact ⟨tx, ht.warm hW⟩
theorem ST.calling {sa : Nat → Nat} {A : Nat → Prop} {X : Nat × (Nat → Int)} {U : State} {g : JFrame} {mk : MethodId} {a : Array Value} (h : ST sa A X U) : ST sa A X (U.calling g mk a) := by
  obtain ⟨⟨a1, a2, a3, a4, a5⟩, b, c, ⟨adV, d⟩, e, f⟩ := h
  have hv : U.vm.Alike (U.calling g mk a).vm := Vm.Alike.refl U.vm
  refine ⟨⟨a1.moved hv, a2, a3, a4, a5⟩, fun own i y hst hm => (b own i y hst hm).same rfl rfl, fun C hm => (c C hm).moved hv, ⟨adV, d.moved hv⟩, fun j hj => ?_, f.moved hv⟩
  obtain ⟨tx, ht⟩ := e j hj
  exact ⟨tx, ht.same rfl⟩
/-- a point of a run: the world, what is outside, the locals, the stack -/
def INV (s : State) (G : va_G) (sa : Nat → Nat) (A : Nat → Prop) (nL : Nat) (ac : List (Nat × ClassId)) (h : ab_H) (L S : List ab_V) (H : Heap) (locs : List Loc) (ls : Array Slot) : Prop :=
  WD G ac h A s H ∧ va_S A s.heap H locs ∧ LH ls nL (cv sa ac h.1) L ∧ (∀ v ∈ L, v = vU ∨ okv h.1 v) ∧ ∀ v ∈ S, okv h.1 v
theorem i1_some {α : Type} {S : List ab_V} {f : Int → List ab_V → Option α} {r : α} (h : ab_i1 S f = some r) : ∃ x S', S = vI x :: S' ∧ f x S' = some r := by
  unfold ab_i1 at h
  split at h
  · exact ⟨_, _, rfl, h⟩
  · cases h
theorem l1_some {α : Type} {S : List ab_V} {f : Int → List ab_V → Option α} {r : α} (h : ab_l1 S f = some r) : ∃ x S', S = vL x :: S' ∧ f x S' = some r := by
  unfold ab_l1 at h
  split at h
  · exact ⟨_, _, rfl, h⟩
  · cases h
theorem r1_some {α : Type} {S : List ab_V} {f : Nat → Nat → List ab_V → Option α} {r : α} (h : ab_r1 S f = some r) : ∃ t i S', S = vR t i :: S' ∧ f t i S' = some r := by
  unfold ab_r1 at h
  split at h
  · rename_i q S'
    exact ⟨q.1, q.2, S', rfl, h⟩
  · cases h
theorem s1_some {α : Type} {S : List ab_V} {f : Nat → List ab_V → Option α} {r : α} (h : ab_s1 S f = some r) : ∃ j S', S = vS j :: S' ∧ f j S' = some r := by
  unfold ab_s1 at h
  split at h
  · exact ⟨_, _, rfl, h⟩
  · cases h
theorem c1_some {α : Type} {S : List ab_V} {f : ab_V → List ab_V → Option α} {r : α} (h : ab_c1 S f = some r) : ∃ v S', S = v :: S' ∧ f v S' = some r ∧ ((∃ x, v = vI x) ∨ ∃ t i, v = vR t i) := by
  unfold ab_c1 at h
  split at h
  · exact ⟨_, _, rfl, h, Or.inl ⟨_, rfl⟩⟩
  · rename_i q S'
    exact ⟨_, _, rfl, h, Or.inr ⟨q.1, q.2, rfl⟩⟩
  · cases h
theorem lo_some {α : Type} {L : List ab_V} {i : Nat} {f : ab_V → Option α} {r : α} (h : ab_lo L i f = some r) : ∃ v, L[i]? = some v ∧ f v = some r := by
  unfold ab_lo at h
  split at h
  · rename_i v hv
    exact ⟨v, hv, h⟩
  · cases h
theorem ite_some {α : Type} {c : Prop} [Decidable c] {a : Option α} {r : α} (h : (if c then a else none) = some r) : c ∧ a = some r := by
  split at h
  · rename_i hc
    exact ⟨hc, h⟩
  · cases h
theorem eti_some {α : Type} {c : Prop} [Decidable c] {a : Option α} {r : α} (h : (if c then none else a) = some r) : ¬ c ∧ a = some r := by
  split at h
  · cases h
  · rename_i hc
    exact ⟨hc, h⟩
theorem beq_some {α : Type} {b : Bool} {a : Option α} {r : α} (h : (match b with | true => a | false => none) = some r) : b = true ∧ a = some r := by
  cases b
  · cases h
  · exact ⟨rfl, h⟩
theorem cv_cat {sa : Nat → Nat} {ac : List (Nat × ClassId)} {al : List (Nat × Nat)} {v : ab_V} (h : (∃ x, v = vI x) ∨ ∃ t i, v = vR t i) : (cv sa ac al v).category = 1 := by
  rcases h with ⟨x, rfl⟩ | ⟨t, i, rfl⟩ <;> rfl
/-- a store of category 1 -/
theorem LH.st {ls : Array Slot} {nL : Nat} {f : ab_V → Value} {L : List ab_V} (h : LH ls nL f L) {i : Nat} {v : ab_V} (hi : i < nL) (hf : ∀ w, (f w).category = 2 → ∃ x, w = vL x) {ls' : Array Slot} (hs : lv_has ls' nL ((i, f v) :: (lvo f L).filter (fun q => !(q.1 == i) && !(q.1 + 1 == i && q.2.category == 2)))) : LH ls' nL f (ab_st L i v) := by
  have hL := h.1
  have key : ∀ (M : List ab_V), M.length = nL → (∀ j w, M[j]? = some w → w ≠ vU → (j = i ∧ w = v) ∨ (j ≠ i ∧ L[j]? = some w ∧ (j + 1 = i → ∀ x, w ≠ vL x))) → LH ls' nL f M := by
    intro M hM hk
    refine LH.of hM hs fun j w e1 e2 => ?_
    rcases hk j w e1 e2 with ⟨rfl, rfl⟩ | ⟨g1, g2, g3⟩
    · exact List.mem_cons_self
    · refine List.mem_cons_of_mem _ (List.mem_filter.mpr ⟨lvo_mem.mpr ⟨w, g2, e2, rfl⟩, ?_⟩)
      have g4 : (j == i) = false := by simpa using g1
      show (!(j == i) && !(j + 1 == i && (f w).category == 2)) = true
      rw [g4]
      by_cases g5 : j + 1 = i
      · have g6 : ¬ (f w).category = 2 := fun e => by
          obtain ⟨x, hx⟩ := hf w e
          exact g3 g5 x hx
        simp [g6]
      · simp [g5]
  unfold ab_st
  split
  · refine key _ (by rw [List.length_set]; exact hL) fun j w e1 e2 => ?_
    by_cases hj : j = 0
    · subst hj
      rw [List.getElem?_set_self (by omega)] at e1
      cases e1
      exact Or.inl ⟨rfl, rfl⟩
    · rw [List.getElem?_set_ne (Ne.symm hj)] at e1
      exact Or.inr ⟨hj, e1, fun e => absurd e (by omega)⟩
  · rename_i k
    split
    · rename_i y hy
      refine key _ (by rw [List.length_set, List.length_set]; exact hL) fun j w e1 e2 => ?_
      by_cases hj : j = k + 1
      · subst hj
        rw [List.getElem?_set_self (by rw [List.length_set]; omega)] at e1
        cases e1
        exact Or.inl ⟨rfl, rfl⟩
      · rw [List.getElem?_set_ne (Ne.symm hj)] at e1
        by_cases hj2 : j = k
        · subst hj2
          rw [List.getElem?_set_self (by omega)] at e1
          cases e1
          exact absurd rfl e2
        · rw [List.getElem?_set_ne (Ne.symm hj2)] at e1
          exact Or.inr ⟨hj, e1, fun e => absurd e (by omega)⟩
    · rename_i hy
      refine key _ (by rw [List.length_set]; exact hL) fun j w e1 e2 => ?_
      by_cases hj : j = k + 1
      · subst hj
        rw [List.getElem?_set_self (by omega)] at e1
        cases e1
        exact Or.inl ⟨rfl, rfl⟩
      · rw [List.getElem?_set_ne (Ne.symm hj)] at e1
        refine Or.inr ⟨hj, e1, fun e x hx => ?_⟩
        have : j = k := by omega
        subst this
        subst hx
        exact hy x e1
end
end
section
section
variable {p : Program} {l : Launch} {e : Env} {R : Room} {s : State} {m : MethodId} {args : Array Value} {below : List Frame} {meth : Method} {c : Code} {Q : State → Prop} {H : Heap} {locs : List Loc} {ls : Array Slot}
variable {cc : ByteArray} {own : String} {nL : Nat} {G : va_G} {sa : Nat → Nat} {A : Nat → Prop} {X : Nat × (Nat → Int)} {ce sl : List (Nat × Nat) → Nat} {ac0 ac : List (Nat × ClassId)}
variable {rt : Option FieldType} {init : Bool} {pc nx a b hi hp : Nat} {x : Int} {T : ab_T} {Y : ab_X} {cal : ab_C} {L S : List ab_V} {h : ab_H} {k : ab_K} {r : ab_R}

/-- a point of a run, and that what was made lies behind what was there -/
def IV (s : State) (G : va_G) (sa : Nat → Nat) (A : Nat → Prop) (nL : Nat) (ac0 ac : List (Nat × ClassId)) (h : ab_H) (L S : List ab_V) (H : Heap) (locs : List Loc) (ls : Array Slot) : Prop := ac0 <+: ac ∧ INV s G sa A nL ac h L S H locs ls
/-- what comes behind: from every point that it goes on from with this end, the machine comes to Q -/
def KK (p : Program) (l : Launch) (e : Env) (R : Room) (s : State) (m : MethodId) (args : Array Value) (below : List Frame) (meth : Method) (c : Code) (Q : State → Prop) (G : va_G) (sa : Nat → Nat) (A : Nat → Prop) (nL : Nat) (ce sl : List (Nat × Nat) → Nat) (ac0 : List (Nat × ClassId)) (k : ab_K) (r : ab_R) : Prop :=
  ∀ (pc : Nat) (L S : List ab_V) (h : ab_H) (ac : List (Nat × ClassId)) (H : Heap) (locs : List Loc) (ls : Array Slot), k pc L S h = some r → IV s G sa A nL ac0 ac h L S H locs ls → W p l e R s m args below meth c H locs (ce h.1) (sl h.1) Q (F0 m pc ls (S.map (cv sa ac h.1)))
theorem IV.st {S' : List ab_V} (hI : IV s G sa A nL ac0 ac h L S H locs ls) (hS : ∀ v ∈ S', okv h.1 v) : IV s G sa A nL ac0 ac h L S' H locs ls := ⟨hI.1, hI.2.1, hI.2.2.1, hI.2.2.2.1, hI.2.2.2.2.1, hS⟩
theorem IV.ok (hI : IV s G sa A nL ac0 ac h L S H locs ls) : ∀ v ∈ S, okv h.1 v := hI.2.2.2.2.2
theorem cs_ok {al : List (Nat × Nat)} {v : ab_V} {S : List ab_V} (h1 : okv al v) (h2 : ∀ v ∈ S, okv al v) : ∀ w ∈ v :: S, okv al w := fun w hw => by
  rcases List.mem_cons.mp hw with rfl | h
  · exact h1
  · exact h2 w h
theorem cs_hd {al : List (Nat × Nat)} {v : ab_V} {S : List ab_V} (h : ∀ w ∈ v :: S, okv al w) : okv al v := h v List.mem_cons_self
theorem cs_tl {al : List (Nat × Nat)} {v : ab_V} {S : List ab_V} (h : ∀ w ∈ v :: S, okv al w) : ∀ w ∈ S, okv al w := fun w hw => h w (List.mem_cons_of_mem _ hw)
theorem pl_some {i : Instr} (h : ab_pl cc pc nx i = true) : decode cc pc = .ok (i, 1) ∧ nx = pc + 1 := of_decide_eq_true h
theorem in_ok {al : List (Nat × Nat)} {y : Int} (h : okv al (vI y)) : in32 y := h
theorem in_okL {al : List (Nat × Nat)} {y : Int} (h : okv al (vL y)) : in64 y := h

theorem sp_iadd  (hx : p.tables.exec = Jvm.exec) (hb : c.code = cc) (hown : s.vm.findClass own = some m.cls) (hw : ∀ w ∈ lw_good, w.before args s = true) (hc : ab_chk own cc rt init pc (.iadd, nx, a, b, x) hi hp = true) (hs : ab_stp T Y cal (.iadd, nx, a, b, x) L S h k = some r) (hI : IV s G sa A nL ac0 ac h L S H locs ls) (hk : KK p l e R s m args below meth c Q G sa A nL ce sl ac0 k r) : W p l e R s m args below meth c H locs (ce h.1) (sl h.1) Q (F0 m pc ls (S.map (cv sa ac h.1))) := by
  dsimp only [ab_stp] at hs
  dsimp only [ab_chk] at hc
  obtain ⟨y, S1, e9, h9⟩ := i1_some hs
  clear hs
  subst e9
  have hs := h9
  clear h9
  obtain ⟨z, S2, e9, h9⟩ := i1_some hs
  clear hs
  subst e9
  have hs := h9
  clear h9
  obtain ⟨hd, rfl⟩ := pl_some hc
  have hy : in32 y := in_ok (cs_hd hI.ok)
  have hz : in32 z := in_ok (cs_hd (cs_tl hI.ok))
  refine lv_iadd hx hb hd ?_
  rw [ar_add]
  exact hk _ _ _ _ _ _ _ _ hs (hI.st (cs_ok (show in32 _ from w32_in _) (cs_tl (cs_tl hI.ok))))
theorem sp_isub  (hx : p.tables.exec = Jvm.exec) (hb : c.code = cc) (hown : s.vm.findClass own = some m.cls) (hw : ∀ w ∈ lw_good, w.before args s = true) (hc : ab_chk own cc rt init pc (.isub, nx, a, b, x) hi hp = true) (hs : ab_stp T Y cal (.isub, nx, a, b, x) L S h k = some r) (hI : IV s G sa A nL ac0 ac h L S H locs ls) (hk : KK p l e R s m args below meth c Q G sa A nL ce sl ac0 k r) : W p l e R s m args below meth c H locs (ce h.1) (sl h.1) Q (F0 m pc ls (S.map (cv sa ac h.1))) := by
  dsimp only [ab_stp] at hs
  dsimp only [ab_chk] at hc
  obtain ⟨y, S1, e9, h9⟩ := i1_some hs
  clear hs
  subst e9
  have hs := h9
  clear h9
  obtain ⟨z, S2, e9, h9⟩ := i1_some hs
  clear hs
  subst e9
  have hs := h9
  clear h9
  obtain ⟨hd, rfl⟩ := pl_some hc
  have hy : in32 y := in_ok (cs_hd hI.ok)
  have hz : in32 z := in_ok (cs_hd (cs_tl hI.ok))
  refine lv_isub hx hb hd ?_
  rw [ar_sub]
  exact hk _ _ _ _ _ _ _ _ hs (hI.st (cs_ok (show in32 _ from w32_in _) (cs_tl (cs_tl hI.ok))))
theorem sp_imul  (hx : p.tables.exec = Jvm.exec) (hb : c.code = cc) (hown : s.vm.findClass own = some m.cls) (hw : ∀ w ∈ lw_good, w.before args s = true) (hc : ab_chk own cc rt init pc (.imul, nx, a, b, x) hi hp = true) (hs : ab_stp T Y cal (.imul, nx, a, b, x) L S h k = some r) (hI : IV s G sa A nL ac0 ac h L S H locs ls) (hk : KK p l e R s m args below meth c Q G sa A nL ce sl ac0 k r) : W p l e R s m args below meth c H locs (ce h.1) (sl h.1) Q (F0 m pc ls (S.map (cv sa ac h.1))) := by
  dsimp only [ab_stp] at hs
  dsimp only [ab_chk] at hc
  obtain ⟨y, S1, e9, h9⟩ := i1_some hs
  clear hs
  subst e9
  have hs := h9
  clear h9
  obtain ⟨z, S2, e9, h9⟩ := i1_some hs
  clear hs
  subst e9
  have hs := h9
  clear h9
  obtain ⟨hd, rfl⟩ := pl_some hc
  have hy : in32 y := in_ok (cs_hd hI.ok)
  have hz : in32 z := in_ok (cs_hd (cs_tl hI.ok))
  refine lv_imul hx hb hd ?_
  rw [ar_mul hz hy]
  exact hk _ _ _ _ _ _ _ _ hs (hI.st (cs_ok (show in32 _ from w32_in _) (cs_tl (cs_tl hI.ok))))
theorem sp_iand  (hx : p.tables.exec = Jvm.exec) (hb : c.code = cc) (hown : s.vm.findClass own = some m.cls) (hw : ∀ w ∈ lw_good, w.before args s = true) (hc : ab_chk own cc rt init pc (.iand, nx, a, b, x) hi hp = true) (hs : ab_stp T Y cal (.iand, nx, a, b, x) L S h k = some r) (hI : IV s G sa A nL ac0 ac h L S H locs ls) (hk : KK p l e R s m args below meth c Q G sa A nL ce sl ac0 k r) : W p l e R s m args below meth c H locs (ce h.1) (sl h.1) Q (F0 m pc ls (S.map (cv sa ac h.1))) := by
  dsimp only [ab_stp] at hs
  dsimp only [ab_chk] at hc
  obtain ⟨y, S1, e9, h9⟩ := i1_some hs
  clear hs
  subst e9
  have hs := h9
  clear h9
  obtain ⟨z, S2, e9, h9⟩ := i1_some hs
  clear hs
  subst e9
  have hs := h9
  clear h9
  obtain ⟨hd, rfl⟩ := pl_some hc
  have hy : in32 y := in_ok (cs_hd hI.ok)
  have hz : in32 z := in_ok (cs_hd (cs_tl hI.ok))
  refine lv_iand hx hb hd ?_
  rw [ar_and]
  exact hk _ _ _ _ _ _ _ _ hs (hI.st (cs_ok (show in32 _ from b_an_in _ _) (cs_tl (cs_tl hI.ok))))
theorem sp_ior  (hx : p.tables.exec = Jvm.exec) (hb : c.code = cc) (hown : s.vm.findClass own = some m.cls) (hw : ∀ w ∈ lw_good, w.before args s = true) (hc : ab_chk own cc rt init pc (.ior, nx, a, b, x) hi hp = true) (hs : ab_stp T Y cal (.ior, nx, a, b, x) L S h k = some r) (hI : IV s G sa A nL ac0 ac h L S H locs ls) (hk : KK p l e R s m args below meth c Q G sa A nL ce sl ac0 k r) : W p l e R s m args below meth c H locs (ce h.1) (sl h.1) Q (F0 m pc ls (S.map (cv sa ac h.1))) := by
  dsimp only [ab_stp] at hs
  dsimp only [ab_chk] at hc
  obtain ⟨y, S1, e9, h9⟩ := i1_some hs
  clear hs
  subst e9
  have hs := h9
  clear h9
  obtain ⟨z, S2, e9, h9⟩ := i1_some hs
  clear hs
  subst e9
  have hs := h9
  clear h9
  obtain ⟨hd, rfl⟩ := pl_some hc
  have hy : in32 y := in_ok (cs_hd hI.ok)
  have hz : in32 z := in_ok (cs_hd (cs_tl hI.ok))
  refine lv_ior hx hb hd ?_
  rw [ar_or]
  exact hk _ _ _ _ _ _ _ _ hs (hI.st (cs_ok (show in32 _ from b_orr_in _ _) (cs_tl (cs_tl hI.ok))))
theorem sp_ixor  (hx : p.tables.exec = Jvm.exec) (hb : c.code = cc) (hown : s.vm.findClass own = some m.cls) (hw : ∀ w ∈ lw_good, w.before args s = true) (hc : ab_chk own cc rt init pc (.ixor, nx, a, b, x) hi hp = true) (hs : ab_stp T Y cal (.ixor, nx, a, b, x) L S h k = some r) (hI : IV s G sa A nL ac0 ac h L S H locs ls) (hk : KK p l e R s m args below meth c Q G sa A nL ce sl ac0 k r) : W p l e R s m args below meth c H locs (ce h.1) (sl h.1) Q (F0 m pc ls (S.map (cv sa ac h.1))) := by
  dsimp only [ab_stp] at hs
  dsimp only [ab_chk] at hc
  obtain ⟨y, S1, e9, h9⟩ := i1_some hs
  clear hs
  subst e9
  have hs := h9
  clear h9
  obtain ⟨z, S2, e9, h9⟩ := i1_some hs
  clear hs
  subst e9
  have hs := h9
  clear h9
  obtain ⟨hd, rfl⟩ := pl_some hc
  have hy : in32 y := in_ok (cs_hd hI.ok)
  have hz : in32 z := in_ok (cs_hd (cs_tl hI.ok))
  refine lv_ixor hx hb hd ?_
  rw [ar_xor]
  exact hk _ _ _ _ _ _ _ _ hs (hI.st (cs_ok (show in32 _ from b_xr_in _ _) (cs_tl (cs_tl hI.ok))))
theorem sp_ishl  (hx : p.tables.exec = Jvm.exec) (hb : c.code = cc) (hown : s.vm.findClass own = some m.cls) (hw : ∀ w ∈ lw_good, w.before args s = true) (hc : ab_chk own cc rt init pc (.ishl, nx, a, b, x) hi hp = true) (hs : ab_stp T Y cal (.ishl, nx, a, b, x) L S h k = some r) (hI : IV s G sa A nL ac0 ac h L S H locs ls) (hk : KK p l e R s m args below meth c Q G sa A nL ce sl ac0 k r) : W p l e R s m args below meth c H locs (ce h.1) (sl h.1) Q (F0 m pc ls (S.map (cv sa ac h.1))) := by
  dsimp only [ab_stp] at hs
  dsimp only [ab_chk] at hc
  obtain ⟨y, S1, e9, h9⟩ := i1_some hs
  clear hs
  subst e9
  have hs := h9
  clear h9
  obtain ⟨z, S2, e9, h9⟩ := i1_some hs
  clear hs
  subst e9
  have hs := h9
  clear h9
  obtain ⟨hd, rfl⟩ := pl_some hc
  have hy : in32 y := in_ok (cs_hd hI.ok)
  have hz : in32 z := in_ok (cs_hd (cs_tl hI.ok))
  refine lv_ishl hx hb hd ?_
  rw [ar_shl]
  exact hk _ _ _ _ _ _ _ _ hs (hI.st (cs_ok (show in32 _ from b_sl_in _ _) (cs_tl (cs_tl hI.ok))))
theorem sp_ishr  (hx : p.tables.exec = Jvm.exec) (hb : c.code = cc) (hown : s.vm.findClass own = some m.cls) (hw : ∀ w ∈ lw_good, w.before args s = true) (hc : ab_chk own cc rt init pc (.ishr, nx, a, b, x) hi hp = true) (hs : ab_stp T Y cal (.ishr, nx, a, b, x) L S h k = some r) (hI : IV s G sa A nL ac0 ac h L S H locs ls) (hk : KK p l e R s m args below meth c Q G sa A nL ce sl ac0 k r) : W p l e R s m args below meth c H locs (ce h.1) (sl h.1) Q (F0 m pc ls (S.map (cv sa ac h.1))) := by
  dsimp only [ab_stp] at hs
  dsimp only [ab_chk] at hc
  obtain ⟨y, S1, e9, h9⟩ := i1_some hs
  clear hs
  subst e9
  have hs := h9
  clear h9
  obtain ⟨z, S2, e9, h9⟩ := i1_some hs
  clear hs
  subst e9
  have hs := h9
  clear h9
  obtain ⟨hd, rfl⟩ := pl_some hc
  have hy : in32 y := in_ok (cs_hd hI.ok)
  have hz : in32 z := in_ok (cs_hd (cs_tl hI.ok))
  refine lv_ishr hx hb hd ?_
  rw [ar_shr _ hz]
  exact hk _ _ _ _ _ _ _ _ hs (hI.st (cs_ok (show in32 _ from b_sr_in _ hz) (cs_tl (cs_tl hI.ok))))
theorem sp_iushr  (hx : p.tables.exec = Jvm.exec) (hb : c.code = cc) (hown : s.vm.findClass own = some m.cls) (hw : ∀ w ∈ lw_good, w.before args s = true) (hc : ab_chk own cc rt init pc (.iushr, nx, a, b, x) hi hp = true) (hs : ab_stp T Y cal (.iushr, nx, a, b, x) L S h k = some r) (hI : IV s G sa A nL ac0 ac h L S H locs ls) (hk : KK p l e R s m args below meth c Q G sa A nL ce sl ac0 k r) : W p l e R s m args below meth c H locs (ce h.1) (sl h.1) Q (F0 m pc ls (S.map (cv sa ac h.1))) := by
  dsimp only [ab_stp] at hs
  dsimp only [ab_chk] at hc
  obtain ⟨y, S1, e9, h9⟩ := i1_some hs
  clear hs
  subst e9
  have hs := h9
  clear h9
  obtain ⟨z, S2, e9, h9⟩ := i1_some hs
  clear hs
  subst e9
  have hs := h9
  clear h9
  obtain ⟨hd, rfl⟩ := pl_some hc
  refine lv_iushr hx hb hd (ar_ush z y) ?_
  exact hk _ _ _ _ _ _ _ _ hs (hI.st (cs_ok (show in32 _ from b_us_in _ _) (cs_tl (cs_tl hI.ok))))
theorem sp_idiv  (hx : p.tables.exec = Jvm.exec) (hb : c.code = cc) (hown : s.vm.findClass own = some m.cls) (hw : ∀ w ∈ lw_good, w.before args s = true) (hc : ab_chk own cc rt init pc (.idiv, nx, a, b, x) hi hp = true) (hs : ab_stp T Y cal (.idiv, nx, a, b, x) L S h k = some r) (hI : IV s G sa A nL ac0 ac h L S H locs ls) (hk : KK p l e R s m args below meth c Q G sa A nL ce sl ac0 k r) : W p l e R s m args below meth c H locs (ce h.1) (sl h.1) Q (F0 m pc ls (S.map (cv sa ac h.1))) := by
  dsimp only [ab_stp] at hs
  dsimp only [ab_chk] at hc
  obtain ⟨y, S1, e9, h9⟩ := i1_some hs
  clear hs
  subst e9
  have hs := h9
  clear h9
  obtain ⟨z, S2, e9, h9⟩ := i1_some hs
  clear hs
  subst e9
  have hs := h9
  clear h9
  obtain ⟨h0, h9⟩ := eti_some hs
  clear hs
  have hs := h9
  clear h9
  obtain ⟨hd, rfl⟩ := pl_some hc
  have hy : in32 y := in_ok (cs_hd hI.ok)
  have hz : in32 z := in_ok (cs_hd (cs_tl hI.ok))
  refine lv_idiv hx hb hd (ar_ne hy h0) ?_
  rw [ar_div hz hy]
  exact hk _ _ _ _ _ _ _ _ hs (hI.st (cs_ok (show in32 _ from w32_in _) (cs_tl (cs_tl hI.ok))))
theorem sp_irem  (hx : p.tables.exec = Jvm.exec) (hb : c.code = cc) (hown : s.vm.findClass own = some m.cls) (hw : ∀ w ∈ lw_good, w.before args s = true) (hc : ab_chk own cc rt init pc (.irem, nx, a, b, x) hi hp = true) (hs : ab_stp T Y cal (.irem, nx, a, b, x) L S h k = some r) (hI : IV s G sa A nL ac0 ac h L S H locs ls) (hk : KK p l e R s m args below meth c Q G sa A nL ce sl ac0 k r) : W p l e R s m args below meth c H locs (ce h.1) (sl h.1) Q (F0 m pc ls (S.map (cv sa ac h.1))) := by
  dsimp only [ab_stp] at hs
  dsimp only [ab_chk] at hc
  obtain ⟨y, S1, e9, h9⟩ := i1_some hs
  clear hs
  subst e9
  have hs := h9
  clear h9
  obtain ⟨z, S2, e9, h9⟩ := i1_some hs
  clear hs
  subst e9
  have hs := h9
  clear h9
  obtain ⟨h0, h9⟩ := eti_some hs
  clear hs
  have hs := h9
  clear h9
  obtain ⟨hd, rfl⟩ := pl_some hc
  have hy : in32 y := in_ok (cs_hd hI.ok)
  have hz : in32 z := in_ok (cs_hd (cs_tl hI.ok))
  refine lv_irem hx hb hd (ar_ne hy h0) ?_
  rw [ar_rem hz hy]
  exact hk _ _ _ _ _ _ _ _ hs (hI.st (cs_ok (show in32 _ from w32_in _) (cs_tl (cs_tl hI.ok))))
theorem sp_ineg  (hx : p.tables.exec = Jvm.exec) (hb : c.code = cc) (hown : s.vm.findClass own = some m.cls) (hw : ∀ w ∈ lw_good, w.before args s = true) (hc : ab_chk own cc rt init pc (.ineg, nx, a, b, x) hi hp = true) (hs : ab_stp T Y cal (.ineg, nx, a, b, x) L S h k = some r) (hI : IV s G sa A nL ac0 ac h L S H locs ls) (hk : KK p l e R s m args below meth c Q G sa A nL ce sl ac0 k r) : W p l e R s m args below meth c H locs (ce h.1) (sl h.1) Q (F0 m pc ls (S.map (cv sa ac h.1))) := by
  dsimp only [ab_stp] at hs
  dsimp only [ab_chk] at hc
  obtain ⟨y, S1, e9, h9⟩ := i1_some hs
  clear hs
  subst e9
  have hs := h9
  clear h9
  obtain ⟨hd, rfl⟩ := pl_some hc
  refine lv_ineg hx hb hd ?_
  rw [ar_neg]
  exact hk _ _ _ _ _ _ _ _ hs (hI.st (cs_ok (show in32 _ from w32_in _) (cs_tl hI.ok)))
theorem sp_lsub  (hx : p.tables.exec = Jvm.exec) (hb : c.code = cc) (hown : s.vm.findClass own = some m.cls) (hw : ∀ w ∈ lw_good, w.before args s = true) (hc : ab_chk own cc rt init pc (.lsub, nx, a, b, x) hi hp = true) (hs : ab_stp T Y cal (.lsub, nx, a, b, x) L S h k = some r) (hI : IV s G sa A nL ac0 ac h L S H locs ls) (hk : KK p l e R s m args below meth c Q G sa A nL ce sl ac0 k r) : W p l e R s m args below meth c H locs (ce h.1) (sl h.1) Q (F0 m pc ls (S.map (cv sa ac h.1))) := by
  dsimp only [ab_stp] at hs
  dsimp only [ab_chk] at hc
  obtain ⟨y, S1, e9, h9⟩ := l1_some hs
  clear hs
  subst e9
  have hs := h9
  clear h9
  obtain ⟨z, S2, e9, h9⟩ := l1_some hs
  clear hs
  subst e9
  have hs := h9
  clear h9
  obtain ⟨hd, rfl⟩ := pl_some hc
  refine lv_lsub hx hb hd ?_
  rw [al_sub]
  exact hk _ _ _ _ _ _ _ _ hs (hI.st (cs_ok (show in64 _ from w64_in _) (cs_tl (cs_tl hI.ok))))
theorem sp_land  (hx : p.tables.exec = Jvm.exec) (hb : c.code = cc) (hown : s.vm.findClass own = some m.cls) (hw : ∀ w ∈ lw_good, w.before args s = true) (hc : ab_chk own cc rt init pc (.land, nx, a, b, x) hi hp = true) (hs : ab_stp T Y cal (.land, nx, a, b, x) L S h k = some r) (hI : IV s G sa A nL ac0 ac h L S H locs ls) (hk : KK p l e R s m args below meth c Q G sa A nL ce sl ac0 k r) : W p l e R s m args below meth c H locs (ce h.1) (sl h.1) Q (F0 m pc ls (S.map (cv sa ac h.1))) := by
  dsimp only [ab_stp] at hs
  dsimp only [ab_chk] at hc
  obtain ⟨y, S1, e9, h9⟩ := l1_some hs
  clear hs
  subst e9
  have hs := h9
  clear h9
  obtain ⟨z, S2, e9, h9⟩ := l1_some hs
  clear hs
  subst e9
  have hs := h9
  clear h9
  obtain ⟨hd, rfl⟩ := pl_some hc
  refine lv_land hx hb hd ?_
  rw [al_and]
  exact hk _ _ _ _ _ _ _ _ hs (hI.st (cs_ok (show in64 _ from d_an_in _ _) (cs_tl (cs_tl hI.ok))))
theorem sp_lor  (hx : p.tables.exec = Jvm.exec) (hb : c.code = cc) (hown : s.vm.findClass own = some m.cls) (hw : ∀ w ∈ lw_good, w.before args s = true) (hc : ab_chk own cc rt init pc (.lor, nx, a, b, x) hi hp = true) (hs : ab_stp T Y cal (.lor, nx, a, b, x) L S h k = some r) (hI : IV s G sa A nL ac0 ac h L S H locs ls) (hk : KK p l e R s m args below meth c Q G sa A nL ce sl ac0 k r) : W p l e R s m args below meth c H locs (ce h.1) (sl h.1) Q (F0 m pc ls (S.map (cv sa ac h.1))) := by
  dsimp only [ab_stp] at hs
  dsimp only [ab_chk] at hc
  obtain ⟨y, S1, e9, h9⟩ := l1_some hs
  clear hs
  subst e9
  have hs := h9
  clear h9
  obtain ⟨z, S2, e9, h9⟩ := l1_some hs
  clear hs
  subst e9
  have hs := h9
  clear h9
  obtain ⟨hd, rfl⟩ := pl_some hc
  refine lv_lor hx hb hd ?_
  rw [al_or]
  exact hk _ _ _ _ _ _ _ _ hs (hI.st (cs_ok (show in64 _ from d_orr_in _ _) (cs_tl (cs_tl hI.ok))))
theorem sp_lshl  (hx : p.tables.exec = Jvm.exec) (hb : c.code = cc) (hown : s.vm.findClass own = some m.cls) (hw : ∀ w ∈ lw_good, w.before args s = true) (hc : ab_chk own cc rt init pc (.lshl, nx, a, b, x) hi hp = true) (hs : ab_stp T Y cal (.lshl, nx, a, b, x) L S h k = some r) (hI : IV s G sa A nL ac0 ac h L S H locs ls) (hk : KK p l e R s m args below meth c Q G sa A nL ce sl ac0 k r) : W p l e R s m args below meth c H locs (ce h.1) (sl h.1) Q (F0 m pc ls (S.map (cv sa ac h.1))) := by
  dsimp only [ab_stp] at hs
  dsimp only [ab_chk] at hc
  obtain ⟨y, S1, e9, h9⟩ := i1_some hs
  clear hs
  subst e9
  have hs := h9
  clear h9
  obtain ⟨z, S2, e9, h9⟩ := l1_some hs
  clear hs
  subst e9
  have hs := h9
  clear h9
  obtain ⟨hd, rfl⟩ := pl_some hc
  refine lv_lshl hx hb hd (al_shl z y) ?_
  exact hk _ _ _ _ _ _ _ _ hs (hI.st (cs_ok (show in64 _ from d_sl_in _ _) (cs_tl (cs_tl hI.ok))))
theorem sp_lushr  (hx : p.tables.exec = Jvm.exec) (hb : c.code = cc) (hown : s.vm.findClass own = some m.cls) (hw : ∀ w ∈ lw_good, w.before args s = true) (hc : ab_chk own cc rt init pc (.lushr, nx, a, b, x) hi hp = true) (hs : ab_stp T Y cal (.lushr, nx, a, b, x) L S h k = some r) (hI : IV s G sa A nL ac0 ac h L S H locs ls) (hk : KK p l e R s m args below meth c Q G sa A nL ce sl ac0 k r) : W p l e R s m args below meth c H locs (ce h.1) (sl h.1) Q (F0 m pc ls (S.map (cv sa ac h.1))) := by
  dsimp only [ab_stp] at hs
  dsimp only [ab_chk] at hc
  obtain ⟨y, S1, e9, h9⟩ := i1_some hs
  clear hs
  subst e9
  have hs := h9
  clear h9
  obtain ⟨z, S2, e9, h9⟩ := l1_some hs
  clear hs
  subst e9
  have hs := h9
  clear h9
  obtain ⟨hd, rfl⟩ := pl_some hc
  refine lv_lushr hx hb hd (al_ush z y) ?_
  exact hk _ _ _ _ _ _ _ _ hs (hI.st (cs_ok (show in64 _ from d_us_in _ _) (cs_tl (cs_tl hI.ok))))
theorem sp_lcmp  (hx : p.tables.exec = Jvm.exec) (hb : c.code = cc) (hown : s.vm.findClass own = some m.cls) (hw : ∀ w ∈ lw_good, w.before args s = true) (hc : ab_chk own cc rt init pc (.lcmp, nx, a, b, x) hi hp = true) (hs : ab_stp T Y cal (.lcmp, nx, a, b, x) L S h k = some r) (hI : IV s G sa A nL ac0 ac h L S H locs ls) (hk : KK p l e R s m args below meth c Q G sa A nL ce sl ac0 k r) : W p l e R s m args below meth c H locs (ce h.1) (sl h.1) Q (F0 m pc ls (S.map (cv sa ac h.1))) := by
  dsimp only [ab_stp] at hs
  dsimp only [ab_chk] at hc
  obtain ⟨y, S1, e9, h9⟩ := l1_some hs
  clear hs
  subst e9
  have hs := h9
  clear h9
  obtain ⟨z, S2, e9, h9⟩ := l1_some hs
  clear hs
  subst e9
  have hs := h9
  clear h9
  obtain ⟨hd, rfl⟩ := pl_some hc
  have hy : in64 y := in_okL (cs_hd hI.ok)
  have hz : in64 z := in_okL (cs_hd (cs_tl hI.ok))
  refine W.lcmp hx hb hd ?_
  rw [al_cmp hz hy]
  exact hk _ _ _ _ _ _ _ _ hs (hI.st (cs_ok (show in32 _ by unfold d_cmp; repeat' split <;> omega) (cs_tl (cs_tl hI.ok))))
theorem sp_i2l  (hx : p.tables.exec = Jvm.exec) (hb : c.code = cc) (hown : s.vm.findClass own = some m.cls) (hw : ∀ w ∈ lw_good, w.before args s = true) (hc : ab_chk own cc rt init pc (.i2l, nx, a, b, x) hi hp = true) (hs : ab_stp T Y cal (.i2l, nx, a, b, x) L S h k = some r) (hI : IV s G sa A nL ac0 ac h L S H locs ls) (hk : KK p l e R s m args below meth c Q G sa A nL ce sl ac0 k r) : W p l e R s m args below meth c H locs (ce h.1) (sl h.1) Q (F0 m pc ls (S.map (cv sa ac h.1))) := by
  dsimp only [ab_stp] at hs
  dsimp only [ab_chk] at hc
  obtain ⟨y, S1, e9, h9⟩ := i1_some hs
  clear hs
  subst e9
  have hs := h9
  clear h9
  obtain ⟨hd, rfl⟩ := pl_some hc
  have hy : in32 y := in_ok (cs_hd hI.ok)
  refine lv_i2l hx hb hd (al_i2l hy) ?_
  exact hk _ _ _ _ _ _ _ _ hs (hI.st (cs_ok (show in64 _ from by have := hy; omega) (cs_tl hI.ok)))
theorem sp_l2i  (hx : p.tables.exec = Jvm.exec) (hb : c.code = cc) (hown : s.vm.findClass own = some m.cls) (hw : ∀ w ∈ lw_good, w.before args s = true) (hc : ab_chk own cc rt init pc (.l2i, nx, a, b, x) hi hp = true) (hs : ab_stp T Y cal (.l2i, nx, a, b, x) L S h k = some r) (hI : IV s G sa A nL ac0 ac h L S H locs ls) (hk : KK p l e R s m args below meth c Q G sa A nL ce sl ac0 k r) : W p l e R s m args below meth c H locs (ce h.1) (sl h.1) Q (F0 m pc ls (S.map (cv sa ac h.1))) := by
  dsimp only [ab_stp] at hs
  dsimp only [ab_chk] at hc
  obtain ⟨y, S1, e9, h9⟩ := l1_some hs
  clear hs
  subst e9
  have hs := h9
  clear h9
  obtain ⟨hd, rfl⟩ := pl_some hc
  refine lv_l2i hx hb hd (al_l2i y) ?_
  exact hk _ _ _ _ _ _ _ _ hs (hI.st (cs_ok (show in32 _ from w32_in _) (cs_tl hI.ok)))
theorem sp_i2b  (hx : p.tables.exec = Jvm.exec) (hb : c.code = cc) (hown : s.vm.findClass own = some m.cls) (hw : ∀ w ∈ lw_good, w.before args s = true) (hc : ab_chk own cc rt init pc (.i2b, nx, a, b, x) hi hp = true) (hs : ab_stp T Y cal (.i2b, nx, a, b, x) L S h k = some r) (hI : IV s G sa A nL ac0 ac h L S H locs ls) (hk : KK p l e R s m args below meth c Q G sa A nL ce sl ac0 k r) : W p l e R s m args below meth c H locs (ce h.1) (sl h.1) Q (F0 m pc ls (S.map (cv sa ac h.1))) := by
  dsimp only [ab_stp] at hs
  dsimp only [ab_chk] at hc
  obtain ⟨y, S1, e9, h9⟩ := i1_some hs
  clear hs
  subst e9
  have hs := h9
  clear h9
  obtain ⟨hd, rfl⟩ := pl_some hc
  refine lv_i2b hx hb hd (ar_8 y) ?_
  exact hk _ _ _ _ _ _ _ _ hs (hI.st (cs_ok (show in32 _ from w8_in _) (cs_tl hI.ok)))
theorem sp_i2s  (hx : p.tables.exec = Jvm.exec) (hb : c.code = cc) (hown : s.vm.findClass own = some m.cls) (hw : ∀ w ∈ lw_good, w.before args s = true) (hc : ab_chk own cc rt init pc (.i2s, nx, a, b, x) hi hp = true) (hs : ab_stp T Y cal (.i2s, nx, a, b, x) L S h k = some r) (hI : IV s G sa A nL ac0 ac h L S H locs ls) (hk : KK p l e R s m args below meth c Q G sa A nL ce sl ac0 k r) : W p l e R s m args below meth c H locs (ce h.1) (sl h.1) Q (F0 m pc ls (S.map (cv sa ac h.1))) := by
  dsimp only [ab_stp] at hs
  dsimp only [ab_chk] at hc
  obtain ⟨y, S1, e9, h9⟩ := i1_some hs
  clear hs
  subst e9
  have hs := h9
  clear h9
  obtain ⟨hd, rfl⟩ := pl_some hc
  refine lv_i2s hx hb hd (ar_16 y) ?_
  exact hk _ _ _ _ _ _ _ _ hs (hI.st (cs_ok (show in32 _ from w16_in _) (cs_tl hI.ok)))
theorem sp_dup  (hx : p.tables.exec = Jvm.exec) (hb : c.code = cc) (hown : s.vm.findClass own = some m.cls) (hw : ∀ w ∈ lw_good, w.before args s = true) (hc : ab_chk own cc rt init pc (.dup, nx, a, b, x) hi hp = true) (hs : ab_stp T Y cal (.dup, nx, a, b, x) L S h k = some r) (hI : IV s G sa A nL ac0 ac h L S H locs ls) (hk : KK p l e R s m args below meth c Q G sa A nL ce sl ac0 k r) : W p l e R s m args below meth c H locs (ce h.1) (sl h.1) Q (F0 m pc ls (S.map (cv sa ac h.1))) := by
  dsimp only [ab_stp] at hs
  dsimp only [ab_chk] at hc
  obtain ⟨v, S1, e9, h9, hv⟩ := c1_some hs
  clear hs
  subst e9
  have hs := h9
  clear h9
  obtain ⟨hd, rfl⟩ := pl_some hc
  refine lv_dup hx hb hd (cv_cat hv) ?_
  exact hk _ _ (v :: v :: S1) _ _ _ _ _ hs (hI.st (cs_ok (cs_hd hI.ok) hI.ok))
theorem sp_pop  (hx : p.tables.exec = Jvm.exec) (hb : c.code = cc) (hown : s.vm.findClass own = some m.cls) (hw : ∀ w ∈ lw_good, w.before args s = true) (hc : ab_chk own cc rt init pc (.pop, nx, a, b, x) hi hp = true) (hs : ab_stp T Y cal (.pop, nx, a, b, x) L S h k = some r) (hI : IV s G sa A nL ac0 ac h L S H locs ls) (hk : KK p l e R s m args below meth c Q G sa A nL ce sl ac0 k r) : W p l e R s m args below meth c H locs (ce h.1) (sl h.1) Q (F0 m pc ls (S.map (cv sa ac h.1))) := by
  dsimp only [ab_stp] at hs
  dsimp only [ab_chk] at hc
  obtain ⟨v, S1, e9, h9, hv⟩ := c1_some hs
  clear hs
  subst e9
  have hs := h9
  clear h9
  obtain ⟨hd, rfl⟩ := pl_some hc
  refine lv_pop hx hb hd (cv_cat hv) ?_
  exact hk _ _ S1 _ _ _ _ _ hs (hI.st (cs_tl hI.ok))
theorem sp_dup2  (hx : p.tables.exec = Jvm.exec) (hb : c.code = cc) (hown : s.vm.findClass own = some m.cls) (hw : ∀ w ∈ lw_good, w.before args s = true) (hc : ab_chk own cc rt init pc (.dup2, nx, a, b, x) hi hp = true) (hs : ab_stp T Y cal (.dup2, nx, a, b, x) L S h k = some r) (hI : IV s G sa A nL ac0 ac h L S H locs ls) (hk : KK p l e R s m args below meth c Q G sa A nL ce sl ac0 k r) : W p l e R s m args below meth c H locs (ce h.1) (sl h.1) Q (F0 m pc ls (S.map (cv sa ac h.1))) := by
  dsimp only [ab_stp] at hs
  dsimp only [ab_chk] at hc
  obtain ⟨v, S1, e9, h9, hv⟩ := c1_some hs
  clear hs
  subst e9
  have hs := h9
  clear h9
  obtain ⟨v2, S2, e9, h9, hv2⟩ := c1_some hs
  clear hs
  subst e9
  have hs := h9
  clear h9
  obtain ⟨hd, rfl⟩ := pl_some hc
  refine lv_dup2_11 hx hb hd (cv_cat hv) (cv_cat hv2) ?_
  exact hk _ _ (v :: v2 :: v :: v2 :: S2) _ _ _ _ _ hs (hI.st (cs_ok (cs_hd hI.ok) (cs_ok (cs_hd (cs_tl hI.ok)) hI.ok)))
theorem sp_pop2  (hx : p.tables.exec = Jvm.exec) (hb : c.code = cc) (hown : s.vm.findClass own = some m.cls) (hw : ∀ w ∈ lw_good, w.before args s = true) (hc : ab_chk own cc rt init pc (.pop2, nx, a, b, x) hi hp = true) (hs : ab_stp T Y cal (.pop2, nx, a, b, x) L S h k = some r) (hI : IV s G sa A nL ac0 ac h L S H locs ls) (hk : KK p l e R s m args below meth c Q G sa A nL ce sl ac0 k r) : W p l e R s m args below meth c H locs (ce h.1) (sl h.1) Q (F0 m pc ls (S.map (cv sa ac h.1))) := by
  dsimp only [ab_stp] at hs
  dsimp only [ab_chk] at hc
  obtain ⟨y, S1, e9, h9⟩ := l1_some hs
  clear hs
  subst e9
  have hs := h9
  clear h9
  obtain ⟨hd, rfl⟩ := pl_some hc
  refine lv_pop2_2 hx hb hd rfl ?_
  exact hk _ _ S1 _ _ _ _ _ hs (hI.st (cs_tl hI.ok))
end
end
section
section
variable {p : Program} {l : Launch} {e : Env} {R : Room} {s : State} {m : MethodId} {args : Array Value} {below : List Frame} {meth : Method} {c : Code} {Q : State → Prop} {H : Heap} {locs : List Loc} {ls : Array Slot}
variable {cc : ByteArray} {own : String} {nL : Nat} {G : va_G} {sa : Nat → Nat} {A : Nat → Prop} {X : Nat × (Nat → Int)} {ce sl : List (Nat × Nat) → Nat} {ac0 ac : List (Nat × ClassId)}
variable {rt : Option FieldType} {init : Bool} {pc nx a b hi hp : Nat} {x : Int} {T : ab_T} {Y : ab_X} {cal : ab_C} {L S : List ab_V} {h : ab_H} {k : ab_K} {r : ab_R}

theorem cv_c2 {al : List (Nat × Nat)} (w : ab_V) (h2 : (cv sa ac al w).category = 2) : ∃ y, w = vL y := by
  rcases w with y | y | q | j | u
  · cases h2
  · exact ⟨y, rfl⟩
  · cases h2
  · cases h2
  · cases h2
theorem st_get {i : Nat} {v : ab_V} {j : Nat} {w : ab_V} (hi : i < L.length) (e1 : (ab_st L i v)[j]? = some w) (e2 : w ≠ vU) : (j = i ∧ w = v) ∨ (j ≠ i ∧ L[j]? = some w ∧ (j + 1 = i → ∀ x, w ≠ vL x)) := by
  unfold ab_st at e1
  split at e1
  · by_cases hj : j = 0
    · subst hj
      rw [List.getElem?_set_self (by omega)] at e1
      cases e1
      exact Or.inl ⟨rfl, rfl⟩
    · rw [List.getElem?_set_ne (Ne.symm hj)] at e1
      exact Or.inr ⟨hj, e1, fun e => absurd e (by omega)⟩
  · rename_i k
    split at e1
    · rename_i y hy
      by_cases hj : j = k + 1
      · subst hj
        rw [List.getElem?_set_self (by rw [List.length_set]; omega)] at e1
        cases e1
        exact Or.inl ⟨rfl, rfl⟩
      · rw [List.getElem?_set_ne (Ne.symm hj)] at e1
        by_cases hj2 : j = k
        · subst hj2
          rw [List.getElem?_set_self (by omega)] at e1
          cases e1
          exact absurd rfl e2
        · rw [List.getElem?_set_ne (Ne.symm hj2)] at e1
          exact Or.inr ⟨hj, e1, fun e => absurd e (by omega)⟩
    · rename_i hy
      by_cases hj : j = k + 1
      · subst hj
        rw [List.getElem?_set_self (by omega)] at e1
        cases e1
        exact Or.inl ⟨rfl, rfl⟩
      · rw [List.getElem?_set_ne (Ne.symm hj)] at e1
        refine Or.inr ⟨hj, e1, fun e x hx => ?_⟩
        have : j = k := by omega
        subst this
        subst hx
        exact hy x e1
theorem st_ln (i : Nat) (v : ab_V) : (ab_st L i v).length = L.length := by
  unfold ab_st
  split
  · exact List.length_set
  · split
    · rw [List.length_set, List.length_set]
    · exact List.length_set
theorem st_ok {al : List (Nat × Nat)} {i : Nat} {v : ab_V} (hi : i < L.length) (h1 : ∀ w ∈ L, w = vU ∨ okv al w) (h2 : okv al v) : ∀ w ∈ ab_st L i v, w = vU ∨ okv al w := by
  intro w hw
  obtain ⟨j, hj⟩ := List.getElem?_of_mem hw
  by_cases e2 : w = vU
  · exact Or.inl e2
  · rcases st_get hi hj e2 with ⟨-, rfl⟩ | ⟨-, h3, -⟩
    · exact Or.inr h2
    · exact h1 w (List.mem_of_getElem? h3)
theorem LH.st2 {f : ab_V → Value} (hL : LH ls nL f L) {i : Nat} {v : ab_V} (hi : i + 1 < nL) (hf : ∀ w, (f w).category = 2 → ∃ x, w = vL x) {ls' : Array Slot} (hs : lv_has ls' nL ((i, f v) :: (lvo f L).filter (fun q => !(q.1 == i) && (!(q.1 == i + 1) && !(q.1 + 1 == i && q.2.category == 2))))) : LH ls' nL f (ab_st2 L i v) := by
  have hl := hL.1
  refine LH.of (by unfold ab_st2; rw [List.length_set, st_ln]; exact hl) hs fun j w e1 e2 => ?_
  unfold ab_st2 at e1
  by_cases hj : j = i + 1
  · subst hj
    rw [List.getElem?_set_self (by rw [st_ln]; omega)] at e1
    cases e1
    exact absurd rfl e2
  · rw [List.getElem?_set_ne (Ne.symm hj)] at e1
    rcases st_get (by omega) e1 e2 with ⟨rfl, rfl⟩ | ⟨g1, g2, g3⟩
    · exact List.mem_cons_self
    · refine List.mem_cons_of_mem _ (List.mem_filter.mpr ⟨lvo_mem.mpr ⟨w, g2, e2, rfl⟩, ?_⟩)
      show (!(j == i) && (!(j == i + 1) && !(j + 1 == i && (f w).category == 2))) = true
      have g4 : (j == i) = false := by simpa using g1
      have g5 : (j == i + 1) = false := by simpa using hj
      rw [g4, g5]
      by_cases g6 : j + 1 = i
      · have g7 : ¬ (f w).category = 2 := fun e => by
          obtain ⟨x, hx⟩ := hf w e
          exact g3 g6 x hx
        simp [g7]
      · simp [g6]
theorem l4_some {f : Nat → Instr} {g : Fin 4 → Instr} (hc : ab_l4 cc pc nx a f g = true) : (decode cc pc = .ok (f a, 2) ∧ nx = pc + 2) ∨ (decode cc pc = .ok (g (Fin.ofNat 4 a), 1) ∧ nx = pc + 1 ∧ a < 4) := of_decide_eq_true hc
theorem f4 (ha : a < 4) : ((Fin.ofNat 4 a : Fin 4) : Nat) = a := Nat.mod_eq_of_lt ha
theorem ar_i8 {y : Int} (h1 : -128 ≤ y) (h2 : y < 128) : (Int8.ofInt y).toInt32 = Int32.ofInt y := by
  apply ar_eq
  rw [Int8.toInt_toInt32, ar_to ⟨by omega, by omega⟩, Int8.toInt_ofInt]
  show Int.bmod _ 256 = _
  unfold Int.bmod
  dsimp only
  split <;> omega
theorem ar_i16 {y : Int} (h1 : -32768 ≤ y) (h2 : y < 32768) : (Int16.ofInt y).toInt32 = Int32.ofInt y := by
  apply ar_eq
  rw [Int16.toInt_toInt32, ar_to ⟨by omega, by omega⟩, Int16.toInt_ofInt]
  show Int.bmod _ 65536 = _
  unfold Int.bmod
  dsimp only
  split <;> omega
theorem wd_in {w : Cond} (h1 : lw_tbl[hp]? = some w) (h2 : goodWord w = true) : w ∈ lw_good := List.mem_filter.mpr ⟨List.mem_of_getElem? h1, h2⟩

theorem sp_iconst {n : Int} (hx : p.tables.exec = Jvm.exec) (hb : c.code = cc) (hown : s.vm.findClass own = some m.cls) (hw : ∀ w ∈ lw_good, w.before args s = true) (hc : ab_chk own cc rt init pc (.iconst n, nx, a, b, x) hi hp = true) (hs : ab_stp T Y cal (.iconst n, nx, a, b, x) L S h k = some r) (hI : IV s G sa A nL ac0 ac h L S H locs ls) (hk : KK p l e R s m args below meth c Q G sa A nL ce sl ac0 k r) : W p l e R s m args below meth c H locs (ce h.1) (sl h.1) Q (F0 m pc ls (S.map (cv sa ac h.1))) := by
  dsimp only [ab_stp] at hs
  dsimp only [ab_chk] at hc
  have hc := of_decide_eq_true hc
  have fin : in32 x → W p l e R s m args below meth c H locs (ce h.1) (sl h.1) Q (F0 m nx ls (.int (Int32.ofInt x) :: S.map (cv sa ac h.1))) := fun hxx => hk _ _ _ _ _ _ _ _ hs (hI.st (cs_ok (show in32 _ from hxx) hI.ok))
  rcases hc with ⟨hd, rfl, h1⟩ | ⟨hd, rfl, h1, h2⟩ | ⟨hd, rfl, h1, h2⟩ | ⟨hd, rfl, h1, h2⟩ | ⟨hd, rfl, h1, h2⟩
  · exact lv_iconst hx hb hd rfl (fin h1)
  · exact lv_bipush hx hb hd (ar_i8 h1 h2) (fin ⟨by omega, by omega⟩)
  · exact lv_sipush hx hb hd (ar_i16 h1 h2) (fin ⟨by omega, by omega⟩)
  · exact lv_ldc hx hb hown (hw _ (wd_in h2 rfl)) hd (fin h1)
  · exact lv_ldcw hx hb hown (hw _ (wd_in h2 rfl)) hd (fin h1)
theorem sp_lconst {n : Nat} (hx : p.tables.exec = Jvm.exec) (hb : c.code = cc) (hown : s.vm.findClass own = some m.cls) (hw : ∀ w ∈ lw_good, w.before args s = true) (hc : ab_chk own cc rt init pc (.ldc2_w n, nx, a, b, x) hi hp = true) (hs : ab_stp T Y cal (.ldc2_w n, nx, a, b, x) L S h k = some r) (hI : IV s G sa A nL ac0 ac h L S H locs ls) (hk : KK p l e R s m args below meth c Q G sa A nL ce sl ac0 k r) : W p l e R s m args below meth c H locs (ce h.1) (sl h.1) Q (F0 m pc ls (S.map (cv sa ac h.1))) := by
  dsimp only [ab_stp] at hs
  dsimp only [ab_chk] at hc
  have hc := of_decide_eq_true hc
  have fin : in64 x → W p l e R s m args below meth c H locs (ce h.1) (sl h.1) Q (F0 m nx ls (.long (Int64.ofInt x) :: S.map (cv sa ac h.1))) := fun hxx => hk _ _ _ _ _ _ _ _ hs (hI.st (cs_ok (show in64 _ from hxx) hI.ok))
  rcases hc with ⟨hd, rfl, rfl⟩ | ⟨hd, rfl, rfl⟩ | ⟨hd, rfl, h1, h2⟩
  · exact lv_lconst hx hb hd rfl (fin (by decide))
  · exact lv_lconst hx hb hd rfl (fin (by decide))
  · exact lv_ldc2 hx hb hown (hw _ (wd_in h2 rfl)) hd (fin h1)
theorem sp_iload {n : Nat} (hx : p.tables.exec = Jvm.exec) (hb : c.code = cc) (hown : s.vm.findClass own = some m.cls) (hw : ∀ w ∈ lw_good, w.before args s = true) (hc : ab_chk own cc rt init pc (.iload n, nx, a, b, x) hi hp = true) (hs : ab_stp T Y cal (.iload n, nx, a, b, x) L S h k = some r) (hI : IV s G sa A nL ac0 ac h L S H locs ls) (hk : KK p l e R s m args below meth c Q G sa A nL ce sl ac0 k r) : W p l e R s m args below meth c H locs (ce h.1) (sl h.1) Q (F0 m pc ls (S.map (cv sa ac h.1))) := by
  dsimp only [ab_stp] at hs
  dsimp only [ab_chk] at hc
  obtain ⟨v, hv, h9⟩ := lo_some hs
  clear hs
  have hs := h9
  clear h9
  have hl := fun q => hI.2.2.2.1.2.2.2 a v hv q
  have ho := hI.2.2.2.2.1 v (List.mem_of_getElem? hv)
  rcases v with y | y | q | j | u
  · have ho : okv h.1 (vI y) := ho.resolve_left (by intro e9; cases e9)
    have hl : ls[a]? = some (.val (cv sa ac h.1 (vI y))) := hl (by intro e9; cases e9)
    have fin := hk _ _ _ _ _ _ _ _ hs (hI.st (cs_ok ho hI.ok))
    rcases l4_some hc with ⟨hd, rfl⟩ | ⟨hd, rfl, ha⟩
    · exact lv_iload hx hb hd hl fin
    · exact lv_iload_n hx hb hd (f4 ha) hl fin
  · cases hs
  · cases hs
  · cases hs
  · cases hs
theorem sp_lload {n : Nat} (hx : p.tables.exec = Jvm.exec) (hb : c.code = cc) (hown : s.vm.findClass own = some m.cls) (hw : ∀ w ∈ lw_good, w.before args s = true) (hc : ab_chk own cc rt init pc (.lload n, nx, a, b, x) hi hp = true) (hs : ab_stp T Y cal (.lload n, nx, a, b, x) L S h k = some r) (hI : IV s G sa A nL ac0 ac h L S H locs ls) (hk : KK p l e R s m args below meth c Q G sa A nL ce sl ac0 k r) : W p l e R s m args below meth c H locs (ce h.1) (sl h.1) Q (F0 m pc ls (S.map (cv sa ac h.1))) := by
  dsimp only [ab_stp] at hs
  dsimp only [ab_chk] at hc
  obtain ⟨v, hv, h9⟩ := lo_some hs
  clear hs
  have hs := h9
  clear h9
  have hl := fun q => hI.2.2.2.1.2.2.2 a v hv q
  have ho := hI.2.2.2.2.1 v (List.mem_of_getElem? hv)
  rcases v with y | y | q | j | u
  · cases hs
  · have ho : okv h.1 (vL y) := ho.resolve_left (by intro e9; cases e9)
    have hl : ls[a]? = some (.val (cv sa ac h.1 (vL y))) := hl (by intro e9; cases e9)
    have fin := hk _ _ _ _ _ _ _ _ hs (hI.st (cs_ok ho hI.ok))
    rcases l4_some hc with ⟨hd, rfl⟩ | ⟨hd, rfl, ha⟩
    · exact lv_lload hx hb hd hl fin
    · exact lv_lload_n hx hb hd (f4 ha) hl fin
  · cases hs
  · cases hs
  · cases hs
theorem sp_aload {n : Nat} (hx : p.tables.exec = Jvm.exec) (hb : c.code = cc) (hown : s.vm.findClass own = some m.cls) (hw : ∀ w ∈ lw_good, w.before args s = true) (hc : ab_chk own cc rt init pc (.aload n, nx, a, b, x) hi hp = true) (hs : ab_stp T Y cal (.aload n, nx, a, b, x) L S h k = some r) (hI : IV s G sa A nL ac0 ac h L S H locs ls) (hk : KK p l e R s m args below meth c Q G sa A nL ce sl ac0 k r) : W p l e R s m args below meth c H locs (ce h.1) (sl h.1) Q (F0 m pc ls (S.map (cv sa ac h.1))) := by
  dsimp only [ab_stp] at hs
  dsimp only [ab_chk] at hc
  obtain ⟨v, hv, h9⟩ := lo_some hs
  clear hs
  have hs := h9
  clear h9
  have hl := fun q => hI.2.2.2.1.2.2.2 a v hv q
  have ho := hI.2.2.2.2.1 v (List.mem_of_getElem? hv)
  rcases v with y | y | q | j | u
  · cases hs
  · cases hs
  · have ho : okv h.1 (vR q.1 q.2) := ho.resolve_left (by intro e9; cases e9)
    have hl : ls[a]? = some (.val (cv sa ac h.1 (vR q.1 q.2))) := hl (by intro e9; cases e9)
    have fin := hk _ _ _ _ _ _ _ _ hs (hI.st (cs_ok ho hI.ok))
    rcases l4_some hc with ⟨hd, rfl⟩ | ⟨hd, rfl, ha⟩
    · exact lv_aload hx hb hd hl fin
    · exact lv_aload_n hx hb hd (f4 ha) hl fin
  · have ho : okv h.1 (vS j) := ho.resolve_left (by intro e9; cases e9)
    have hl : ls[a]? = some (.val (cv sa ac h.1 (vS j))) := hl (by intro e9; cases e9)
    have fin := hk _ _ _ _ _ _ _ _ hs (hI.st (cs_ok ho hI.ok))
    rcases l4_some hc with ⟨hd, rfl⟩ | ⟨hd, rfl, ha⟩
    · exact lv_aload hx hb hd hl fin
    · exact lv_aload_n hx hb hd (f4 ha) hl fin
  · cases hs
theorem sp_istore {n : Nat} (hx : p.tables.exec = Jvm.exec) (hb : c.code = cc) (hown : s.vm.findClass own = some m.cls) (hw : ∀ w ∈ lw_good, w.before args s = true) (hc : ab_chk own cc rt init pc (.istore n, nx, a, b, x) hi hp = true) (hs : ab_stp T Y cal (.istore n, nx, a, b, x) L S h k = some r) (hI : IV s G sa A nL ac0 ac h L S H locs ls) (hk : KK p l e R s m args below meth c Q G sa A nL ce sl ac0 k r) : W p l e R s m args below meth c H locs (ce h.1) (sl h.1) Q (F0 m pc ls (S.map (cv sa ac h.1))) := by
  dsimp only [ab_stp] at hs
  dsimp only [ab_chk] at hc
  obtain ⟨y, S1, e9, h9⟩ := i1_some hs
  clear hs
  subst e9
  have hs := h9
  clear h9
  obtain ⟨hb1, h9⟩ := beq_some hs
  clear hs
  have hs := h9
  clear h9
  have hlen := hI.2.2.2.1.1
  have hlt : a < L.length := Nat.blt_eq.mp hb1
  have fin : ∀ ls' : Array Slot, lv_has ls' nL ((a, cv sa ac h.1 (vI y)) :: (lvo (cv sa ac h.1) L).filter (fun q => !(q.1 == a) && !(q.1 + 1 == a && q.2.category == 2))) → W p l e R s m args below meth c H locs (ce h.1) (sl h.1) Q (F0 m nx ls' (S1.map (cv sa ac h.1))) := fun ls' hl' =>
    hk _ _ _ _ _ _ _ _ hs ⟨hI.1, hI.2.1, hI.2.2.1, hI.2.2.2.1.st (by omega) cv_c2 hl', st_ok hlt hI.2.2.2.2.1 (cs_hd hI.ok), cs_tl hI.ok⟩
  rcases l4_some hc with ⟨hd, rfl⟩ | ⟨hd, rfl, ha⟩
  · exact lv_istore hx hb hd hI.2.2.2.1.has (by omega) rfl fin
  · exact lv_istore_n hx hb hd (f4 ha) hI.2.2.2.1.has (by omega) rfl fin
theorem sp_astore {n : Nat} (hx : p.tables.exec = Jvm.exec) (hb : c.code = cc) (hown : s.vm.findClass own = some m.cls) (hw : ∀ w ∈ lw_good, w.before args s = true) (hc : ab_chk own cc rt init pc (.astore n, nx, a, b, x) hi hp = true) (hs : ab_stp T Y cal (.astore n, nx, a, b, x) L S h k = some r) (hI : IV s G sa A nL ac0 ac h L S H locs ls) (hk : KK p l e R s m args below meth c Q G sa A nL ce sl ac0 k r) : W p l e R s m args below meth c H locs (ce h.1) (sl h.1) Q (F0 m pc ls (S.map (cv sa ac h.1))) := by
  dsimp only [ab_stp] at hs
  dsimp only [ab_chk] at hc
  obtain ⟨t, i, S1, e9, h9⟩ := r1_some hs
  clear hs
  subst e9
  have hs := h9
  clear h9
  obtain ⟨hb1, h9⟩ := beq_some hs
  clear hs
  have hs := h9
  clear h9
  have hlen := hI.2.2.2.1.1
  have hlt : a < L.length := Nat.blt_eq.mp hb1
  have fin : ∀ ls' : Array Slot, lv_has ls' nL ((a, cv sa ac h.1 (vR t i)) :: (lvo (cv sa ac h.1) L).filter (fun q => !(q.1 == a) && !(q.1 + 1 == a && q.2.category == 2))) → W p l e R s m args below meth c H locs (ce h.1) (sl h.1) Q (F0 m nx ls' (S1.map (cv sa ac h.1))) := fun ls' hl' =>
    hk _ _ _ _ _ _ _ _ hs ⟨hI.1, hI.2.1, hI.2.2.1, hI.2.2.2.1.st (by omega) cv_c2 hl', st_ok hlt hI.2.2.2.2.1 (cs_hd hI.ok), cs_tl hI.ok⟩
  rcases l4_some hc with ⟨hd, rfl⟩ | ⟨hd, rfl, ha⟩
  · exact lv_astore hx hb hd hI.2.2.2.1.has (by omega) rfl fin
  · exact lv_astore_n hx hb hd (f4 ha) hI.2.2.2.1.has (by omega) rfl fin
theorem sp_lstore {n : Nat} (hx : p.tables.exec = Jvm.exec) (hb : c.code = cc) (hown : s.vm.findClass own = some m.cls) (hw : ∀ w ∈ lw_good, w.before args s = true) (hc : ab_chk own cc rt init pc (.lstore n, nx, a, b, x) hi hp = true) (hs : ab_stp T Y cal (.lstore n, nx, a, b, x) L S h k = some r) (hI : IV s G sa A nL ac0 ac h L S H locs ls) (hk : KK p l e R s m args below meth c Q G sa A nL ce sl ac0 k r) : W p l e R s m args below meth c H locs (ce h.1) (sl h.1) Q (F0 m pc ls (S.map (cv sa ac h.1))) := by
  dsimp only [ab_stp] at hs
  dsimp only [ab_chk] at hc
  obtain ⟨y, S1, e9, h9⟩ := l1_some hs
  clear hs
  subst e9
  have hs := h9
  clear h9
  obtain ⟨hb1, h9⟩ := beq_some hs
  clear hs
  have hs := h9
  clear h9
  have hlen := hI.2.2.2.1.1
  have hlt : a + 1 < L.length := Nat.blt_eq.mp hb1
  have fin : ∀ ls' : Array Slot, lv_has ls' nL ((a, cv sa ac h.1 (vL y)) :: (lvo (cv sa ac h.1) L).filter (fun q => !(q.1 == a) && (!(q.1 == a + 1) && !(q.1 + 1 == a && q.2.category == 2)))) → W p l e R s m args below meth c H locs (ce h.1) (sl h.1) Q (F0 m nx ls' (S1.map (cv sa ac h.1))) := fun ls' hl' =>
    hk _ _ _ _ _ _ _ _ hs ⟨hI.1, hI.2.1, hI.2.2.1, hI.2.2.2.1.st2 (by omega) cv_c2 hl', fun w hw => by
      have h0 := st_ok (show a < L.length by omega) hI.2.2.2.2.1 (cs_hd hI.ok)
      rcases List.mem_or_eq_of_mem_set hw with q | q
      · exact h0 w q
      · exact Or.inl q, cs_tl hI.ok⟩
  rcases l4_some hc with ⟨hd, rfl⟩ | ⟨hd, rfl, ha⟩
  · exact lv_lstore hx hb hd hI.2.2.2.1.has (by omega) rfl fin
  · exact lv_lstore_n hx hb hd (f4 ha) hI.2.2.2.1.has (by omega) rfl fin
theorem sp_iinc {n : Nat} {z : Int} (hx : p.tables.exec = Jvm.exec) (hb : c.code = cc) (hown : s.vm.findClass own = some m.cls) (hw : ∀ w ∈ lw_good, w.before args s = true) (hc : ab_chk own cc rt init pc (.iinc n z, nx, a, b, x) hi hp = true) (hs : ab_stp T Y cal (.iinc n z, nx, a, b, x) L S h k = some r) (hI : IV s G sa A nL ac0 ac h L S H locs ls) (hk : KK p l e R s m args below meth c Q G sa A nL ce sl ac0 k r) : W p l e R s m args below meth c H locs (ce h.1) (sl h.1) Q (F0 m pc ls (S.map (cv sa ac h.1))) := by
  dsimp only [ab_stp] at hs
  dsimp only [ab_chk] at hc
  obtain ⟨v, hv, h9⟩ := lo_some hs
  clear hs
  have hs := h9
  clear h9
  obtain ⟨hd, rfl⟩ := of_decide_eq_true hc
  have hlen := hI.2.2.2.1.1
  have hlt : a < L.length := (List.getElem?_eq_some_iff.mp hv).1
  rcases v with y | y | q | j | u
  · have hm : (a, cv sa ac h.1 (vI y)) ∈ lvo (cv sa ac h.1) L := lvo_mem.mpr ⟨vI y, hv, (by intro e9; cases e9), rfl⟩
    obtain ⟨k9, hk9⟩ := List.getElem?_of_mem hm
    refine lv_iinc (v := Int32.ofInt (w32 (y + x))) hx hb hd hI.2.2.2.1.has hk9 (ar_add y x) (by omega) rfl fun ls' hl' => ?_
    exact hk _ _ _ _ _ _ _ _ hs ⟨hI.1, hI.2.1, hI.2.2.1, hI.2.2.2.1.st (v := vI (w32 (y + x))) (by omega) cv_c2 hl', st_ok hlt hI.2.2.2.2.1 (show in32 _ from w32_in _), hI.ok⟩
  · cases hs
  · cases hs
  · cases hs
  · cases hs
theorem sp_goto {n : Int} (hx : p.tables.exec = Jvm.exec) (hb : c.code = cc) (hown : s.vm.findClass own = some m.cls) (hw : ∀ w ∈ lw_good, w.before args s = true) (hc : ab_chk own cc rt init pc (.goto n, nx, a, b, x) hi hp = true) (hs : ab_stp T Y cal (.goto n, nx, a, b, x) L S h k = some r) (hI : IV s G sa A nL ac0 ac h L S H locs ls) (hk : KK p l e R s m args below meth c Q G sa A nL ce sl ac0 k r) : W p l e R s m args below meth c H locs (ce h.1) (sl h.1) Q (F0 m pc ls (S.map (cv sa ac h.1))) := by
  dsimp only [ab_stp] at hs
  dsimp only [ab_chk] at hc
  have hd := of_decide_eq_true hc
  exact lv_goto (tgt := a) hx hb hd (by omega) (hk _ _ _ _ _ _ _ _ hs hI)
theorem ar_lt' {y z : Int} (hy : in32 y) (hz : in32 z) : Int32.ofInt y < Int32.ofInt z ↔ y < z := by rw [Int32.lt_iff_toInt_lt, ar_to hy, ar_to hz]
theorem ar_le' {y z : Int} (hy : in32 y) (hz : in32 z) : Int32.ofInt y ≤ Int32.ofInt z ↔ y ≤ z := by rw [Int32.le_iff_toInt_le, ar_to hy, ar_to hz]
theorem ar_eq' {y z : Int} (hy : in32 y) (hz : in32 z) : Int32.ofInt y = Int32.ofInt z ↔ y = z := ⟨fun e9 => by have := congrArg Int32.toInt e9; rw [ar_to hy, ar_to hz] at this; exact this, fun e9 => by rw [e9]⟩

theorem sp_ifc {cd : ClassFile.Cond} {n : Int} (hx : p.tables.exec = Jvm.exec) (hb : c.code = cc) (hown : s.vm.findClass own = some m.cls) (hw : ∀ w ∈ lw_good, w.before args s = true) (hc : ab_chk own cc rt init pc (.ifCond cd n, nx, a, b, x) hi hp = true) (hs : ab_stp T Y cal (.ifCond cd n, nx, a, b, x) L S h k = some r) (hI : IV s G sa A nL ac0 ac h L S H locs ls) (hk : KK p l e R s m args below meth c Q G sa A nL ce sl ac0 k r) : W p l e R s m args below meth c H locs (ce h.1) (sl h.1) Q (F0 m pc ls (S.map (cv sa ac h.1))) := by
  dsimp only [ab_stp] at hs
  dsimp only [ab_chk] at hc
  obtain ⟨z, S1, e9, h9⟩ := i1_some hs
  clear hs
  subst e9
  have hs := h9
  clear h9
  obtain ⟨hd, rfl⟩ := of_decide_eq_true hc
  have hz : in32 z := in_ok (cs_hd hI.ok)
  have hy : in32 0 := by decide
  have hI' := hI.st (cs_tl hI.ok)
  cases cd
  · refine lv_if_eq (tgt := a) hx hb hd (by omega) (fun q => ?_) (fun q => ?_)
    · dsimp only [ab_br] at hs
      rw [if_pos ((ar_eq' hz hy).mp q)] at hs
      exact hk _ _ _ _ _ _ _ _ hs hI'
    · dsimp only [ab_br] at hs
      rw [if_neg (fun q2 => q ((ar_eq' hz hy).mpr q2))] at hs
      exact hk _ _ _ _ _ _ _ _ hs hI'
  · refine lv_if_ne (tgt := a) hx hb hd (by omega) (fun q => ?_) (fun q => ?_)
    · dsimp only [ab_br] at hs
      rw [if_pos ((not_congr (ar_eq' hz hy)).mp q)] at hs
      exact hk _ _ _ _ _ _ _ _ hs hI'
    · dsimp only [ab_br] at hs
      rw [if_neg (fun q2 => q2 ((ar_eq' hz hy).mp q))] at hs
      exact hk _ _ _ _ _ _ _ _ hs hI'
  · refine lv_if_lt (tgt := a) hx hb hd (by omega) (fun q => ?_) (fun q => ?_)
    · dsimp only [ab_br] at hs
      rw [if_pos ((ar_lt' hz hy).mp q)] at hs
      exact hk _ _ _ _ _ _ _ _ hs hI'
    · dsimp only [ab_br] at hs
      rw [if_neg (fun q2 => q ((ar_lt' hz hy).mpr q2))] at hs
      exact hk _ _ _ _ _ _ _ _ hs hI'
  · refine lv_if_ge (tgt := a) hx hb hd (by omega) (fun q => ?_) (fun q => ?_)
    · dsimp only [ab_br] at hs
      rw [if_pos ((ar_le' hy hz).mp q)] at hs
      exact hk _ _ _ _ _ _ _ _ hs hI'
    · dsimp only [ab_br] at hs
      rw [if_neg (fun q2 => q ((ar_le' hy hz).mpr q2))] at hs
      exact hk _ _ _ _ _ _ _ _ hs hI'
  · refine lv_if_gt (tgt := a) hx hb hd (by omega) (fun q => ?_) (fun q => ?_)
    · dsimp only [ab_br] at hs
      rw [if_pos ((ar_lt' hy hz).mp q)] at hs
      exact hk _ _ _ _ _ _ _ _ hs hI'
    · dsimp only [ab_br] at hs
      rw [if_neg (fun q2 => q ((ar_lt' hy hz).mpr q2))] at hs
      exact hk _ _ _ _ _ _ _ _ hs hI'
  · refine lv_if_le (tgt := a) hx hb hd (by omega) (fun q => ?_) (fun q => ?_)
    · dsimp only [ab_br] at hs
      rw [if_pos ((ar_le' hz hy).mp q)] at hs
      exact hk _ _ _ _ _ _ _ _ hs hI'
    · dsimp only [ab_br] at hs
      rw [if_neg (fun q2 => q ((ar_le' hz hy).mpr q2))] at hs
      exact hk _ _ _ _ _ _ _ _ hs hI'
theorem sp_icmp {cd : ClassFile.Cond} {n : Int} (hx : p.tables.exec = Jvm.exec) (hb : c.code = cc) (hown : s.vm.findClass own = some m.cls) (hw : ∀ w ∈ lw_good, w.before args s = true) (hc : ab_chk own cc rt init pc (.if_icmp cd n, nx, a, b, x) hi hp = true) (hs : ab_stp T Y cal (.if_icmp cd n, nx, a, b, x) L S h k = some r) (hI : IV s G sa A nL ac0 ac h L S H locs ls) (hk : KK p l e R s m args below meth c Q G sa A nL ce sl ac0 k r) : W p l e R s m args below meth c H locs (ce h.1) (sl h.1) Q (F0 m pc ls (S.map (cv sa ac h.1))) := by
  dsimp only [ab_stp] at hs
  dsimp only [ab_chk] at hc
  obtain ⟨y, S1, e9, h9⟩ := i1_some hs
  clear hs
  subst e9
  have hs := h9
  clear h9
  obtain ⟨z, S2, e9, h9⟩ := i1_some hs
  clear hs
  subst e9
  have hs := h9
  clear h9
  obtain ⟨hd, rfl⟩ := of_decide_eq_true hc
  have hy : in32 y := in_ok (cs_hd hI.ok)
  have hz : in32 z := in_ok (cs_hd (cs_tl hI.ok))
  have hI' := hI.st (cs_tl (cs_tl hI.ok))
  cases cd
  · refine lv_icmp_eq (tgt := a) hx hb hd (by omega) (fun q => ?_) (fun q => ?_)
    · dsimp only [ab_br] at hs
      rw [if_pos ((ar_eq' hz hy).mp q)] at hs
      exact hk _ _ _ _ _ _ _ _ hs hI'
    · dsimp only [ab_br] at hs
      rw [if_neg (fun q2 => q ((ar_eq' hz hy).mpr q2))] at hs
      exact hk _ _ _ _ _ _ _ _ hs hI'
  · refine lv_icmp_ne (tgt := a) hx hb hd (by omega) (fun q => ?_) (fun q => ?_)
    · dsimp only [ab_br] at hs
      rw [if_pos ((not_congr (ar_eq' hz hy)).mp q)] at hs
      exact hk _ _ _ _ _ _ _ _ hs hI'
    · dsimp only [ab_br] at hs
      rw [if_neg (fun q2 => q2 ((ar_eq' hz hy).mp q))] at hs
      exact hk _ _ _ _ _ _ _ _ hs hI'
  · refine lv_icmp_lt (tgt := a) hx hb hd (by omega) (fun q => ?_) (fun q => ?_)
    · dsimp only [ab_br] at hs
      rw [if_pos ((ar_lt' hz hy).mp q)] at hs
      exact hk _ _ _ _ _ _ _ _ hs hI'
    · dsimp only [ab_br] at hs
      rw [if_neg (fun q2 => q ((ar_lt' hz hy).mpr q2))] at hs
      exact hk _ _ _ _ _ _ _ _ hs hI'
  · refine lv_icmp_ge (tgt := a) hx hb hd (by omega) (fun q => ?_) (fun q => ?_)
    · dsimp only [ab_br] at hs
      rw [if_pos ((ar_le' hy hz).mp q)] at hs
      exact hk _ _ _ _ _ _ _ _ hs hI'
    · dsimp only [ab_br] at hs
      rw [if_neg (fun q2 => q ((ar_le' hy hz).mpr q2))] at hs
      exact hk _ _ _ _ _ _ _ _ hs hI'
  · refine lv_icmp_gt (tgt := a) hx hb hd (by omega) (fun q => ?_) (fun q => ?_)
    · dsimp only [ab_br] at hs
      rw [if_pos ((ar_lt' hy hz).mp q)] at hs
      exact hk _ _ _ _ _ _ _ _ hs hI'
    · dsimp only [ab_br] at hs
      rw [if_neg (fun q2 => q ((ar_lt' hy hz).mpr q2))] at hs
      exact hk _ _ _ _ _ _ _ _ hs hI'
  · refine lv_icmp_le (tgt := a) hx hb hd (by omega) (fun q => ?_) (fun q => ?_)
    · dsimp only [ab_br] at hs
      rw [if_pos ((ar_le' hz hy).mp q)] at hs
      exact hk _ _ _ _ _ _ _ _ hs hI'
    · dsimp only [ab_br] at hs
      rw [if_neg (fun q2 => q ((ar_le' hz hy).mpr q2))] at hs
      exact hk _ _ _ _ _ _ _ _ hs hI'
end
end
section
section
variable {p : Program} {l : Launch} {e : Env} {R : Room} {s : State} {m : MethodId} {args : Array Value} {below : List Frame} {meth : Method} {c : Code} {Q : State → Prop} {H : Heap} {locs : List Loc} {ls : Array Slot}
variable {cc : ByteArray} {own : String} {nL : Nat} {G : va_G} {sa : Nat → Nat} {A : Nat → Prop} {X : Nat × (Nat → Int)} {ce sl : List (Nat × Nat) → Nat} {ac0 ac : List (Nat × ClassId)}
variable {rt : Option FieldType} {init : Bool} {pc nx a b hi hp : Nat} {x : Int} {T : ab_T} {Y : ab_X} {cal : ab_C} {L S : List ab_V} {h : ab_H} {k : ab_K} {r : ab_R}

theorem tg_obj : ∀ t, t < 13 → (ab_tg t).1 = 0 ∧ ab_nf t = (ab_cls t).2.2 := by decide +kernel
theorem cls_at {t : Nat} (ht : t < 13) : classes[t]? = some (ab_cls t) := by
  have hl : t < classes.length := ht
  unfold ab_cls
  rw [List.getD_eq_getElem?_getD, List.getElem?_eq_getElem hl]
  rfl
set_option maxRecDepth 100000 in
theorem cls_ws : ∀ t, t < 13 → (u_ws (ab_cls t).1 (ab_cls t).2.1 (ab_cls t).2.2).all (fun w => decide (w ∈ lw_tbl) && goodWord w) = true := by decide +kernel
theorem cls_in {t : Nat} (ht : t < 13) : ∀ w ∈ u_ws (ab_cls t).1 (ab_cls t).2.1 (ab_cls t).2.2, w ∈ lw_good := fun w h9 => by
  have q := List.all_eq_true.mp (cls_ws t ht) w h9
  rw [Bool.and_eq_true] at q
  exact List.mem_filter.mpr ⟨of_decide_eq_true q.1, q.2⟩
def fkOf (ty : FieldType) : Nat := match ty with
  | .int => 0
  | .boolean => 1
  | .long => 2
  | .object _ => 3
  | .array _ => 3
  | _ => 9
theorem cls_fk : ∀ t, t < 13 → ∀ k, k < (ab_cls t).2.2 → (parseFieldDescriptor ((ab_cls t).2.1 k).2.2.1).map fkOf = some (ab_fk t k) := by decide +kernel
theorem fk_le : ∀ t, t < 13 → ∀ k, k < (ab_cls t).2.2 → ab_fk t k ≤ 3 := by decide +kernel
theorem cls_nm : ∀ t, t < 13 → ∀ k, k < (ab_cls t).2.2 → ∀ k', k' < (ab_cls t).2.2 → k ≠ k' → ((ab_cls t).2.1 k).2.1 ≠ ((ab_cls t).2.1 k').2.1 := by decide +kernel
def cls_ty (t k : Nat) : FieldType := (parseFieldDescriptor ((ab_cls t).2.1 k).2.2.1).getD .int
theorem cls_tyok {t : Nat} (ht : t < 13) : ∀ k, k < (ab_cls t).2.2 → parseFieldDescriptor ((ab_cls t).2.1 k).2.2.1 = some (cls_ty t k) := fun k hk => by
  have q := cls_fk t ht k hk
  unfold cls_ty
  cases hp : parseFieldDescriptor ((ab_cls t).2.1 k).2.2.1 with
  | none => rw [hp] at q; cases q
  | some ty => rfl
theorem cls_fkt {t k : Nat} (ht : t < 13) (hk : k < (ab_cls t).2.2) : fkOf (cls_ty t k) = ab_fk t k := by
  have q := cls_fk t ht k hk
  rw [cls_tyok ht k hk] at q
  exact Option.some.inj q
theorem en_obj {cA : ClassId} {q : Nat × Nat} (ht : q.1 < 13) : en ac h cA q = .inr (q.1, (List.range (ab_cls q.1).2.2).map (fvl ac h q)) := by
  unfold en
  rw [(tg_obj q.1 ht).1, (tg_obj q.1 ht).2]
  rfl
theorem fs_get {n k : Nat} {f : Nat → Value} (hk : k < n) : ((List.range n).map f)[k]? = some (f k) := by
  rw [List.getElem?_map, List.getElem?_range hk]
  rfl
theorem fs_set {n k : Nat} {f g : Nat → Value} (hk : k < n) (hfg : ∀ j, j ≠ k → g j = f j) : ((List.range n).map f).set k (g k) = (List.range n).map g := by
  apply List.ext_getElem?
  intro j
  by_cases hj : j = k
  · subst hj
    rw [List.getElem?_set_self (by rw [List.length_map, List.length_range]; exact hk), fs_get hk]
  · rw [List.getElem?_set_ne (Ne.symm hj), List.getElem?_map, List.getElem?_map]
    by_cases hl : j < n
    · rw [List.getElem?_range hl]
      show some (f j) = some (g j)
      rw [hfg j hj]
    · rw [List.getElem?_eq_none_iff.mpr (by rw [List.length_range]; omega)]
      rfl
theorem u3_s {α : Type} {D : Nat → Nat → Nat → α} {t i k : Nat} {v : α} : u3 D t i k v t i k = v := if_pos ⟨rfl, rfl, rfl⟩
theorem u3_n {α : Type} {D : Nat → Nat → Nat → α} {t i k t' i' k' : Nat} {v : α} (hn : ¬ (t' = t ∧ i' = i ∧ k' = k)) : u3 D t i k v t' i' k' = D t' i' k' := if_neg hn
theorem en_D {cA : ClassId} {q q' : Nat × Nat} {k9 : Nat} {y : Int} (hq : q' ≠ q) : en ac (h.1, h.2.1, u3 h.2.2 q.1 q.2 k9 y) cA q' = en ac h cA q' := by
  have e9 : ∀ j, u3 h.2.2 q.1 q.2 k9 y q'.1 q'.2 j = h.2.2 q'.1 q'.2 j := fun j => u3_n (fun z => hq (Prod.ext z.1 z.2.1))
  unfold en fvl
  simp only [e9]
theorem en_R {cA : ClassId} {q q' q2 : Nat × Nat} {k9 : Nat} (hq : q' ≠ q) : en ac (h.1, u3 h.2.1 q.1 q.2 k9 (some q2), h.2.2) cA q' = en ac h cA q' := by
  have e9 : ∀ j, u3 h.2.1 q.1 q.2 k9 (some q2) q'.1 q'.2 j = h.2.1 q'.1 q'.2 j := fun j => u3_n (fun z => hq (Prod.ext z.1 z.2.1))
  unfold en fvl
  simp only [e9]
/-- a number was written: the world goes on -/
theorem WD.putD {U : State} (w : WD G ac h A U H) {q : Nat × Nat} (hq : q ∈ h.1) {k9 : Nat} {y : Int} (hy : rgk (kk q.1 k9) y) {cA : ClassId} (hc : ac[h.1.idxOf q]? = some (cvA ac h.1 q, cA)) {H1 : Heap} (hP : va_P G classes ((wsl ac h).set (h.1.idxOf q) (cvA ac h.1 q, en ac (h.1, h.2.1, u3 h.2.2 q.1 q.2 k9 y) cA q)) H1) (hD : va_D A ((wsl ac h).set (h.1.idxOf q) (cvA ac h.1 q, en ac (h.1, h.2.1, u3 h.2.2 q.1 q.2 k9 y) cA q))) : WD G ac (h.1, h.2.1, u3 h.2.2 q.1 q.2 k9 y) A U H1 := by
  obtain ⟨w1, w2, w3, w4, w5, w6, w7, w8⟩ := w
  obtain ⟨cA', e1, -⟩ := al_pos w1 hq
  rw [wsl_set (h' := (h.1, h.2.1, u3 h.2.2 q.1 q.2 k9 y)) w1 w2 rfl e1 hc (fun q' c9 hn => en_D hn)] at hP hD
  refine ⟨w1, w2, hP, hD, w5, w6, fun q' hq' k' => ?_, w8⟩
  show rgk (kk q'.1 k') (u3 h.2.2 q.1 q.2 k9 y q'.1 q'.2 k')
  by_cases hn : q'.1 = q.1 ∧ q'.2 = q.2 ∧ k' = k9
  · obtain ⟨n1, n2, n3⟩ := hn
    rw [n1, n2, n3, u3_s]
    exact hy
  · rw [u3_n hn]
    exact w7 q' hq' k'
theorem WD.putR {U : State} (w : WD G ac h A U H) {q q2 : Nat × Nat} (hq : q ∈ h.1) (hq2 : q2 ∈ h.1) {k9 : Nat} {cA : ClassId} (hc : ac[h.1.idxOf q]? = some (cvA ac h.1 q, cA)) {H1 : Heap} (hP : va_P G classes ((wsl ac h).set (h.1.idxOf q) (cvA ac h.1 q, en ac (h.1, u3 h.2.1 q.1 q.2 k9 (some q2), h.2.2) cA q)) H1) (hD : va_D A ((wsl ac h).set (h.1.idxOf q) (cvA ac h.1 q, en ac (h.1, u3 h.2.1 q.1 q.2 k9 (some q2), h.2.2) cA q))) : WD G ac (h.1, u3 h.2.1 q.1 q.2 k9 (some q2), h.2.2) A U H1 := by
  obtain ⟨w1, w2, w3, w4, w5, w6, w7, w8⟩ := w
  obtain ⟨cA', e1, -⟩ := al_pos w1 hq
  rw [wsl_set (h' := (h.1, u3 h.2.1 q.1 q.2 k9 (some q2), h.2.2)) w1 w2 rfl e1 hc (fun q' c9 hn => en_R hn)] at hP hD
  refine ⟨w1, w2, hP, hD, w5, w6, w7, fun q' hq' k' q3 hq3 => ?_⟩
  have hq3 : u3 h.2.1 q.1 q.2 k9 (some q2) q'.1 q'.2 k' = some q3 := hq3
  by_cases hn : q'.1 = q.1 ∧ q'.2 = q.2 ∧ k' = k9
  · obtain ⟨n1, n2, n3⟩ := hn
    rw [n1, n2, n3, u3_s] at hq3
    cases hq3
    exact hq2
  · rw [u3_n hn] at hq3
    exact w8 q' hq' k' q3 hq3
theorem kk_obj {t k9 : Nat} (ht : t < 13) : kk t k9 = ab_fk t k9 := by
  unfold kk
  rw [(tg_obj t ht).1]
  rfl
theorem rf_some {q : Option (Nat × Nat)} {f : Nat → Nat → Option ab_R} (h9 : ab_rf q f = some r) : ∃ q', q = some q' ∧ f q'.1 q'.2 = some r := by
  unfold ab_rf at h9
  split at h9
  · exact ⟨_, rfl, h9⟩
  · cases h9

end
end
section
section
variable {p : Program} {l : Launch} {e : Env} {R : Room} {s : State} {m : MethodId} {args : Array Value} {below : List Frame} {meth : Method} {c : Code} {Q : State → Prop} {H : Heap} {locs : List Loc} {ls : Array Slot}
variable {cc : ByteArray} {own : String} {nL : Nat} {G : va_G} {sa : Nat → Nat} {A : Nat → Prop} {X : Nat × (Nat → Int)} {ce sl : List (Nat × Nat) → Nat} {ac0 ac : List (Nat × ClassId)}
variable {rt : Option FieldType} {init : Bool} {pc nx a b hi hp : Nat} {x : Int} {T : ab_T} {Y : ab_X} {cal : ab_C} {L S : List ab_V} {h : ab_H} {k : ab_K} {r : ab_R}

theorem sp_getfield {n : Nat} (hx : p.tables.exec = Jvm.exec) (hb : c.code = cc) (hown : s.vm.findClass own = some m.cls) (hw : ∀ w ∈ lw_good, w.before args s = true) (hc : ab_chk own cc rt init pc (.getfield n, nx, a, b, x) hi hp = true) (hs : ab_stp T Y cal (.getfield n, nx, a, b, x) L S h k = some r) (hI : IV s G sa A nL ac0 ac h L S H locs ls) (hk : KK p l e R s m args below meth c Q G sa A nL ce sl ac0 k r) : W p l e R s m args below meth c H locs (ce h.1) (sl h.1) Q (F0 m pc ls (S.map (cv sa ac h.1))) := by
  dsimp only [ab_stp] at hs
  dsimp only [ab_chk] at hc
  obtain ⟨t, i, S1, e9, h9⟩ := r1_some hs
  clear hs
  subst e9
  have hs := h9
  clear h9
  obtain ⟨hb1, h9⟩ := beq_some hs
  clear hs
  have hs := h9
  clear h9
  have hta : t = a := Nat.eq_of_beq_eq_true hb1
  subst hta
  obtain ⟨hd, rfl, ht, hbN, rfl, hlk⟩ := of_decide_eq_true hc
  have hq : (t, i) ∈ h.1 := cs_hd hI.ok
  obtain ⟨w1, w2, w3, w4, w5, w6, w7, w8⟩ := hI.2.1
  obtain ⟨cA, p1, p2⟩ := al_pos w1 hq
  have he := wsl_get p1 p2
  rw [en_obj (q := (t, i)) ht] at he
  refine va_get hx hb hw (cls_in ht) hown w5 w3 _ he (cls_at ht) b hbN (hw _ (wd_in hlk rfl)) (fun _ z => z) (fs_get hbN) hd ?_
  have hrg := w7 (t, i) hq b
  rw [kk_obj ht] at hrg
  have hrf := w8 (t, i) hq b
  unfold fvl
  dsimp only at hrg hrf ⊢
  have hle : ab_fk t b = 0 ∨ ab_fk t b = 1 ∨ ab_fk t b = 2 ∨ ab_fk t b = 3 := by have := fk_le t ht b hbN; omega
  rcases hle with e9 | e9 | e9 | e9 <;> rw [e9] at hs hrg ⊢
  · exact hk _ _ _ _ _ _ _ _ hs (hI.st (cs_ok (show in32 _ from hrg) (cs_tl hI.ok)))
  · exact hk _ _ _ _ _ _ _ _ hs (hI.st (cs_ok (show in32 _ by rcases hrg with z | z <;> rw [z] <;> decide) (cs_tl hI.ok)))
  · exact hk _ _ _ _ _ _ _ _ hs (hI.st (cs_ok (show in64 _ from hrg) (cs_tl hI.ok)))
  · obtain ⟨q', hq', hs⟩ := rf_some hs
    rw [hq']
    exact hk _ _ _ _ _ _ _ _ hs (hI.st (cs_ok (show _ ∈ _ from hrf q' hq') (cs_tl hI.ok)))
theorem fk0 {ty : FieldType} (h9 : fkOf ty = 0) : ty = .int := by cases ty <;> first | rfl | cases h9
theorem fk1 {ty : FieldType} (h9 : fkOf ty = 1) : ty = .boolean := by cases ty <;> first | rfl | cases h9
theorem fk2 {ty : FieldType} (h9 : fkOf ty = 2) : ty = .long := by cases ty <;> first | rfl | cases h9
theorem fk3 {ty : FieldType} (h9 : fkOf ty = 3) : (∃ n, ty = .object n) ∨ ∃ t, ty = .array t := by cases ty <;> first | exact Or.inl ⟨_, rfl⟩ | exact Or.inr ⟨_, rfl⟩ | cases h9
/-- a field is written -/
theorem pf_row (hx : p.tables.exec = Jvm.exec) (hb : c.code = cc) (hown : s.vm.findClass own = some m.cls) (hw : ∀ w ∈ lw_good, w.before args s = true) (hin : init = true → meth.name = "<init>") (ht : a < 13) (hbN : b < (ab_cls a).2.2) (hd : decode cc pc = .ok (.putfield hi, 3)) (hfin : ((ab_cls a).2.1 b).2.2.2 = false ∨ (((ab_cls a).2.1 b).2.2.2 = true ∧ init = true ∧ ((ab_cls a).2.1 b).1 = own)) (hlk : lw_tbl[hp]? = some (.fieldLink own hi ((ab_cls a).2.1 b).1 ((ab_cls a).2.1 b).2.1 ((ab_cls a).2.1 b).2.2.1)) {i : Nat} (hq : (a, i) ∈ h.1) (wd : WD G ac h A s H) (hS : va_S A s.heap H locs) {v : Value} {h' : ab_H} {cells slots : Nat} {rest : List Value} (hv : fvl ac h' (a, i) b = v) (hoth : ∀ j, j ≠ b → fvl ac h' (a, i) j = fvl ac h (a, i) j) (hn : narrow (cls_ty a b) v = v) (hfit : fits (cls_ty a b) v = true)
    (kk : ∀ (cA : ClassId) (H1 : Heap) (locs1 : List Loc), ac[h.1.idxOf (a, i)]? = some (cvA ac h.1 (a, i), cA) → va_P G classes ((wsl ac h).set (h.1.idxOf (a, i)) (cvA ac h.1 (a, i), en ac h' cA (a, i))) H1 → va_D A ((wsl ac h).set (h.1.idxOf (a, i)) (cvA ac h.1 (a, i), en ac h' cA (a, i))) → va_S A s.heap H1 locs1 → W p l e R s m args below meth c H1 locs1 cells slots Q (F0 m (pc + 3) ls rest)) : W p l e R s m args below meth c H locs cells slots Q (F0 m pc ls (v :: .ref (cvA ac h.1 (a, i)) :: rest)) := by
  obtain ⟨w1, w2, w3, w4, w5, w6, w7, w8⟩ := wd
  obtain ⟨cA, p1, p2⟩ := al_pos w1 hq
  have he := wsl_get p1 p2
  rw [en_obj (q := (a, i)) ht] at he
  have e1 : en ac h' cA (a, i) = .inr (a, ((List.range (ab_cls a).2.2).map (fvl ac h (a, i))).set b v) := by
    rw [en_obj (q := (a, i)) ht, ← hv, fs_set hbN hoth]
  have fin := kk cA
  rw [e1] at fin
  have hl : b < ((List.range (ab_cls a).2.2).map (fvl ac h (a, i))).length := by rw [List.length_map, List.length_range]; exact hbN
  rcases hfin with hf | ⟨hf, hi9, hdec⟩
  · exact va_put hx hb hw (cls_in ht) (cls_ty a) (cls_tyok ht) (cls_nm a ht) hown w5 w3 w4 hS _ he (cls_at ht) b hbN (hw _ (wd_in hlk rfl)) (fun _ z => z) hf (cls_tyok ht b hbN) hn hfit hl hd (fun H1 locs1 q1 q2 q3 => fin H1 locs1 p2 q1 q2 q3)
  · exact va_putF hx hb hw (cls_in ht) (cls_ty a) (cls_tyok ht) (cls_nm a ht) hown w5 w3 w4 hS _ he (cls_at ht) b hbN (hw _ (wd_in hlk rfl)) (fun _ z => z) hf (hin hi9) hdec (cls_tyok ht b hbN) hn hfit hl hd (fun H1 locs1 q1 q2 q3 => fin H1 locs1 p2 q1 q2 q3)
theorem fv_D {q : Nat × Nat} {k9 j : Nat} {y : Int} (hj : j ≠ k9) : fvl ac (h.1, h.2.1, u3 h.2.2 q.1 q.2 k9 y) q j = fvl ac h q j := by
  have e9 : u3 h.2.2 q.1 q.2 k9 y q.1 q.2 j = h.2.2 q.1 q.2 j := u3_n (fun z => hj z.2.2)
  unfold fvl
  simp only [e9]
theorem fv_R {q q2 : Nat × Nat} {k9 j : Nat} (hj : j ≠ k9) : fvl ac (h.1, u3 h.2.1 q.1 q.2 k9 (some q2), h.2.2) q j = fvl ac h q j := by
  have e9 : u3 h.2.1 q.1 q.2 k9 (some q2) q.1 q.2 j = h.2.1 q.1 q.2 j := u3_n (fun z => hj z.2.2)
  unfold fvl
  simp only [e9]
theorem fv_Ds {q : Nat × Nat} {k9 : Nat} {y : Int} (hf : ab_fk q.1 k9 = 0 ∨ ab_fk q.1 k9 = 1) : fvl ac (h.1, h.2.1, u3 h.2.2 q.1 q.2 k9 y) q k9 = .int (Int32.ofInt y) := by
  unfold fvl
  simp only [u3_s]
  rcases hf with e9 | e9 <;> rw [e9] <;> rfl
theorem fv_Dl {q : Nat × Nat} {k9 : Nat} {y : Int} (hf : ab_fk q.1 k9 = 2) : fvl ac (h.1, h.2.1, u3 h.2.2 q.1 q.2 k9 y) q k9 = .long (Int64.ofInt y) := by
  unfold fvl
  simp only [u3_s]
  rw [hf]
  rfl
theorem fv_Rs {q q2 : Nat × Nat} {k9 : Nat} (hf : ab_fk q.1 k9 = 3) : fvl ac (h.1, u3 h.2.1 q.1 q.2 k9 (some q2), h.2.2) q k9 = .ref (cvA ac h.1 q2) := by
  unfold fvl
  simp only [u3_s]
  rw [hf]
  rfl
theorem IV.go {h' : ab_H} {S' : List ab_V} {H1 : Heap} {locs1 : List Loc} (hI : IV s G sa A nL ac0 ac h L S H locs ls) (ha : h'.1 = h.1) (wd : WD G ac h' A s H1) (hS : va_S A s.heap H1 locs1) (hS' : ∀ v ∈ S', okv h.1 v) : IV s G sa A nL ac0 ac h' L S' H1 locs1 ls := by
  obtain ⟨i1, i2, i3, i4, i5, i6⟩ := hI
  exact ⟨i1, wd, hS, by rw [ha]; exact i4, by rw [ha]; exact i5, by rw [ha]; exact hS'⟩

theorem sp_putfield {n : Nat} (hx : p.tables.exec = Jvm.exec) (hb : c.code = cc) (hown : s.vm.findClass own = some m.cls) (hw : ∀ w ∈ lw_good, w.before args s = true) (hin : init = true → meth.name = "<init>") (hc : ab_chk own cc rt init pc (.putfield n, nx, a, b, x) hi hp = true) (hs : ab_stp T Y cal (.putfield n, nx, a, b, x) L S h k = some r) (hI : IV s G sa A nL ac0 ac h L S H locs ls) (hk : KK p l e R s m args below meth c Q G sa A nL ce sl ac0 k r) : W p l e R s m args below meth c H locs (ce h.1) (sl h.1) Q (F0 m pc ls (S.map (cv sa ac h.1))) := by
  dsimp only [ab_stp] at hs
  dsimp only [ab_chk] at hc
  obtain ⟨hd, rfl, ht, hbN, rfl, hfin, hlk⟩ := of_decide_eq_true hc
  have hle : ab_fk a b = 0 ∨ ab_fk a b = 1 ∨ ab_fk a b = 2 ∨ ab_fk a b = 3 := by have := fk_le a ht b hbN; omega
  rcases hle with e9 | e9 | e9 | e9 <;> rw [e9] at hs
  · obtain ⟨y, S1, e9, h9⟩ := i1_some hs
    clear hs
    subst e9
    have hs := h9
    clear h9
    obtain ⟨t, i, S2, e9, h9⟩ := r1_some hs
    clear hs
    subst e9
    have hs := h9
    clear h9
    obtain ⟨hb1, h9⟩ := beq_some hs
    clear hs
    have hs := h9
    clear h9
    have hta : t = a := Nat.eq_of_beq_eq_true hb1
    subst hta
    have hq : (t, i) ∈ h.1 := cs_hd (cs_tl hI.ok)
    have hfk := (cls_fkt ht hbN).trans e9
    refine pf_row (h' := (h.1, h.2.1, u3 h.2.2 t i b y)) hx hb hown hw hin ht hbN hd hfin hlk hq hI.2.1 hI.2.2.1 (fv_Ds (q := (t, i)) (Or.inl e9)) (fun j hj => fv_D (q := (t, i)) hj) (by rw [fk0 hfk]; rfl) (by rw [fk0 hfk]; rfl) fun cA H1 locs1 q0 q1 q2 q3 => ?_
    have hr : rgk (kk t b) y := by rw [kk_obj ht, e9]; exact show in32 y from cs_hd hI.ok
    have z9 := hk _ _ _ _ _ _ _ _ hs (hI.go (h' := (h.1, h.2.1, u3 h.2.2 t i b y)) rfl (hI.2.1.putD (q := (t, i)) hq hr q0 q1 q2) q3 (cs_tl (cs_tl hI.ok)))
    exact z9
  · obtain ⟨y, S1, e9, h9⟩ := i1_some hs
    clear hs
    subst e9
    have hs := h9
    clear h9
    obtain ⟨t, i, S2, e9, h9⟩ := r1_some hs
    clear hs
    subst e9
    have hs := h9
    clear h9
    obtain ⟨hb1, h9⟩ := beq_some hs
    clear hs
    have hs := h9
    clear h9
    have hta : t = a := Nat.eq_of_beq_eq_true hb1
    subst hta
    obtain ⟨hz, h9⟩ := ite_some hs
    clear hs
    have hs := h9
    clear h9
    have hq : (t, i) ∈ h.1 := cs_hd (cs_tl hI.ok)
    have hfk := (cls_fkt ht hbN).trans e9
    refine pf_row (h' := (h.1, h.2.1, u3 h.2.2 t i b y)) hx hb hown hw hin ht hbN hd hfin hlk hq hI.2.1 hI.2.2.1 (fv_Ds (q := (t, i)) (Or.inr e9)) (fun j hj => fv_D (q := (t, i)) hj) (by rw [fk1 hfk]; rcases hz with z | z <;> rw [z] <;> rfl) (by rw [fk1 hfk]; rcases hz with z | z <;> rw [z] <;> rfl) fun cA H1 locs1 q0 q1 q2 q3 => ?_
    have hr : rgk (kk t b) y := by rw [kk_obj ht, e9]; exact hz
    have z9 := hk _ _ _ _ _ _ _ _ hs (hI.go (h' := (h.1, h.2.1, u3 h.2.2 t i b y)) rfl (hI.2.1.putD (q := (t, i)) hq hr q0 q1 q2) q3 (cs_tl (cs_tl hI.ok)))
    exact z9
  · obtain ⟨y, S1, e9, h9⟩ := l1_some hs
    clear hs
    subst e9
    have hs := h9
    clear h9
    obtain ⟨t, i, S2, e9, h9⟩ := r1_some hs
    clear hs
    subst e9
    have hs := h9
    clear h9
    obtain ⟨hb1, h9⟩ := beq_some hs
    clear hs
    have hs := h9
    clear h9
    have hta : t = a := Nat.eq_of_beq_eq_true hb1
    subst hta
    have hq : (t, i) ∈ h.1 := cs_hd (cs_tl hI.ok)
    have hfk := (cls_fkt ht hbN).trans e9
    refine pf_row (h' := (h.1, h.2.1, u3 h.2.2 t i b y)) hx hb hown hw hin ht hbN hd hfin hlk hq hI.2.1 hI.2.2.1 (fv_Dl (q := (t, i)) e9) (fun j hj => fv_D (q := (t, i)) hj) (by rw [fk2 hfk]; rfl) (by rw [fk2 hfk]; rfl) fun cA H1 locs1 q0 q1 q2 q3 => ?_
    have hr : rgk (kk t b) y := by rw [kk_obj ht, e9]; exact show in64 y from cs_hd hI.ok
    have z9 := hk _ _ _ _ _ _ _ _ hs (hI.go (h' := (h.1, h.2.1, u3 h.2.2 t i b y)) rfl (hI.2.1.putD (q := (t, i)) hq hr q0 q1 q2) q3 (cs_tl (cs_tl hI.ok)))
    exact z9
  · obtain ⟨t', i', S1, e9, h9⟩ := r1_some hs
    clear hs
    subst e9
    have hs := h9
    clear h9
    obtain ⟨t, i, S2, e9, h9⟩ := r1_some hs
    clear hs
    subst e9
    have hs := h9
    clear h9
    obtain ⟨hb1, h9⟩ := beq_some hs
    clear hs
    have hs := h9
    clear h9
    have hta : t = a := Nat.eq_of_beq_eq_true hb1
    subst hta
    have hq : (t, i) ∈ h.1 := cs_hd (cs_tl hI.ok)
    have hq2 : (t', i') ∈ h.1 := cs_hd hI.ok
    have hfk := (cls_fkt ht hbN).trans e9
    refine pf_row (h' := (h.1, u3 h.2.1 t i b (some (t', i')), h.2.2)) hx hb hown hw hin ht hbN hd hfin hlk hq hI.2.1 hI.2.2.1 (fv_Rs (q := (t, i)) e9) (fun j hj => fv_R (q := (t, i)) hj) (by rcases fk3 hfk with ⟨n9, z⟩ | ⟨n9, z⟩ <;> rw [z] <;> rfl) (by rcases fk3 hfk with ⟨n9, z⟩ | ⟨n9, z⟩ <;> rw [z] <;> rfl) fun cA H1 locs1 q0 q1 q2 q3 => ?_
    have z9 := hk _ _ _ _ _ _ _ _ hs (hI.go (h' := (h.1, u3 h.2.1 t i b (some (t', i')), h.2.2)) rfl (hI.2.1.putR (q := (t, i)) (q2 := (t', i')) hq hq2 q0 q1 q2) q3 (cs_tl (cs_tl hI.ok)))
    exact z9
end
end
