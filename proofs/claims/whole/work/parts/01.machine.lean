/-! AN ABSTRACT MACHINE: values are integers and places, the heap is a table, a method's run is a function. -/
section
/-- a value: an int, a long, a place (tag, number), a text constant (or the script), nothing -/
abbrev ab_V : Type := Int ⊕ (Int ⊕ ((Nat × Nat) ⊕ (Nat ⊕ Unit)))
abbrev vI (x : Int) : ab_V := .inl x
abbrev vL (x : Int) : ab_V := .inr (.inl x)
abbrev vR (t i : Nat) : ab_V := .inr (.inr (.inl (t, i)))
abbrev vS (j : Nat) : ab_V := .inr (.inr (.inr (.inl j)))
abbrev vU : ab_V := .inr (.inr (.inr (.inr ())))
/-- what was made, in order; the places that fields and rows name; the numbers -/
abbrev ab_H : Type := List (Nat × Nat) × (Nat → Nat → Nat → Option (Nat × Nat)) × (Nat → Nat → Nat → Int)
abbrev ab_R : Type := Option ab_V × ab_H
/-- an instruction in a few forms: what, the next place, two numbers, an int -/
abbrev ab_E : Type := Instr × Nat × Nat × Nat × Int
def w32 (x : Int) : Int := (x + 2147483648) % 4294967296 - 2147483648
def w64 (x : Int) : Int := (x + 9223372036854775808) % 18446744073709551616 - 9223372036854775808
def w8 (x : Int) : Int := (x + 128) % 256 - 128
def w16 (x : Int) : Int := (x + 32768) % 65536 - 32768
def b_an (x y : Int) : Int := (BitVec.ofInt 32 x &&& BitVec.ofInt 32 y).toInt
def b_orr (x y : Int) : Int := (BitVec.ofInt 32 x ||| BitVec.ofInt 32 y).toInt
def b_xr (x y : Int) : Int := (BitVec.ofInt 32 x ^^^ BitVec.ofInt 32 y).toInt
def b_sl (x y : Int) : Int := w32 (x * 2 ^ (y % 32).toNat)
def b_sr (x y : Int) : Int := x / 2 ^ (y % 32).toNat
def b_us (x y : Int) : Int := w32 (x % 4294967296 / 2 ^ (y % 32).toNat)
def d_an (x y : Int) : Int := (BitVec.ofInt 64 x &&& BitVec.ofInt 64 y).toInt
def d_orr (x y : Int) : Int := (BitVec.ofInt 64 x ||| BitVec.ofInt 64 y).toInt
def d_sl (x y : Int) : Int := w64 (x * 2 ^ (y % 64).toNat)
def d_us (x y : Int) : Int := w64 (x % 18446744073709551616 / 2 ^ (y % 64).toNat)
def d_cmp (x y : Int) : Int := if x < y then -1 else if x = y then 0 else 1
def u3 {α : Type} (D : Nat → Nat → Nat → α) (t i k : Nat) (v : α) : Nat → Nat → Nat → α := fun t' i' k' => if t' = t ∧ i' = i ∧ k' = k then v else D t' i' k'
def ab_i1 {α : Type} (S : List ab_V) (f : Int → List ab_V → Option α) : Option α := match S with
  | .inl x :: S => f x S
  | _ => none
def ab_l1 {α : Type} (S : List ab_V) (f : Int → List ab_V → Option α) : Option α := match S with
  | .inr (.inl x) :: S => f x S
  | _ => none
def ab_r1 {α : Type} (S : List ab_V) (f : Nat → Nat → List ab_V → Option α) : Option α := match S with
  | .inr (.inr (.inl q)) :: S => f q.1 q.2 S
  | _ => none
def ab_s1 {α : Type} (S : List ab_V) (f : Nat → List ab_V → Option α) : Option α := match S with
  | .inr (.inr (.inr (.inl j))) :: S => f j S
  | _ => none
/-- one of category 1 -/
def ab_c1 {α : Type} (S : List ab_V) (f : ab_V → List ab_V → Option α) : Option α := match S with
  | .inl x :: S => f (.inl x) S
  | .inr (.inr (.inl q)) :: S => f (.inr (.inr (.inl q))) S
  | _ => none
def ab_lo {α : Type} (L : List ab_V) (i : Nat) (f : ab_V → Option α) : Option α := match L[i]? with
  | some v => f v
  | none => none
/-- a store of category 1 at a local: a long that stood half there is gone -/
def ab_st (L : List ab_V) (i : Nat) (v : ab_V) : List ab_V := match i with
  | 0 => L.set 0 v
  | j + 1 => match L[j]? with
    | some (.inr (.inl _)) => (L.set j vU).set (j + 1) v
    | _ => L.set (j + 1) v
def ab_st2 (L : List ab_V) (i : Nat) (v : ab_V) : List ab_V := (ab_st L i v).set (i + 1) vU
def ab_br {α : Type} (c : ClassFile.Cond) (x y : Int) (p q : α) : α := match c with
  | .eq => if x = y then p else q
  | .ne => if x ≠ y then p else q
  | .lt => if x < y then p else q
  | .ge => if y ≤ x then p else q
  | .gt => if y < x then p else q
  | .le => if x ≤ y then p else q
abbrev ab_K : Type := Nat → List ab_V → List ab_V → ab_H → Option ab_R
abbrev ab_C : Type := Nat → List ab_V → ab_H → Option ab_R
/-- the texts: their signs; the script: how long, its ints -/
abbrev ab_X : Type := (Nat → List Nat) × Nat × (Nat → Int)
/-- tags: kind (0 an object, 1 ints, 2 bytes, 3 booleans, 4 longs, 5 places) and length -/
abbrev ab_T : Type := Nat → Nat × Nat
def ab_cnt (al : List (Nat × Nat)) (t : Nat) : Nat := (al.filter (fun q => q.1 == t)).length
def ab_new (h : ab_H) (t : Nat) : ab_H := (h.1 ++ [(t, ab_cnt h.1 t)], (fun t' i' k' => if t' = t ∧ i' = ab_cnt h.1 t then none else h.2.1 t' i' k'), fun t' i' k' => if t' = t ∧ i' = ab_cnt h.1 t then 0 else h.2.2 t' i' k')
def ab_cpy (h : ab_H) (t i : Nat) (sp : Int) (t2 i2 : Nat) (dp n : Int) : ab_H := (h.1, h.2.1, fun t' i' k' => if t' = t2 ∧ i' = i2 ∧ dp ≤ (k' : Int) ∧ (k' : Int) < dp + n then h.2.2 t i ((sp + ((k' : Int) - dp)).toNat) else h.2.2 t' i' k')
/-- so many values off the stack -/
def ab_pop {α : Type} : Nat → List ab_V → List ab_V → (List ab_V → List ab_V → Option α) → Option α
  | 0, S, acc, f => f acc S
  | n + 1, v :: S, acc, f => ab_pop n S (v :: acc) f
  | _ + 1, [], _, _ => none
def ab_cv (r : Option ab_R) (f : ab_H → Option ab_R) : Option ab_R := match r with
  | some (none, h) => f h
  | _ => none
def ab_ci (r : Option ab_R) (f : Int → ab_H → Option ab_R) : Option ab_R := match r with
  | some (some (.inl y), h) => f y h
  | _ => none
def ab_cl (r : Option ab_R) (f : Int → ab_H → Option ab_R) : Option ab_R := match r with
  | some (some (.inr (.inl y)), h) => f y h
  | _ => none
def ab_rf (q : Option (Nat × Nat)) (f : Nat → Nat → Option ab_R) : Option ab_R := match q with
  | some q => f q.1 q.2
  | none => none
def ab_sw {α : Type} : List (Int × Int) → Int → Nat → (Nat → α) → α
  | [], _, d, f => f d
  | (v, t) :: ps, y, d, f => if y = v then f t.toNat else ab_sw ps y d f
/-- the first of the arguments is a place of this tag -/
def ab_hd {α : Type} (as : List ab_V) (t : Nat) (r : Option α) : Option α := match as with
  | .inr (.inr (.inl q)) :: _ => match Nat.beq q.1 t with
    | true => r
    | false => none
  | _ => none
/-- how many words the stack takes -/
def ab_wt : List ab_V → Nat
  | [] => 0
  | .inr (.inl _) :: r => ab_wt r + 2
  | _ :: r => ab_wt r + 1
def ab_ret (x : Int) (r : Option ab_R) (k : ab_K) (nx : Nat) (L S : List ab_V) : Option ab_R := match Nat.ble (ab_wt S) 8 with
  | true => match x with
    | .ofNat 0 => ab_cv r fun h => k nx L S h
    | .ofNat 1 => ab_ci r fun y h => k nx L (vI y :: S) h
    | _ => ab_cl r fun y h => k nx L (vL y :: S) h
  | false => none
/-- one step; what comes behind it is k -/
def ab_stp (T : ab_T) (X : ab_X) (cal : ab_C) (e : ab_E) (L S : List ab_V) (h : ab_H) (k : ab_K) : Option ab_R :=
  match e with
  | (op, nx, a, b, x) => match op with
  | .iconst _ => k nx L (vI x :: S) h
  | .ldc2_w _ => k nx L (vL x :: S) h
  | .iload _ => ab_lo L a fun v => match v with
    | .inl y => k nx L (vI y :: S) h
    | _ => none
  | .lload _ => ab_lo L a fun v => match v with
    | .inr (.inl y) => k nx L (vL y :: S) h
    | _ => none
  | .aload _ => ab_lo L a fun v => match v with
    | .inr (.inr (.inl q)) => k nx L (vR q.1 q.2 :: S) h
    | .inr (.inr (.inr (.inl j))) => k nx L (vS j :: S) h
    | _ => none
  | .istore _ => ab_i1 S fun y S => match Nat.blt a L.length with
    | true => k nx (ab_st L a (vI y)) S h
    | false => none
  | .lstore _ => ab_l1 S fun y S => match Nat.blt (a + 1) L.length with
    | true => k nx (ab_st2 L a (vL y)) S h
    | false => none
  | .astore _ => ab_r1 S fun t i S => match Nat.blt a L.length with
    | true => k nx (ab_st L a (vR t i)) S h
    | false => none
  | .iinc _ _ => ab_lo L a fun v => match v with
    | .inl y => k nx (ab_st L a (vI (w32 (y + x)))) S h
    | _ => none
  | .iadd => ab_i1 S fun y S => ab_i1 S fun z S => k nx L (vI (w32 (z + y)) :: S) h
  | .isub => ab_i1 S fun y S => ab_i1 S fun z S => k nx L (vI (w32 (z - y)) :: S) h
  | .imul => ab_i1 S fun y S => ab_i1 S fun z S => k nx L (vI (w32 (z * y)) :: S) h
  | .idiv => ab_i1 S fun y S => ab_i1 S fun z S => if y = 0 then none else k nx L (vI (w32 (Int.tdiv z y)) :: S) h
  | .irem => ab_i1 S fun y S => ab_i1 S fun z S => if y = 0 then none else k nx L (vI (w32 (Int.tmod z y)) :: S) h
  | .ineg => ab_i1 S fun y S => k nx L (vI (w32 (-y)) :: S) h
  | .iand => ab_i1 S fun y S => ab_i1 S fun z S => k nx L (vI (b_an z y) :: S) h
  | .ior => ab_i1 S fun y S => ab_i1 S fun z S => k nx L (vI (b_orr z y) :: S) h
  | .ixor => ab_i1 S fun y S => ab_i1 S fun z S => k nx L (vI (b_xr z y) :: S) h
  | .ishl => ab_i1 S fun y S => ab_i1 S fun z S => k nx L (vI (b_sl z y) :: S) h
  | .ishr => ab_i1 S fun y S => ab_i1 S fun z S => k nx L (vI (b_sr z y) :: S) h
  | .iushr => ab_i1 S fun y S => ab_i1 S fun z S => k nx L (vI (b_us z y) :: S) h
  | .lsub => ab_l1 S fun y S => ab_l1 S fun z S => k nx L (vL (w64 (z - y)) :: S) h
  | .land => ab_l1 S fun y S => ab_l1 S fun z S => k nx L (vL (d_an z y) :: S) h
  | .lor => ab_l1 S fun y S => ab_l1 S fun z S => k nx L (vL (d_orr z y) :: S) h
  | .lshl => ab_i1 S fun y S => ab_l1 S fun z S => k nx L (vL (d_sl z y) :: S) h
  | .lushr => ab_i1 S fun y S => ab_l1 S fun z S => k nx L (vL (d_us z y) :: S) h
  | .lcmp => ab_l1 S fun y S => ab_l1 S fun z S => k nx L (vI (d_cmp z y) :: S) h
  | .i2l => ab_i1 S fun y S => k nx L (vL y :: S) h
  | .l2i => ab_l1 S fun y S => k nx L (vI (w32 y) :: S) h
  | .i2b => ab_i1 S fun y S => k nx L (vI (w8 y) :: S) h
  | .i2s => ab_i1 S fun y S => k nx L (vI (w16 y) :: S) h
  | .dup => ab_c1 S fun v S => k nx L (v :: v :: S) h
  | .dup2 => ab_c1 S fun v S => ab_c1 S fun w S => k nx L (v :: w :: v :: w :: S) h
  | .pop => ab_c1 S fun _ S => k nx L S h
  | .pop2 => ab_l1 S fun _ S => k nx L S h
  | .goto _ => k a L S h
  | .ifCond c _ => ab_i1 S fun y S => ab_br c y 0 (k a L S h) (k nx L S h)
  | .if_icmp c _ => ab_i1 S fun y S => ab_i1 S fun z S => ab_br c z y (k a L S h) (k nx L S h)
  | .lookupswitch _ ps => ab_i1 S fun y S => ab_sw ps.toList y a fun p => k p L S h
  | .getfield _ => ab_r1 S fun t i S => match Nat.beq t a with
    | true => match x with
      | .ofNat 2 => k nx L (vL (h.2.2 t i b) :: S) h
      | .ofNat 3 => ab_rf (h.2.1 t i b) fun t' i' => k nx L (vR t' i' :: S) h
      | _ => k nx L (vI (h.2.2 t i b) :: S) h
    | false => none
  | .putfield _ => match x with
    | .ofNat 0 => ab_i1 S fun y S => ab_r1 S fun t i S => match Nat.beq t a with
      | true => k nx L S (h.1, h.2.1, u3 h.2.2 t i b y)
      | false => none
    | .ofNat 1 => ab_i1 S fun y S => ab_r1 S fun t i S => match Nat.beq t a with
      | true => if y = 0 ∨ y = 1 then k nx L S (h.1, h.2.1, u3 h.2.2 t i b y) else none
      | false => none
    | .ofNat 2 => ab_l1 S fun y S => ab_r1 S fun t i S => match Nat.beq t a with
      | true => k nx L S (h.1, h.2.1, u3 h.2.2 t i b y)
      | false => none
    | _ => ab_r1 S fun t' i' S => ab_r1 S fun t i S => match Nat.beq t a with
      | true => k nx L S (h.1, u3 h.2.1 t i b (some (t', i')), h.2.2)
      | false => none
  | .iaload => ab_i1 S fun y S => match S with
    | .inr (.inr (.inl q)) :: S => match Nat.beq (T q.1).1 1 with
      | true => if 0 ≤ y ∧ y < ((T q.1).2 : Int) then k nx L (vI (h.2.2 q.1 q.2 y.toNat) :: S) h else none
      | false => none
    | .inr (.inr (.inr (.inl j))) :: S => match Nat.beq j 1000 with
      | true => if 0 ≤ y ∧ y < (X.2.1 : Int) then k nx L (vI (X.2.2 y.toNat) :: S) h else none
      | false => none
    | _ => none
  | .baload => ab_i1 S fun y S => ab_r1 S fun t i S => match Nat.beq (T t).1 2 || Nat.beq (T t).1 3 with
    | true => if 0 ≤ y ∧ y < ((T t).2 : Int) then k nx L (vI (h.2.2 t i y.toNat) :: S) h else none
    | false => none
  | .laload => ab_i1 S fun y S => ab_r1 S fun t i S => match Nat.beq (T t).1 4 with
    | true => if 0 ≤ y ∧ y < ((T t).2 : Int) then k nx L (vL (h.2.2 t i y.toNat) :: S) h else none
    | false => none
  | .aaload => ab_i1 S fun y S => ab_r1 S fun t i S => match Nat.beq (T t).1 5 with
    | true => if 0 ≤ y ∧ y < ((T t).2 : Int) then ab_rf (h.2.1 t i y.toNat) fun t' i' => k nx L (vR t' i' :: S) h else none
    | false => none
  | .iastore => ab_i1 S fun z S => ab_i1 S fun y S => ab_r1 S fun t i S => match Nat.beq (T t).1 1 with
    | true => if 0 ≤ y ∧ y < ((T t).2 : Int) then k nx L S (h.1, h.2.1, u3 h.2.2 t i y.toNat z) else none
    | false => none
  | .bastore => ab_i1 S fun z S => ab_i1 S fun y S => ab_r1 S fun t i S => match (T t).1 with
    | 2 => if (0 ≤ y ∧ y < ((T t).2 : Int)) ∧ -128 ≤ z ∧ z < 128 then k nx L S (h.1, h.2.1, u3 h.2.2 t i y.toNat z) else none
    | 3 => if (0 ≤ y ∧ y < ((T t).2 : Int)) ∧ (z = 0 ∨ z = 1) then k nx L S (h.1, h.2.1, u3 h.2.2 t i y.toNat z) else none
    | _ => none
  | .lastore => ab_l1 S fun z S => ab_i1 S fun y S => ab_r1 S fun t i S => match Nat.beq (T t).1 4 with
    | true => if 0 ≤ y ∧ y < ((T t).2 : Int) then k nx L S (h.1, h.2.1, u3 h.2.2 t i y.toNat z) else none
    | false => none
  | .aastore => ab_r1 S fun t' i' S => ab_i1 S fun y S => ab_r1 S fun t i S => match Nat.beq t b && Nat.beq t' a with
    | true => if 0 ≤ y ∧ y < ((T t).2 : Int) then k nx L S (h.1, u3 h.2.1 t i y.toNat (some (t', i')), h.2.2) else none
    | false => none
  | .arraylength => match S with
    | .inr (.inr (.inl q)) :: S => match Nat.beq (T q.1).1 0 with
      | true => none
      | false => k nx L (vI ((T q.1).2 : Int) :: S) h
    | .inr (.inr (.inr (.inl j))) :: S => match Nat.beq j 1000 with
      | true => k nx L (vI (X.2.1 : Int) :: S) h
      | false => none
    | _ => none
  | .new _ => match h.1.elem (a, ab_cnt h.1 a) with
    | true => none
    | false => k nx L (vR a (ab_cnt h.1 a) :: S) (ab_new h a)
  | .newarray _ => ab_i1 S fun y S => match h.1.elem (a, ab_cnt h.1 a) with
    | true => none
    | false => if y = ((T a).2 : Int) then k nx L (vR a (ab_cnt h.1 a) :: S) (ab_new h a) else none
  | .anewarray _ => ab_i1 S fun y S => match h.1.elem (a, ab_cnt h.1 a) with
    | true => none
    | false => if y = ((T a).2 : Int) then k nx L (vR a (ab_cnt h.1 a) :: S) (ab_new h a) else none
  | .invokestatic _ => ab_pop b S [] fun as S => ab_ret x (cal a as h) k nx L S
  | .invokevirtual t => ab_pop b S [] fun as S => ab_hd as t (ab_ret x (cal a as h) k nx L S)
  | .invokespecial t => ab_pop b S [] fun as S => ab_hd as t (ab_ret x (cal a as h) k nx L S)
  | .caload => ab_i1 S fun n S => ab_i1 S fun dp S => ab_r1 S fun t2 i2 S => ab_i1 S fun sp S => ab_r1 S fun t i S => match S with
    | [] => match Nat.beq (T t).1 1 && Nat.beq (T t2).1 1 with
      | true => if 0 ≤ sp ∧ 0 ≤ dp ∧ 0 ≤ n ∧ sp + n ≤ ((T t).2 : Int) ∧ dp + n ≤ ((T t2).2 : Int) then k nx L [] (ab_cpy h t i sp t2 i2 dp n) else none
      | false => none
    | _ => none
  | .dadd => ab_i1 S fun y S => match Nat.ble (ab_wt S) 8 with
    | true => k nx L (vI (if 0 ≤ y then y else w32 (0 - y)) :: S) h
    | false => none
  | .ddiv => ab_i1 S fun y S => ab_i1 S fun z S => match Nat.ble (ab_wt S) 8 with
    | true => k nx L (vI (if z < y then y else z) :: S) h
    | false => none
  | .dmul => ab_i1 S fun y S => ab_i1 S fun z S => match Nat.ble (ab_wt S) 8 with
    | true => k nx L (vI (if y < z then y else z) :: S) h
    | false => none
  | .castore => ab_s1 S fun j S => match Nat.blt j 7 && Nat.ble (ab_wt S) 8 with
    | true => k nx L (vI ((X.1 j).length : Int) :: S) h
    | false => none
  | .d2f => ab_i1 S fun y S => ab_s1 S fun j S => match Nat.blt j 7 && Nat.ble (ab_wt S) 8 with
    | true => if 0 ≤ y ∧ y < ((X.1 j).length : Int) then k nx L (vI (((X.1 j).getD y.toNat 0 : Nat) : Int) :: S) h else none
    | false => none
  | .d2i => k nx L (vS a :: S) h
  | .d2l => ab_r1 S fun _ _ S => match S with
    | [] => k nx L [] h
    | _ => none
  | .ireturn => ab_i1 S fun y S => match S with
    | [] => match Nat.beq a 1 with
      | true => if y = 0 ∨ y = 1 then some (some (vI y), h) else none
      | false => some (some (vI y), h)
    | _ => none
  | .lreturn => ab_l1 S fun y S => match S with
    | [] => some (some (vL y), h)
    | _ => none
  | .return_ => match S with
    | [] => some (none, h)
    | _ => none
  | _ => none
/-- locals that are not used any more are forgotten at a place that is jumped to -/
def ab_kl (ks : List Nat) (L : List ab_V) : List ab_V := ks.foldl (fun L i => L.set i vU) L
def ab_lk : List (Nat × List Nat × ab_E) → Nat → Option (List Nat × ab_E)
  | [], _ => none
  | (p, e) :: r, pc => match Nat.beq p pc with
    | true => some e
    | false => ab_lk r pc
/-- the locals at a method's entry -/
def ab_ent : List ab_V → List ab_V
  | [] => []
  | .inr (.inl y) :: r => .inr (.inl y) :: vU :: ab_ent r
  | v :: r => v :: ab_ent r
def ab_pad (n : Nat) (L : List ab_V) : List ab_V := L ++ List.replicate (n - L.length) vU
/-- the run from a place on, so many steps -/
def ab_itr (T : ab_T) (X : ab_X) (cd : Nat → Option (List Nat × ab_E)) (cal : ab_C) : Nat → ab_K
  | 0 => fun _ _ _ _ => none
  | n + 1 => fun pc L S h => match cd pc with
    | some e => ab_stp T X cal e.2 (ab_kl e.1 L) S h (ab_itr T X cd cal n)
    | none => none
end
