section
def ab_cls (t : Nat) : vw_C := classes.getD t ("", TX0, 0)
/-- where the texts stand: class and entry -/
def ab_so (j : Nat) : String × Nat := [("NineInMindModel", 89), ("NineInMind$Reader", 90), ("NineInMind$Reader", 95), ("NineInMind$Reader", 97), ("NineInMind$Reader", 99), ("NineInMind$Reader", 101), ("NineInMind$Reader", 103)].getD j ("", 0)
/-- an int, a long in its bounds -/
abbrev in32 (x : Int) : Prop := -2147483648 ≤ x ∧ x < 2147483648
abbrev in64 (x : Int) : Prop := -9223372036854775808 ≤ x ∧ x < 9223372036854775808
def ab_rk (r : Option FieldType) : Int := match r with
  | none => 0
  | some .long => 2
  | _ => 1
def ab_aty (k : Nat) : ArrayType := match k with
  | 1 => .int
  | 2 => .byte
  | 3 => .boolean
  | _ => .long
def ab_l4 (cc : ByteArray) (pc nx a : Nat) (f : Nat → Instr) (g : Fin 4 → Instr) : Bool := decide ((decode cc pc = .ok (f a, 2) ∧ nx = pc + 2) ∨ (decode cc pc = .ok (g (Fin.ofNat 4 a), 1) ∧ nx = pc + 1 ∧ a < 4))
def ab_pl (cc : ByteArray) (pc nx : Nat) (i : Instr) : Bool := decide (decode cc pc = .ok (i, 1) ∧ nx = pc + 1)
/-- an instruction of a table is the one that the class file has; hi, hp: its entry in the pool, the place of its word in the tables -/
def ab_chk (own : String) (cc : ByteArray) (rt : Option FieldType) (init : Bool) (pc : Nat) (e : ab_E) (hi hp : Nat) : Bool :=
  match e with
  | (op, nx, a, b, x) => match op with
  | .iconst _ => decide ((decode cc pc = .ok (.iconst x, 1) ∧ nx = pc + 1 ∧ in32 x) ∨ (decode cc pc = .ok (.bipush x, 2) ∧ nx = pc + 2 ∧ -128 ≤ x ∧ x < 128) ∨ (decode cc pc = .ok (.sipush x, 3) ∧ nx = pc + 3 ∧ -32768 ≤ x ∧ x < 32768) ∨ (decode cc pc = .ok (.ldc hi, 2) ∧ nx = pc + 2 ∧ in32 x ∧ lw_tbl[hp]? = some (.constant own hi (Int32.ofInt x))) ∨ (decode cc pc = .ok (.ldc_w hi, 3) ∧ nx = pc + 3 ∧ in32 x ∧ lw_tbl[hp]? = some (.constant own hi (Int32.ofInt x))))
  | .ldc2_w _ => decide ((decode cc pc = .ok (.lconst 0, 1) ∧ nx = pc + 1 ∧ x = 0) ∨ (decode cc pc = .ok (.lconst 1, 1) ∧ nx = pc + 1 ∧ x = 1) ∨ (decode cc pc = .ok (.ldc2_w hi, 3) ∧ nx = pc + 3 ∧ in64 x ∧ lw_tbl[hp]? = some (.constantLong own hi (Int64.ofInt x))))
  | .iload _ => ab_l4 cc pc nx a .iload .iload_n
  | .lload _ => ab_l4 cc pc nx a .lload .lload_n
  | .aload _ => ab_l4 cc pc nx a .aload .aload_n
  | .istore _ => ab_l4 cc pc nx a .istore .istore_n
  | .lstore _ => ab_l4 cc pc nx a .lstore .lstore_n
  | .astore _ => ab_l4 cc pc nx a .astore .astore_n
  | .iinc _ _ => decide (decode cc pc = .ok (.iinc a x, 3) ∧ nx = pc + 3)
  | .iadd => ab_pl cc pc nx .iadd
  | .isub => ab_pl cc pc nx .isub
  | .imul => ab_pl cc pc nx .imul
  | .idiv => ab_pl cc pc nx .idiv
  | .irem => ab_pl cc pc nx .irem
  | .ineg => ab_pl cc pc nx .ineg
  | .iand => ab_pl cc pc nx .iand
  | .ior => ab_pl cc pc nx .ior
  | .ixor => ab_pl cc pc nx .ixor
  | .ishl => ab_pl cc pc nx .ishl
  | .ishr => ab_pl cc pc nx .ishr
  | .iushr => ab_pl cc pc nx .iushr
  | .lsub => ab_pl cc pc nx .lsub
  | .land => ab_pl cc pc nx .land
  | .lor => ab_pl cc pc nx .lor
  | .lshl => ab_pl cc pc nx .lshl
  | .lushr => ab_pl cc pc nx .lushr
  | .lcmp => ab_pl cc pc nx .lcmp
  | .i2l => ab_pl cc pc nx .i2l
  | .l2i => ab_pl cc pc nx .l2i
  | .i2b => ab_pl cc pc nx .i2b
  | .i2s => ab_pl cc pc nx .i2s
  | .dup => ab_pl cc pc nx .dup
  | .dup2 => ab_pl cc pc nx .dup2
  | .pop => ab_pl cc pc nx .pop
  | .pop2 => ab_pl cc pc nx .pop2
  | .iaload => ab_pl cc pc nx .iaload
  | .baload => ab_pl cc pc nx .baload
  | .laload => ab_pl cc pc nx .laload
  | .aaload => ab_pl cc pc nx .aaload
  | .iastore => ab_pl cc pc nx .iastore
  | .bastore => ab_pl cc pc nx .bastore
  | .lastore => ab_pl cc pc nx .lastore
  | .aastore => ab_pl cc pc nx .aastore && decide ((ab_tg b).1 = 5 ∧ (ab_els.lookup b).getD 0 = a ∧ a < 13)
  | .arraylength => ab_pl cc pc nx .arraylength
  | .goto _ => decide (decode cc pc = .ok (.goto ((a : Int) - pc), 3))
  | .ifCond c _ => decide (decode cc pc = .ok (.ifCond c ((a : Int) - pc), 3) ∧ nx = pc + 3)
  | .if_icmp c _ => decide (decode cc pc = .ok (.if_icmp c ((a : Int) - pc), 3) ∧ nx = pc + 3)
  | .lookupswitch _ ps => match decode cc pc with
    | .ok (.tableswitch d lo hi2 offs, _) => decide ((pc : Int) + d = a ∧ hi2 = lo + offs.size - 1 ∧ ps.toList = (offs.toList.zipIdx).map (fun q => (lo + q.2, (pc : Int) + q.1)) ∧ offs.toList.all (fun o => 0 ≤ (pc : Int) + o) = true)
    | .ok (.lookupswitch d qs, _) => decide ((pc : Int) + d = a ∧ ps.toList = qs.toList.map (fun q => (q.1, (pc : Int) + q.2)) ∧ (qs.toList.zip (qs.toList.drop 1)).all (fun q => q.1.1 < q.2.1) = true ∧ qs.toList.all (fun q => 0 ≤ (pc : Int) + q.2) = true)
    | _ => false
  | .getfield _ => decide (decode cc pc = .ok (.getfield hi, 3) ∧ nx = pc + 3 ∧ a < 13 ∧ b < (ab_cls a).2.2 ∧ x = (ab_fk a b : Int) ∧ lw_tbl[hp]? = some (.fieldLink own hi ((ab_cls a).2.1 b).1 ((ab_cls a).2.1 b).2.1 ((ab_cls a).2.1 b).2.2.1))
  | .putfield _ => decide (decode cc pc = .ok (.putfield hi, 3) ∧ nx = pc + 3 ∧ a < 13 ∧ b < (ab_cls a).2.2 ∧ x = (ab_fk a b : Int) ∧ (((ab_cls a).2.1 b).2.2.2 = false ∨ (((ab_cls a).2.1 b).2.2.2 = true ∧ init = true ∧ ((ab_cls a).2.1 b).1 = own)) ∧ lw_tbl[hp]? = some (.fieldLink own hi ((ab_cls a).2.1 b).1 ((ab_cls a).2.1 b).2.1 ((ab_cls a).2.1 b).2.2.1))
  | .new _ => decide (decode cc pc = .ok (.new hi, 3) ∧ nx = pc + 3 ∧ a < 13 ∧ lw_tbl[hp]? = some (.classLink own hi (ab_cls a).1))
  | .newarray _ => decide (decode cc pc = .ok (.newarray (ab_aty (ab_tg a).1), 2) ∧ nx = pc + 2 ∧ 1 ≤ (ab_tg a).1 ∧ (ab_tg a).1 ≤ 4)
  | .anewarray _ => decide (decode cc pc = .ok (.anewarray hi, 3) ∧ nx = pc + 3 ∧ (ab_tg a).1 = 5 ∧ lw_tbl[hp]? = some (.classLink own hi (ab_cls ((ab_els.lookup a).getD 0)).1))
  | .invokestatic _ => decide (decode cc pc = .ok (.invokestatic hi, 3) ∧ ab_stt a = true ∧ nx = pc + 3 ∧ a < 292 ∧ x = ab_rk (ab_mt a).2.2.2 ∧ (parseMethodDescriptor (ab_mt a).1.desc).map (fun d => d.parameters.length) = some b ∧ lw_tbl[hp]? = some (.methodLink own hi (ab_mt a).1))
  | .invokevirtual t => decide (decode cc pc = .ok (.invokevirtual hi, 3) ∧ ab_stt a = false ∧ nx = pc + 3 ∧ a < 292 ∧ t < 13 ∧ x = ab_rk (ab_mt a).2.2.2 ∧ (ab_mt a).1.cls = (ab_cls t).1 ∧ (ab_mt a).1.name ≠ "<init>" ∧ 0 < b ∧ (parseMethodDescriptor (ab_mt a).1.desc).map (fun d => d.parameters.length) = some (b - 1) ∧ lw_tbl[hp]? = some (.methodLink own hi (ab_mt a).1))
  | .invokespecial t => decide (decode cc pc = .ok (.invokespecial hi, 3) ∧ ab_stt a = false ∧ nx = pc + 3 ∧ a < 292 ∧ t < 13 ∧ x = 0 ∧ (ab_mt a).2.2.2 = none ∧ (ab_mt a).1.name = "<init>" ∧ 0 < b ∧ (parseMethodDescriptor (ab_mt a).1.desc).map (fun d => d.parameters.length) = some (b - 1) ∧ (lw_tbl[hp]? = some (.methodLink own hi (ab_mt a).1) ∨ lw_tbl[hp]? = some (.methodLinkNest own hi (ab_mt a).1 "NineInMind")))
  | .caload => decide (decode cc pc = .ok (.invokestatic hi, 3) ∧ nx = pc + 3 ∧ lw_tbl[hp]? = some (.methodLink own hi arraycopyName))
  | .dadd => decide (decode cc pc = .ok (.invokestatic hi, 3) ∧ nx = pc + 3 ∧ lw_tbl[hp]? = some (.methodLink own hi Lib.Math.abs.name))
  | .ddiv => decide (decode cc pc = .ok (.invokestatic hi, 3) ∧ nx = pc + 3 ∧ lw_tbl[hp]? = some (.methodLink own hi Lib.Math.max.name))
  | .dmul => decide (decode cc pc = .ok (.invokestatic hi, 3) ∧ nx = pc + 3 ∧ lw_tbl[hp]? = some (.methodLink own hi Lib.Math.min.name))
  | .castore => decide (decode cc pc = .ok (.invokevirtual hi, 3) ∧ nx = pc + 3 ∧ lw_tbl[hp]? = some (.methodLink own hi ⟨"java/lang/String", "length", "()I"⟩))
  | .d2f => decide (decode cc pc = .ok (.invokevirtual hi, 3) ∧ nx = pc + 3 ∧ lw_tbl[hp]? = some (.methodLink own hi ⟨"java/lang/String", "charAt", "(I)C"⟩))
  | .d2i => decide (decode cc pc = .ok (.ldc hi, 2) ∧ nx = pc + 2 ∧ a < 7 ∧ ab_so a = (own, hi))
  | .d2l => decide (decode cc pc = .ok (.invokespecial hi, 3) ∧ nx = pc + 3 ∧ lw_tbl[hp]? = some (.methodLink own hi Lib.objectInit))
  | .ireturn => decide (decode cc pc = .ok (.ireturn, 1) ∧ ((a = 0 ∧ rt = some .int) ∨ (a = 1 ∧ rt = some .boolean)))
  | .lreturn => decide (decode cc pc = .ok (.lreturn, 1) ∧ rt = some .long)
  | .return_ => decide (decode cc pc = .ok (.return_, 1) ∧ rt = none)
  | _ => false
def ab_chks (own : String) (cc : ByteArray) (rt : Option FieldType) (init : Bool) : List (Nat × List Nat × ab_E) → List (Nat × Nat) → Bool
  | [], _ => true
  | (pc, _, e) :: r, (hi, hp) :: s => ab_chk own cc rt init pc e hi hp && ab_chks own cc rt init r s
  | (pc, _, e) :: r, [] => ab_chk own cc rt init pc e 0 0 && ab_chks own cc rt init r []
end
