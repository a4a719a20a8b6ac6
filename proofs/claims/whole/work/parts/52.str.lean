section
def sy_len : MethodName := ⟨"java/lang/String", "length", "()I"⟩
def sy_at : MethodName := ⟨"java/lang/String", "charAt", "(I)C"⟩
def sy_cod : MethodName := ⟨"java/lang/String", "coder", "()B"⟩
def sy_lat : MethodName := ⟨"java/lang/String", "isLatin1", "()Z"⟩
def sy_chk : MethodName := ⟨"java/lang/String", "checkIndex", "(II)V"⟩
def sy_lcat : MethodName := ⟨"java/lang/StringLatin1", "charAt", "([BI)C"⟩
def sy_pre : MethodName := ⟨"jdk/internal/util/Preconditions", "checkIndex", "(IILjava/util/function/BiFunction;)I"⟩
set_option maxRecDepth 100000 in
theorem sw_1 : Cond.code sy_len prog_17_method_54_code 1 (some .int) ∈ lw_good ∧ Cond.code sy_at prog_17_method_56_code 2 (some .char) ∈ lw_good ∧ Cond.code sy_cod prog_17_method_152_code 1 (some .byte) ∈ lw_good ∧ Cond.code sy_lat prog_17_method_154_code 1 (some .boolean) ∈ lw_good ∧ Cond.code sy_chk prog_17_method_155_code 2 none ∈ lw_good ∧ Cond.code sy_lcat prog_18_method_2_code 2 (some .char) ∈ lw_good ∧ Cond.code sy_pre prog_22_method_11_code 3 (some .int) ∈ lw_good := ⟨wd_in (hp := 606) rfl rfl, wd_in (hp := 616) rfl rfl, wd_in (hp := 610) rfl rfl, wd_in (hp := 620) rfl rfl, wd_in (hp := 626) rfl rfl, wd_in (hp := 623) rfl rfl, wd_in (hp := 631) rfl rfl⟩
set_option maxRecDepth 100000 in
theorem sw_2 : Cond.initialized "java/lang/String" ∈ lw_good ∧ Cond.initialized "java/lang/StringLatin1" ∈ lw_good ∧ Cond.initialized "jdk/internal/util/Preconditions" ∈ lw_good ∧ Cond.instanceMethod sy_len ∈ lw_good ∧ Cond.selects "java/lang/String" sy_len sy_len ∈ lw_good ∧ Cond.instanceMethod sy_cod ∈ lw_good ∧ Cond.selects "java/lang/String" sy_cod sy_cod ∈ lw_good ∧ Cond.instanceMethod sy_at ∈ lw_good ∧ Cond.selects "java/lang/String" sy_at sy_at ∈ lw_good ∧ Cond.instanceMethod sy_lat ∈ lw_good ∧ Cond.selects "java/lang/String" sy_lat sy_lat ∈ lw_good := ⟨wd_in (hp := 125) (by decide +kernel) rfl, wd_in (hp := 126) (by decide +kernel) rfl, wd_in (hp := 127) (by decide +kernel) rfl, wd_in (hp := 604) (by decide +kernel) rfl, wd_in (hp := 605) (by decide +kernel) rfl, wd_in (hp := 608) (by decide +kernel) rfl, wd_in (hp := 609) (by decide +kernel) rfl, wd_in (hp := 614) (by decide +kernel) rfl, wd_in (hp := 615) (by decide +kernel) rfl, wd_in (hp := 618) (by decide +kernel) rfl, wd_in (hp := 619) (by decide +kernel) rfl⟩
set_option maxRecDepth 100000 in
theorem sw_3 : Cond.methodLink "java/lang/String" 335 sy_cod ∈ lw_good ∧ Cond.methodLink "java/lang/String" 492 sy_lat ∈ lw_good ∧ Cond.methodLink "java/lang/String" 495 sy_lcat ∈ lw_good ∧ Cond.static sy_lcat ∈ lw_good ∧ Cond.methodLink "java/lang/StringLatin1" 9 sy_chk ∈ lw_good ∧ Cond.static sy_chk ∈ lw_good ∧ Cond.methodLink "java/lang/String" 1059 sy_pre ∈ lw_good ∧ Cond.static sy_pre ∈ lw_good := ⟨wd_in (hp := 607) (by decide +kernel) rfl, wd_in (hp := 617) (by decide +kernel) rfl, wd_in (hp := 621) (by decide +kernel) rfl, wd_in (hp := 622) (by decide +kernel) rfl, wd_in (hp := 624) (by decide +kernel) rfl, wd_in (hp := 625) (by decide +kernel) rfl, wd_in (hp := 629) (by decide +kernel) rfl, wd_in (hp := 630) (by decide +kernel) rfl⟩
set_option maxRecDepth 100000 in
theorem sw_4 : Cond.fieldLink "java/lang/String" 38 "java/lang/String" "COMPACT_STRINGS" "Z" ∈ lw_good ∧ Cond.fieldLink "java/lang/String" 1053 "jdk/internal/util/Preconditions" "SIOOBE_FORMATTER" "Ljava/util/function/BiFunction;" ∈ lw_good ∧ Cond.fieldLink "java/lang/String" 9 "java/lang/String" "value" "[B" ∈ lw_good ∧ Cond.fieldLink "java/lang/String" 15 "java/lang/String" "coder" "B" ∈ lw_good := ⟨wd_in (hp := 611) (by decide +kernel) rfl, wd_in (hp := 627) (by decide +kernel) rfl, wd_in (hp := 1920) (by decide +kernel) rfl, wd_in (hp := 1921) (by decide +kernel) rfl⟩
theorem sd_len : decode prog_17_method_54_code 0 = .ok (.aload_n 0, 1) ∧ decode prog_17_method_54_code 1 = .ok (.getfield 9, 3) ∧ decode prog_17_method_54_code 4 = .ok (.arraylength, 1) ∧ decode prog_17_method_54_code 5 = .ok (.aload_n 0, 1) ∧ decode prog_17_method_54_code 6 = .ok (.invokevirtual 335, 3) ∧ decode prog_17_method_54_code 9 = .ok (.ishr, 1) ∧ decode prog_17_method_54_code 10 = .ok (.ireturn, 1) := by decide +kernel
theorem sd_cod : decode prog_17_method_152_code 0 = .ok (.getstatic 38, 3) ∧ decode prog_17_method_152_code 3 = .ok (.ifCond .eq 10, 3) ∧ decode prog_17_method_152_code 6 = .ok (.aload_n 0, 1) ∧ decode prog_17_method_152_code 7 = .ok (.getfield 15, 3) ∧ decode prog_17_method_152_code 10 = .ok (.goto 4, 3) ∧ decode prog_17_method_152_code 14 = .ok (.ireturn, 1) := by decide +kernel
theorem sd_at : decode prog_17_method_56_code 0 = .ok (.aload_n 0, 1) ∧ decode prog_17_method_56_code 1 = .ok (.invokevirtual 492, 3) ∧ decode prog_17_method_56_code 4 = .ok (.ifCond .eq 12, 3) ∧ decode prog_17_method_56_code 7 = .ok (.aload_n 0, 1) ∧ decode prog_17_method_56_code 8 = .ok (.getfield 9, 3) ∧ decode prog_17_method_56_code 11 = .ok (.iload_n 1, 1) ∧ decode prog_17_method_56_code 12 = .ok (.invokestatic 495, 3) ∧ decode prog_17_method_56_code 15 = .ok (.ireturn, 1) := by decide +kernel
theorem sd_lat : decode prog_17_method_154_code 0 = .ok (.getstatic 38, 3) ∧ decode prog_17_method_154_code 3 = .ok (.ifCond .eq 14, 3) ∧ decode prog_17_method_154_code 6 = .ok (.aload_n 0, 1) ∧ decode prog_17_method_154_code 7 = .ok (.getfield 15, 3) ∧ decode prog_17_method_154_code 10 = .ok (.ifCond .ne 7, 3) ∧ decode prog_17_method_154_code 13 = .ok (.iconst 1, 1) ∧ decode prog_17_method_154_code 14 = .ok (.goto 4, 3) ∧ decode prog_17_method_154_code 18 = .ok (.ireturn, 1) := by decide +kernel
theorem sd_lcat : decode prog_18_method_2_code 0 = .ok (.iload_n 1, 1) ∧ decode prog_18_method_2_code 1 = .ok (.aload_n 0, 1) ∧ decode prog_18_method_2_code 2 = .ok (.arraylength, 1) ∧ decode prog_18_method_2_code 3 = .ok (.invokestatic 9, 3) ∧ decode prog_18_method_2_code 6 = .ok (.aload_n 0, 1) ∧ decode prog_18_method_2_code 7 = .ok (.iload_n 1, 1) ∧ decode prog_18_method_2_code 8 = .ok (.baload, 1) ∧ decode prog_18_method_2_code 9 = .ok (.sipush 255, 3) ∧ decode prog_18_method_2_code 12 = .ok (.iand, 1) ∧ decode prog_18_method_2_code 13 = .ok (.i2c, 1) ∧ decode prog_18_method_2_code 14 = .ok (.ireturn, 1) := by decide +kernel
theorem sd_chk : decode prog_17_method_155_code 0 = .ok (.iload_n 0, 1) ∧ decode prog_17_method_155_code 1 = .ok (.iload_n 1, 1) ∧ decode prog_17_method_155_code 2 = .ok (.getstatic 1053, 3) ∧ decode prog_17_method_155_code 5 = .ok (.invokestatic 1059, 3) ∧ decode prog_17_method_155_code 8 = .ok (.pop, 1) ∧ decode prog_17_method_155_code 9 = .ok (.return_, 1) := by decide +kernel
theorem sd_pre : decode prog_22_method_11_code 0 = .ok (.iload_n 0, 1) ∧ decode prog_22_method_11_code 1 = .ok (.ifCond .lt 8, 3) ∧ decode prog_22_method_11_code 4 = .ok (.iload_n 0, 1) ∧ decode prog_22_method_11_code 5 = .ok (.iload_n 1, 1) ∧ decode prog_22_method_11_code 6 = .ok (.if_icmp .lt 10, 3) ∧ decode prog_22_method_11_code 16 = .ok (.iload_n 0, 1) ∧ decode prog_22_method_11_code 17 = .ok (.ireturn, 1) := by decide +kernel
/-- the texts and two static fields of the JDK -/
def TXP (sa adV : Nat → Nat) (A : Nat → Prop) (U : State) : Prop := vk_S 7 st_len st_byt sa adV A U U.heap ∧ va_Z "java/lang/String" "COMPACT_STRINGS" "Z" (.int 1) A U U.heap ∧ va_Zq "jdk/internal/util/Preconditions" "SIOOBE_FORMATTER" "Ljava/util/function/BiFunction;" A U U.heap
theorem TXP.go {sa adV : Nat → Nat} {A : Nat → Prop} {s U : State} {H : Heap} {locs : List Loc} (h : TXP sa adV A s) (hW : s.WarmedH U.vm) (hS : va_S A s.heap H locs) (hU : U.heap = H) : TXP sa adV A U := by
  have hq : ∀ a : Nat, a < s.heap.size → ¬ A a → U.heap[a]? = s.heap[a]? := by rw [hU]; exact hS.2.1
  exact ⟨(h.1.kept hq).moved hW.alike, (h.2.1.kept hq).moved hW.alike, (h.2.2.kept hq).moved hW.alike⟩
theorem TXP.calling {sa adV : Nat → Nat} {A : Nat → Prop} {U : State} {g : JFrame} {mk : MethodId} {a : Array Value} (h : TXP sa adV A U) : TXP sa adV A (U.calling g mk a) :=
  have hv : U.vm.Alike (U.calling g mk a).vm := Vm.Alike.refl U.vm
  ⟨h.1.moved hv, h.2.1.moved hv, h.2.2.moved hv⟩
def wj (y : MethodName) (bt : ByteArray) (n : Nat) (ret : Option FieldType) : List Cond := Cond.code y bt n ret :: lw_good
theorem wj_good {y : MethodName} {bt : ByteArray} {n : Nat} {ret : Option FieldType} (h9 : Cond.code y bt n ret ∈ lw_good) : GoodIn lw_good (wj y bt n ret) := fun w hw => by
  have hm : w ∈ lw_good := by
    rcases List.mem_cons.mp hw with rfl | z
    · exact h9
    · exact z
  exact ⟨hm, good_of_word (List.mem_filter.mp hm).2⟩
def rj (fr lo : Nat) : Room := { frames := fr, cells := 0, slots := 0, locals := lo }
def SJ (l : Launch) (y : MethodName) (bt : ByteArray) (n : Nat) (ret : Option FieldType) (fr lo : Nat) (av : List Value) (sa adV : Nat → Nat) (A : Nat → Prop) (Q : Array Value → State → Outcome → State → Prop) : Prop := Met l y (wj y bt n ret) (rj fr lo) (va_Pc av (TXP sa adV A)) Q 0 0 (fun _ => False)
theorem SJ.blind {av : List Value} {sa adV : Nat → Nat} {A : Nat → Prop} : FrameBlind (va_Pc av (TXP sa adV A)) := fun a9 U g mk q => ⟨q.1, q.2.calling⟩
theorem sj_of {l : Launch} {y : MethodName} {bt : ByteArray} {n : Nat} {ret : Option FieldType} {fr lo : Nat} {av : List Value} {sa adV : Nat → Nat} {A : Nat → Prop} {Q : Array Value → State → Outcome → State → Prop} (hy : plainName y.cls = true) (hn : (lg_sl av).length ≤ n)
    (body : ∀ (p : Program) (e : Env) (s : State) (m : MethodId) (args : Array Value) (below : List Frame) (meth : Method) (c : Code) (ls : Array Slot), p.tables.exec = Jvm.exec → c.code = bt → c.maxLocals = n → meth.sig.returnType = ret → meth.locks = false → s.vm.findClass y.cls = some m.cls → (∀ w ∈ lw_good, w.before args s = true) → TXP sa adV A s → lv_has ls n (lv_args 0 av) → W p l e (rj fr lo) s m args below meth c s.heap [] 0 0 (MQ below Q args s 0 0 (fun _ => False)) (F0 m 0 ls [])) : SJ l y bt n ret fr lo av sa adV A Q := by
  refine Met.ofW (cc := bt) (maxL := n) (ret := ret) hy rfl ?_
  intro p e s m args below meth c s₁ B hml hv
  obtain ⟨rfl, hT⟩ := hv
  have hts := atoms_spec (ws := wj y bt n ret) B.pre
  rw [lg_entry_eq]
  exact body p e s m _ below meth c _ B.exec B.bytes hml B.returns B.notSynchronized (findClass_of_methodNamed B.named) (fun w hw => hts w (List.mem_cons_of_mem _ hw)) hT (lv_entry av hn)
variable {p : Program} {l : Launch} {e : Env} {R : Room} {s : State} {m : MethodId} {args : Array Value} {below : List Frame} {meth : Method} {c : Code} {Q : State → Prop} {H : Heap} {locs : List Loc} {ls : Array Slot} {cells slots pc index n nL fr lo k9 : Nat} {cc bt : ByteArray} {own : String} {y : MethodName} {ret : Option FieldType} {av rest : List Value} {sa adV : Nat → Nat} {A : Nat → Prop} {QQ : Array Value → State → Outcome → State → Prop}
theorem sj_S (hx : p.tables.exec = Jvm.exec) (hb : c.code = cc) (hml : c.maxLocals = nL) (hown : s.vm.findClass own = some m.cls) (hw : ∀ w ∈ lw_good, w.before args s = true) (hT : TXP sa adV A s) (hS : va_S A s.heap H locs) (hM : SJ l y bt n ret fr lo av sa adV A QQ) (g1 : Cond.code y bt n ret ∈ lw_good) (g2 : Cond.initialized y.cls ∈ lw_good) (g3 : Cond.methodLink own index y ∈ lw_good) (g4 : Cond.static y ∈ lw_good) (hd : y.cls ≠ "java/lang/invoke/MethodHandle" ∧ y.cls ≠ "java/lang/invoke/VarHandle" ∧ (parseMethodDescriptor y.desc).map (fun d => d.parameters.length) = some k9) (hR : fr + 1 ≤ R.frames ∧ 8 + (n + 11) + lo ≤ R.locals) (hl : ls.size = nL) (hln : av.length = k9) (hrs : (rest.map fun v => v.category).sum ≤ 8) (hdg : decode cc pc = .ok (.invokestatic index, 3)) (hf : cells ≤ R.cells ∧ slots ≤ R.slots) : CallRun p l e R s m args below meth c H locs cells slots 0 0 (F0 m pc ls (av.reverse ++ rest)) rest (QQ av.toArray) (fun _ => False) :=
  (va_runS (As := av) (rest := rest) (mc := 0) (ms := 0) ⟨hx, hb, hml, hown, hw⟩ hM ⟨callB_of k9 hw (wj_good g1) rfl rfl rfl (hw _ g2) (hw _ g3) hd hR, hw _ g4⟩ ⟨SJ.blind, fun U hU hW => ⟨rfl, hT.go hW hS hU⟩⟩ rfl hln hl rfl (lv_room hrs) hdg hf).run
theorem sj_V {j : Nat} (hj : j < 7) (hx : p.tables.exec = Jvm.exec) (hb : c.code = cc) (hml : c.maxLocals = nL) (hown : s.vm.findClass own = some m.cls) (hw : ∀ w ∈ lw_good, w.before args s = true) (hT : TXP sa adV A s) (hS : va_S A s.heap H locs) (hM : SJ l y bt n ret fr lo (.ref (sa j) :: av) sa adV A QQ) (g0 : y.cls = "java/lang/String") (g1 : Cond.code y bt n ret ∈ lw_good) (g3 : Cond.methodLink own index y ∈ lw_good) (g4 : Cond.instanceMethod y ∈ lw_good) (g5 : Cond.selects "java/lang/String" y y ∈ lw_good) (hd : (parseMethodDescriptor y.desc).map (fun d => d.parameters.length) = some k9) (hR : fr + 1 ≤ R.frames ∧ 8 + (n + 11) + lo ≤ R.locals) (hl : ls.size = nL) (hln : av.length = k9) (hrs : (rest.map fun v => v.category).sum ≤ 8) (hdg : decode cc pc = .ok (.invokevirtual index, 3)) (hf : cells ≤ R.cells ∧ slots ≤ R.slots) : CallRun p l e R s m args below meth c H locs cells slots 0 0 (F0 m pc ls (av.reverse ++ .ref (sa j) :: rest)) rest (QQ (Value.ref (sa j) :: av).toArray) (fun _ => False) :=
  (va_runV (C := "java/lang/String") (b := sa j) (As := av) (rest := rest) (mc := 0) (ms := 0) ⟨hx, hb, hml, hown, hw⟩ hM ⟨callB_of k9 hw (wj_good g1) rfl rfl rfl (by rw [g0]; exact hw _ sw_2.1) (hw _ g3) ⟨by rw [g0]; decide, by rw [g0]; decide, hd⟩ hR, hw _ g4, hw _ g5⟩ ⟨SJ.blind, vk_recv hT.1 hj hS, fun U hU hW => ⟨rfl, hT.go hW hS hU⟩⟩ rfl hln hl rfl (lv_room hrs) hdg hf).run
theorem sj_cod {j : Nat} (hj : j < 7) : SJ l sy_cod prog_17_method_152_code 1 (some .byte) 0 0 [.ref (sa j)] sa adV A (vp_Si (fun r => r = 0)) := by
  refine sj_of (by decide) (Nat.le_of_ble_eq_true rfl) ?_
  intro p e s m args below meth c ls hx hb hml hr hlk hown hw hT hl
  have hl : lv_has ls 1 [(0, .ref (sa j))] := hl
  obtain ⟨d0, d3, d6, d7, d10, d14⟩ := sd_cod
  have hS : va_S A s.heap s.heap [] := va_S.rf
  refine va_gets hx hb hT.2.1 hS hown (hw _ sw_4.1) (fun _ h9 => h9) d0 ?_
  refine lv_if_eq (tgt := 13) hx hb d3 (by decide) (fun z => absurd z (by decide)) (fun _ => ?_)
  refine lv_aload_n hx hb d6 rfl (lv_at hl 0 rfl) ?_
  refine vk_getf hx hb (hT.1.1 j hj).2.1 hS hown (hw _ sw_4.2.2.2) (fun _ h9 => h9) d7 ?_
  refine lv_goto (tgt := 14) hx hb d10 (by decide) ?_
  exact W.zret (v := 0) hx hb hr rfl (fun t ht hW => ⟨0, rfl, rfl, ht⟩) (fun q h => by cases h) d14
theorem sj_lat {j : Nat} (hj : j < 7) : SJ l sy_lat prog_17_method_154_code 1 (some .boolean) 0 0 [.ref (sa j)] sa adV A (vp_Si (fun r => r = 1)) := by
  refine sj_of (by decide) (Nat.le_of_ble_eq_true rfl) ?_
  intro p e s m args below meth c ls hx hb hml hr hlk hown hw hT hl
  have hl : lv_has ls 1 [(0, .ref (sa j))] := hl
  obtain ⟨d0, d3, d6, d7, d10, d13, d14, d18⟩ := sd_lat
  have hS : va_S A s.heap s.heap [] := va_S.rf
  refine va_gets hx hb hT.2.1 hS hown (hw _ sw_4.1) (fun _ h9 => h9) d0 ?_
  refine lv_if_eq (tgt := 17) hx hb d3 (by decide) (fun z => absurd z (by decide)) (fun _ => ?_)
  refine lv_aload_n hx hb d6 rfl (lv_at hl 0 rfl) ?_
  refine vk_getf hx hb (hT.1.1 j hj).2.1 hS hown (hw _ sw_4.2.2.2) (fun _ h9 => h9) d7 ?_
  refine lv_if_ne (tgt := 17) hx hb d10 (by decide) (fun z => absurd rfl z) (fun _ => ?_)
  refine lv_iconst (v := 1) hx hb d13 (by decide) ?_
  refine lv_goto (tgt := 18) hx hb d14 (by decide) ?_
  exact W.zret (v := 1) hx hb hr rfl (fun t ht hW => ⟨1, rfl, rfl, ht⟩) (fun q h => by cases h) d18
theorem st_f1 : ∀ j, j < 7 → Int32.ofNat (st_len.getD j 0) >>> ((0 : Int32) &&& 31) = Int32.ofNat (st_len.getD j 0) := by decide +kernel
theorem st_f2 : ∀ j, j < 7 → st_len.getD j 0 = (ab_tx j).length ∧ (ab_tx j).length < 100 := by decide +kernel
theorem st_f3 : ∀ j, j < 7 → ∀ k, k < (ab_tx j).length → (((st_byt.getD j []).getD k 0 &&& 255).toUInt32 % 65536).toInt32 = Int32.ofNat ((ab_tx j).getD k 0) ∧ (ab_tx j).getD k 0 < 256 := by decide +kernel
theorem sj_len {j : Nat} (hj : j < 7) : SJ l sy_len prog_17_method_54_code 1 (some .int) 1 30 [.ref (sa j)] sa adV A (vp_Si (fun r => r = Int32.ofNat (st_len.getD j 0))) := by
  refine sj_of (by decide) (Nat.le_of_ble_eq_true rfl) ?_
  intro p e s m args below meth c ls hx hb hml hr hlk hown hw hT hl
  have hl : lv_has ls 1 [(0, .ref (sa j))] := hl
  obtain ⟨d0, d1, d4, d5, d6, d9, d10⟩ := sd_len
  have hS : va_S A s.heap s.heap [] := va_S.rf
  refine lv_aload_n hx hb d0 rfl (lv_at hl 0 rfl) ?_
  refine vk_getf hx hb (hT.1.1 j hj).2.2.1 hS hown (hw _ sw_4.2.2.1) (fun _ h9 => h9) d1 ?_
  refine va_tlen hx hb (hT.1.1 j hj).2.2.2 hS rfl d4 ?_
  refine lv_aload_n hx hb d5 rfl (lv_at hl 0 rfl) ?_
  refine vp_callSi (sj_V (av := []) (rest := [.int (Int32.ofNat (st_len.getD j 0))]) (index := 335) (k9 := 0) hj hx hb hml hown hw hT hS (sj_cod hj) rfl sw_1.2.2.1 sw_3.1 sw_2.2.2.2.2.2.1 sw_2.2.2.2.2.2.2.1 (by decide +kernel) ⟨Nat.le_of_ble_eq_true rfl, Nat.le_of_ble_eq_true rfl⟩ hl.1 rfl (Nat.le_of_ble_eq_true rfl) d6 ⟨Nat.le_refl _, Nat.le_refl _⟩) (fun r hr0 => ?_)
  subst hr0
  refine lv_ishr hx hb d9 ?_
  rw [st_f1 j hj]
  exact W.iret hx hb hr (fun t ht hW => ⟨_, rfl, rfl, ht⟩) (fun q h => by cases h) d10
theorem sj_pre {i n9 : Int32} {z : Value} (hz : z = .null ∨ ∃ t : Nat, z = .ref t) (h0 : ¬ i < 0) (h1 : i < n9) : SJ l sy_pre prog_22_method_11_code 3 (some .int) 0 0 [.int i, .int n9, z] sa adV A (vp_Si (fun r => r = i)) := by
  have key : (lg_sl [.int i, .int n9, z]).length ≤ 3 ∧ lv_args 0 [.int i, .int n9, z] = [(0, .int i), (1, .int n9), (2, z)] := by
    rcases hz with rfl | ⟨t, rfl⟩ <;> exact ⟨Nat.le_of_ble_eq_true rfl, rfl⟩
  refine sj_of (by decide) key.1 ?_
  intro p e s m args below meth c ls hx hb hml hr hlk hown hw hT hl
  rw [key.2] at hl
  obtain ⟨d0, d1, d4, d5, d6, d16, d17⟩ := sd_pre
  refine lv_iload_n hx hb d0 rfl (lv_at hl 0 rfl) ?_
  refine lv_if_lt (tgt := 9) hx hb d1 (by decide) (fun z => absurd z h0) (fun _ => ?_)
  refine lv_iload_n hx hb d4 rfl (lv_at hl 0 rfl) ?_
  refine lv_iload_n hx hb d5 rfl (lv_at hl 1 rfl) ?_
  refine lv_icmp_lt (tgt := 16) hx hb d6 (by decide) (fun _ => ?_) (fun z => absurd h1 z)
  refine lv_iload_n hx hb d16 rfl (lv_at hl 0 rfl) ?_
  exact W.iret hx hb hr (fun t ht hW => ⟨_, rfl, rfl, ht⟩) (fun q h => by cases h) d17
theorem sj_chk {i n9 : Int32} (h0 : ¬ i < 0) (h1 : i < n9) : SJ l sy_chk prog_17_method_155_code 2 none 1 22 [.int i, .int n9] sa adV A (va_Sv (fun _ => True)) := by
  refine sj_of (by decide) (Nat.le_of_ble_eq_true rfl) ?_
  intro p e s m args below meth c ls hx hb hml hr hlk hown hw hT hl
  have hl : lv_has ls 2 [(0, .int i), (1, .int n9)] := hl
  obtain ⟨d0, d1, d2, d5, d8, d9⟩ := sd_chk
  have hS : va_S A s.heap s.heap [] := va_S.rf
  have hq : ∃ z : Value, (z = .null ∨ ∃ t : Nat, z = .ref t) ∧ va_Z "jdk/internal/util/Preconditions" "SIOOBE_FORMATTER" "Ljava/util/function/BiFunction;" z A s s.heap := by
    rcases hT.2.2 with q | ⟨t, q⟩
    · exact ⟨_, Or.inl rfl, q⟩
    · exact ⟨_, Or.inr ⟨t, rfl⟩, q⟩
  obtain ⟨z, hz, hZ⟩ := hq
  refine lv_iload_n hx hb d0 rfl (lv_at hl 0 rfl) ?_
  refine lv_iload_n hx hb d1 rfl (lv_at hl 1 rfl) ?_
  refine va_gets hx hb hZ hS hown (hw _ sw_4.2.1) (fun _ h9 => h9) d2 ?_
  refine vp_callSi (sj_S (av := [.int i, .int n9, z]) (rest := []) (index := 1059) (k9 := 3) hx hb hml hown hw hT hS (sj_pre hz h0 h1) sw_1.2.2.2.2.2.2 sw_2.2.2.1 sw_3.2.2.2.2.2.2.1 sw_3.2.2.2.2.2.2.2 ⟨by decide, by decide, by decide +kernel⟩ ⟨Nat.le_of_ble_eq_true rfl, Nat.le_of_ble_eq_true rfl⟩ hl.1 rfl (Nat.le_of_ble_eq_true rfl) d5 ⟨Nat.le_refl _, Nat.le_refl _⟩) (fun r hr0 => ?_)
  refine lv_pop hx hb d8 rfl ?_
  exact W.vret hx hb hr (fun t ht hW => ⟨rfl, trivial, ht⟩) (fun q h => by cases h) d9
theorem st_in {k n9 : Nat} (h : k < n9) (hn : n9 < 100) : ¬ Int32.ofNat k < 0 ∧ Int32.ofNat k < Int32.ofNat n9 ∧ (Int32.ofNat k).toNatClampNeg = k := by
  have key : ∀ n9, n9 < 100 → ∀ k, k < n9 → ¬ Int32.ofNat k < 0 ∧ Int32.ofNat k < Int32.ofNat n9 ∧ (Int32.ofNat k).toNatClampNeg = k := by decide +kernel
  exact key n9 hn k h
theorem sj_lcat {j k : Nat} (hj : j < 7) (hk : k < (ab_tx j).length) : SJ l sy_lcat prog_18_method_2_code 2 (some .char) 2 45 [.ref (adV j), .int (Int32.ofNat k)] sa adV A (vp_Si (fun r => r = Int32.ofNat ((ab_tx j).getD k 0))) := by
  refine sj_of (by decide) (Nat.le_of_ble_eq_true rfl) ?_
  intro p e s m args below meth c ls hx hb hml hr hlk hown hw hT hl
  have hl : lv_has ls 2 [(0, .ref (adV j)), (1, .int (Int32.ofNat k))] := hl
  obtain ⟨d0, d1, d2, d3, d6, d7, d8, d9, d12, d13, d14⟩ := sd_lcat
  have hS : va_S A s.heap s.heap [] := va_S.rf
  obtain ⟨e1, e2⟩ := st_f2 j hj
  obtain ⟨q1, q2, q3⟩ := st_in hk e2
  obtain ⟨f1, f2⟩ := st_f3 j hj k hk
  refine lv_iload_n hx hb d0 rfl (lv_at hl 1 rfl) ?_
  refine lv_aload_n hx hb d1 rfl (lv_at hl 0 rfl) ?_
  refine va_tlen hx hb (hT.1.1 j hj).2.2.2 hS (v := Int32.ofNat (ab_tx j).length) (by rw [e1]) d2 ?_
  refine va_csv (sj_S (av := [.int (Int32.ofNat k), .int (Int32.ofNat (ab_tx j).length)]) (rest := []) (index := 9) (k9 := 2) hx hb hml hown hw hT hS (sj_chk q1 q2) sw_1.2.2.2.2.1 sw_2.1 sw_3.2.2.2.2.1 sw_3.2.2.2.2.2.1 ⟨by decide, by decide, by decide +kernel⟩ ⟨Nat.le_of_ble_eq_true rfl, Nat.le_of_ble_eq_true rfl⟩ hl.1 rfl (Nat.le_of_ble_eq_true rfl) d3 ⟨Nat.le_refl _, Nat.le_refl _⟩) (fun _ => ?_)
  refine lv_aload_n hx hb d6 rfl (lv_at hl 0 rfl) ?_
  refine lv_iload_n hx hb d7 rfl (lv_at hl 1 rfl) ?_
  refine va_tb hx hb (hT.1.1 j hj).2.2.2 hS (v := .int ((st_byt.getD j []).getD k 0)) (fun z => ?_) (by rw [q3]) d8 ?_
  · rcases z with z | z
    · exact q1 z
    · rw [q3, e1] at z
      omega
  refine lv_sipush (v := 255) hx hb d9 (by decide) ?_
  refine lv_iand hx hb d12 ?_
  refine lv_i2c (v := Int32.ofNat ((ab_tx j).getD k 0)) hx hb d13 f1 ?_
  have hn : narrow .char (.int (Int32.ofNat ((ab_tx j).getD k 0))) = .int (Int32.ofNat ((ab_tx j).getD k 0)) := by
    have key : ∀ w, w < 256 → narrow .char (.int (Int32.ofNat w)) = .int (Int32.ofNat w) := by decide +kernel
    exact key _ f2
  exact W.zret hx hb hr hn (fun t ht hW => ⟨_, rfl, rfl, ht⟩) (fun q h => by cases h) d14
theorem sj_at {j k : Nat} (hj : j < 7) (hk : k < (ab_tx j).length) : SJ l sy_at prog_17_method_56_code 2 (some .char) 3 70 [.ref (sa j), .int (Int32.ofNat k)] sa adV A (vp_Si (fun r => r = Int32.ofNat ((ab_tx j).getD k 0))) := by
  refine sj_of (by decide) (Nat.le_of_ble_eq_true rfl) ?_
  intro p e s m args below meth c ls hx hb hml hr hlk hown hw hT hl
  have hl : lv_has ls 2 [(0, .ref (sa j)), (1, .int (Int32.ofNat k))] := hl
  obtain ⟨d0, d1, d4, d7, d8, d11, d12, d15⟩ := sd_at
  have hS : va_S A s.heap s.heap [] := va_S.rf
  obtain ⟨f1, f2⟩ := st_f3 j hj k hk
  refine lv_aload_n hx hb d0 rfl (lv_at hl 0 rfl) ?_
  refine vp_callSi (sj_V (av := []) (rest := []) (index := 492) (k9 := 0) hj hx hb hml hown hw hT hS (sj_lat hj) rfl sw_1.2.2.2.1 sw_3.2.1 sw_2.2.2.2.2.2.2.2.2.2.1 sw_2.2.2.2.2.2.2.2.2.2.2 (by decide +kernel) ⟨Nat.le_of_ble_eq_true rfl, Nat.le_of_ble_eq_true rfl⟩ hl.1 rfl (Nat.le_of_ble_eq_true rfl) d1 ⟨Nat.le_refl _, Nat.le_refl _⟩) (fun r hr0 => ?_)
  subst hr0
  refine lv_if_eq (tgt := 16) hx hb d4 (by decide) (fun z => absurd z (by decide)) (fun _ => ?_)
  refine lv_aload_n hx hb d7 rfl (lv_at hl 0 rfl) ?_
  refine vk_getf hx hb (hT.1.1 j hj).2.2.1 hS hown (hw _ sw_4.2.2.1) (fun _ h9 => h9) d8 ?_
  refine lv_iload_n hx hb d11 rfl (lv_at hl 1 rfl) ?_
  refine vp_callSi (sj_S (av := [.ref (adV j), .int (Int32.ofNat k)]) (rest := []) (index := 495) (k9 := 2) hx hb hml hown hw hT hS (sj_lcat hj hk) sw_1.2.2.2.2.2.1 sw_2.2.1 sw_3.2.2.1 sw_3.2.2.2.1 ⟨by decide, by decide, by decide +kernel⟩ ⟨Nat.le_of_ble_eq_true rfl, Nat.le_of_ble_eq_true rfl⟩ hl.1 rfl (Nat.le_of_ble_eq_true rfl) d12 ⟨Nat.le_refl _, Nat.le_refl _⟩) (fun r hr0 => ?_)
  subst hr0
  have hn : narrow .char (.int (Int32.ofNat ((ab_tx j).getD k 0))) = .int (Int32.ofNat ((ab_tx j).getD k 0)) := by
    have key : ∀ w, w < 256 → narrow .char (.int (Int32.ofNat w)) = .int (Int32.ofNat w) := by decide +kernel
    exact key _ f2
  exact W.zret hx hb hr hn (fun t ht hW => ⟨_, rfl, rfl, ht⟩) (fun q h => by cases h) d15
theorem i32_nat (n9 : Nat) : Int32.ofInt (n9 : Int) = Int32.ofNat n9 := rfl
theorem str_all (X : Nat × (Nat → Int)) : STR l X := by
  intro p e R s m args below meth c Q G sa A nL ce sl ac0 own cc rt init cal r hx hb hml hown hw hst hfr hlo L S h k pc nx a b hi hp x op ac H locs ls hop hc hs hgr hI hk
  obtain ⟨adV, hV⟩ := hst.2.2.2.1
  have hT : TXP sa adV A s := ⟨hV, hst.2.2.2.2.2.1, hst.2.2.2.2.2.2⟩
  have hS := hI.2.2.1
  rcases hop with rfl | rfl
  · dsimp only [ab_stp] at hs
    dsimp only [ab_chk] at hc
    obtain ⟨j, S1, e9, h9⟩ := s1_some hs
    clear hs
    subst e9
    obtain ⟨hb1, hs⟩ := beq_some h9
    clear h9
    rw [Bool.and_eq_true] at hb1
    have hj : j < 7 := Nat.lt_of_lt_of_le (Nat.lt_succ_self j) (Nat.le_of_ble_eq_true hb1.1)
    obtain ⟨hd, rfl, hlk⟩ := of_decide_eq_true hc
    obtain ⟨g1, g2⟩ := hgr _ _ _ _ hs
    have h4 := cat_sum (sa := sa) (ac := ac) (al := h.1) (Nat.le_of_ble_eq_true hb1.2)
    refine vp_callSi (sj_V (av := []) (rest := S1.map (cv sa ac h.1)) (k9 := 0) hj hx hb hml hown hw hT hS (sj_len hj) rfl sw_1.1 (wd_in hlk rfl) sw_2.2.2.2.1 sw_2.2.2.2.2.1 (by decide +kernel) ⟨by omega, by omega⟩ hI.2.2.2.1.2.1 rfl h4 hd ⟨g1, g2⟩) (fun r hr0 => ?_)
    subst hr0
    obtain ⟨e1, e2⟩ := st_f2 j hj
    rw [e1, ← i32_nat]
    exact hk _ _ _ _ _ _ _ _ hs (hI.st (cs_ok (show in32 _ from ⟨by show _ ≤ ((_ : Nat) : Int); omega, by show ((_ : Nat) : Int) < _; omega⟩) (cs_tl hI.ok)))
  · dsimp only [ab_stp] at hs
    dsimp only [ab_chk] at hc
    obtain ⟨y, S0, e9, h9⟩ := i1_some hs
    clear hs
    subst e9
    obtain ⟨j, S1, e9, h8⟩ := s1_some h9
    clear h9
    subst e9
    obtain ⟨hb1, h9⟩ := beq_some h8
    clear h8
    obtain ⟨hy, hs⟩ := ite_some h9
    clear h9
    rw [Bool.and_eq_true] at hb1
    have hj : j < 7 := Nat.lt_of_lt_of_le (Nat.lt_succ_self j) (Nat.le_of_ble_eq_true hb1.1)
    obtain ⟨hd, rfl, hlk⟩ := of_decide_eq_true hc
    obtain ⟨g1, g2⟩ := hgr _ _ _ _ hs
    have h4 := cat_sum (sa := sa) (ac := ac) (al := h.1) (Nat.le_of_ble_eq_true hb1.2)
    obtain ⟨k9, rfl⟩ : ∃ k9 : Nat, y = (k9 : Int) := ⟨y.toNat, by omega⟩
    have hk9 : k9 < (ab_tx j).length := by have := hy.2; omega
    obtain ⟨f1, f2⟩ := st_f3 j hj k9 hk9
    refine vp_callSi (sj_V (av := [.int (Int32.ofNat k9)]) (rest := S1.map (cv sa ac h.1)) (k9 := 1) hj hx hb hml hown hw hT hS (sj_at hj hk9) rfl sw_1.2.1 (wd_in hlk rfl) sw_2.2.2.2.2.2.2.2.1 sw_2.2.2.2.2.2.2.2.2.1 (by decide +kernel) ⟨by omega, by omega⟩ hI.2.2.2.1.2.1 rfl h4 hd ⟨g1, g2⟩) (fun r hr0 => ?_)
    subst hr0
    rw [← i32_nat]
    have hq : in32 (((ab_tx j).getD k9 0 : Nat) : Int) := ⟨by omega, by omega⟩
    have hs : k (pc + 3) L (vI (((ab_tx j).getD k9 0 : Nat) : Int) :: S1) h = some r := hs
    exact hk _ _ _ _ _ _ _ _ hs (hI.st (cs_ok hq (cs_tl (cs_tl hI.ok))))
end
