section
variable {p : Program} {l : Launch} {e : Env} {R : Room} {s : State} {m : MethodId} {args : Array Value} {below : List Frame} {meth : Method} {c : Code} {Q : State → Prop} {H : Heap} {locs : List Loc} {ls : Array Slot}
variable {cc : ByteArray} {own : String} {nL : Nat} {G : va_G} {sa : Nat → Nat} {A : Nat → Prop} {X : Nat × (Nat → Int)} {ce sl : List (Nat × Nat) → Nat} {ac0 ac : List (Nat × ClassId)}
variable {rt : Option FieldType} {init : Bool} {pc nx a b hi hp : Nat} {x : Int} {T : ab_T} {Y : ab_X} {cal : ab_C} {L S : List ab_V} {h : ab_H} {k : ab_K} {r : ab_R}

/-- the end of a method: the answer, and the world -/
theorem sp_ret {r0 : ab_R} (hlocks : meth.locks = false) (hx : p.tables.exec = Jvm.exec) (hb : c.code = cc) (hrt : meth.sig.returnType = rt) {e9 : ab_E} (he : e9.1 = .ireturn ∨ e9.1 = .lreturn ∨ e9.1 = .return_) (hc : ab_chk own cc rt init pc e9 hi hp = true) (hs : ab_stp T Y cal e9 L S h k = some r) (hI : IV s G sa A nL ac0 ac h L S H locs ls) : W p l e R s m args below meth c H locs (ce h.1) (sl h.1) (MQ below (QC G sa A ac0 r) args s (ce r.2.1) (sl r.2.1) A) (F0 m pc ls (S.map (cv sa ac h.1))) := by
  obtain ⟨op, nx, a, b, x⟩ := e9
  obtain ⟨l9, hl9⟩ := hI.1
  have fin : ∀ v : Option ab_V, r = (v, h) → (∀ w, v = some w → okv h.1 w) → ∀ t : State, t.heap = H → s.WarmedH t.vm → QC G sa A ac0 r args s (.returned (v.map (cv sa ac h.1))) t := by
    intro v hr hv t ht hW
    subst hr
    refine ⟨⟨l9, by rw [hl9], hv, by rw [hl9, ht]; exact hI.2.1.moved hW.alike⟩, by rw [ht]; exact hI.2.2.1.1, fun q q1 q2 => by rw [ht]; exact hI.2.2.1.2.1 q q1 q2⟩
  rcases he with he | he | he
  · dsimp only at he
    subst he
    dsimp only [ab_stp] at hs
    obtain ⟨hd, hk9⟩ := of_decide_eq_true hc
    obtain ⟨y, S1, e9, hs1⟩ := i1_some hs
    clear hs
    subst e9
    rcases S1 with _ | ⟨v9, S6⟩
    rotate_left
    · cases hs1
    have hy : in32 y := in_ok (cs_hd hI.ok)
    rcases hk9 with ⟨rfl, hr⟩ | ⟨rfl, hr⟩
    · cases hs1
      exact W.iret hx hb (hrt.trans hr) (fin (some (vI y)) rfl (fun w hw => by cases hw; exact hy)) hI.2.2.1.2.2 hd hlocks
    · obtain ⟨hz, hs1⟩ := ite_some hs1
      cases hs1
      refine W.zret (ty := .boolean) hx hb (hrt.trans hr) ?_ (fin (some (vI y)) rfl (fun w hw => by cases hw; exact hy)) hI.2.2.1.2.2 hd hlocks
      rcases hz with z | z <;> rw [z] <;> rfl
  · dsimp only at he
    subst he
    dsimp only [ab_stp] at hs
    obtain ⟨hd, hr⟩ := of_decide_eq_true hc
    obtain ⟨y, S1, e9, hs1⟩ := l1_some hs
    clear hs
    subst e9
    rcases S1 with _ | ⟨v9, S6⟩
    rotate_left
    · cases hs1
    have hy : in64 y := in_okL (cs_hd hI.ok)
    cases hs1
    exact W.lret hx hb (hrt.trans hr) (fin (some (vL y)) rfl (fun w hw => by cases hw; exact hy)) hI.2.2.1.2.2 hd hlocks
  · dsimp only at he
    subst he
    dsimp only [ab_stp] at hs
    obtain ⟨hd, hr⟩ := of_decide_eq_true hc
    rcases S with _ | ⟨v9, S6⟩
    rotate_left
    · cases hs
    cases hs
    exact W.vret hx hb (hrt.trans hr) (fin none rfl (fun w hw => by cases hw)) hI.2.2.1.2.2 hd hlocks

set_option maxHeartbeats 4000000 in
/-- ONE STEP, whatever it is -/
theorem sp_all {e9 : ab_E} (hx : p.tables.exec = Jvm.exec) (hb : c.code = cc) (hown : s.vm.findClass own = some m.cls) (hw : ∀ w ∈ lw_good, w.before args s = true) (hin : init = true → meth.name = "<init>") (hst : ST sa A X s) (hnl : c.maxLocals = nL) {d : Nat} (hRd : d + 1 ≤ R.frames ∧ 60 * (d + 1) ≤ R.locals) (hmk : ∀ m9, m9 < 292 → MOK m9) (hcm : ∀ m9, m9 < 292 → CM l X d m9 cal) (hce : ∀ (al l8 : List (Nat × Nat)), ac0.length ≤ al.length → ce (al ++ l8) = ce al + l8.length ∧ sl (al ++ l8) = sl al + (l8.map szq).sum) (hA : ∀ q, s.heap.size ≤ q → A q) (hc : ab_chk own cc rt init pc e9 hi hp = true) (hs : ab_stp ab_tg (ab_tx, X) cal e9 L S h k = some r) (hgr : ∀ pc L S h', k pc L S h' = some r → ce h'.1 ≤ R.cells ∧ sl h'.1 ≤ R.slots) (hI : IV s G sa A nL ac0 ac h L S H locs ls) (hk : KK p l e R s m args below meth c Q G sa A nL ce sl ac0 k r)
    (hstr : ∀ L S h k (pc nx a b hi hp : Nat) (x : Int) (op : Instr) (ac : List (Nat × ClassId)) (H : Heap) (locs : List Loc) (ls : Array Slot), (op = .castore ∨ op = .d2f) → ab_chk own cc rt init pc (op, nx, a, b, x) hi hp = true → ab_stp ab_tg (ab_tx, X) cal (op, nx, a, b, x) L S h k = some r → (∀ pc L S h', k pc L S h' = some r → ce h'.1 ≤ R.cells ∧ sl h'.1 ≤ R.slots) → IV s G sa A nL ac0 ac h L S H locs ls → KK p l e R s m args below meth c Q G sa A nL ce sl ac0 k r → W p l e R s m args below meth c H locs (ce h.1) (sl h.1) Q (F0 m pc ls (S.map (cv sa ac h.1))))
    (hret : ∀ L S h k (pc hi hp : Nat) (e9 : ab_E) (ac : List (Nat × ClassId)) (H : Heap) (locs : List Loc) (ls : Array Slot), (e9.1 = .ireturn ∨ e9.1 = .lreturn ∨ e9.1 = .return_) → ab_chk own cc rt init pc e9 hi hp = true → ab_stp ab_tg (ab_tx, X) cal e9 L S h k = some r → IV s G sa A nL ac0 ac h L S H locs ls → W p l e R s m args below meth c H locs (ce h.1) (sl h.1) Q (F0 m pc ls (S.map (cv sa ac h.1)))) : W p l e R s m args below meth c H locs (ce h.1) (sl h.1) Q (F0 m pc ls (S.map (cv sa ac h.1))) := by
  obtain ⟨op, nx, a, b, x⟩ := e9
  have hce1 : ∀ (al : List (Nat × Nat)) (q : Nat × Nat), ac0.length ≤ al.length → ce (al ++ [q]) = ce al + 1 ∧ sl (al ++ [q]) = sl al + szq q := fun al q hl => by
    obtain ⟨z1, z2⟩ := hce al [q] hl
    exact ⟨z1, by rw [z2]; simp⟩
  have hfr : 1 ≤ R.frames := by omega
  have hlc : 60 ≤ R.locals := by omega
  cases op with
  | iconst n => exact sp_iconst hx hb hown hw hc hs hI hk
  | ldc2_w n => exact sp_lconst hx hb hown hw hc hs hI hk
  | iload n => exact sp_iload hx hb hown hw hc hs hI hk
  | lload n => exact sp_lload hx hb hown hw hc hs hI hk
  | aload n => exact sp_aload hx hb hown hw hc hs hI hk
  | istore n => exact sp_istore hx hb hown hw hc hs hI hk
  | lstore n => exact sp_lstore hx hb hown hw hc hs hI hk
  | astore n => exact sp_astore hx hb hown hw hc hs hI hk
  | iinc n z => exact sp_iinc hx hb hown hw hc hs hI hk
  | goto n => exact sp_goto hx hb hown hw hc hs hI hk
  | ifCond cd n => exact sp_ifc hx hb hown hw hc hs hI hk
  | if_icmp cd n => exact sp_icmp hx hb hown hw hc hs hI hk
  | lookupswitch n ps => exact sp_switch hx hb hown hw hc hs hI hk
  | getfield n => exact sp_getfield hx hb hown hw hc hs hI hk
  | iadd  => exact sp_iadd hx hb hown hw hc hs hI hk
  | isub  => exact sp_isub hx hb hown hw hc hs hI hk
  | imul  => exact sp_imul hx hb hown hw hc hs hI hk
  | idiv  => exact sp_idiv hx hb hown hw hc hs hI hk
  | irem  => exact sp_irem hx hb hown hw hc hs hI hk
  | ineg  => exact sp_ineg hx hb hown hw hc hs hI hk
  | iand  => exact sp_iand hx hb hown hw hc hs hI hk
  | ior  => exact sp_ior hx hb hown hw hc hs hI hk
  | ixor  => exact sp_ixor hx hb hown hw hc hs hI hk
  | ishl  => exact sp_ishl hx hb hown hw hc hs hI hk
  | ishr  => exact sp_ishr hx hb hown hw hc hs hI hk
  | iushr  => exact sp_iushr hx hb hown hw hc hs hI hk
  | lsub  => exact sp_lsub hx hb hown hw hc hs hI hk
  | land  => exact sp_land hx hb hown hw hc hs hI hk
  | lor  => exact sp_lor hx hb hown hw hc hs hI hk
  | lshl  => exact sp_lshl hx hb hown hw hc hs hI hk
  | lushr  => exact sp_lushr hx hb hown hw hc hs hI hk
  | lcmp  => exact sp_lcmp hx hb hown hw hc hs hI hk
  | i2l  => exact sp_i2l hx hb hown hw hc hs hI hk
  | l2i  => exact sp_l2i hx hb hown hw hc hs hI hk
  | i2b  => exact sp_i2b hx hb hown hw hc hs hI hk
  | i2s  => exact sp_i2s hx hb hown hw hc hs hI hk
  | dup  => exact sp_dup hx hb hown hw hc hs hI hk
  | dup2  => exact sp_dup2 hx hb hown hw hc hs hI hk
  | pop  => exact sp_pop hx hb hown hw hc hs hI hk
  | pop2  => exact sp_pop2 hx hb hown hw hc hs hI hk
  | putfield n => exact sp_putfield hx hb hown hw hin hc hs hI hk
  | iaload => exact sp_iaload hx hb hown hw hc hs hst rfl rfl hI hk
  | baload => exact sp_baload hx hb hown hw hc hs hst rfl rfl hI hk
  | laload => exact sp_laload hx hb hown hw hc hs hst rfl rfl hI hk
  | aaload => exact sp_aaload hx hb hown hw hc hs hst rfl rfl hI hk
  | iastore => exact sp_iastore hx hb hown hw hc hs hst rfl rfl hI hk
  | lastore => exact sp_lastore hx hb hown hw hc hs hst rfl rfl hI hk
  | bastore => exact sp_bastore hx hb hown hw hc hs hst rfl rfl hI hk
  | aastore => exact sp_aastore hx hb hown hw hc hs hst rfl rfl hI hk
  | arraylength => exact sp_alen hx hb hown hw hc hs hst rfl rfl hI hk
  | d2i => exact sp_ldcs hx hb hown hw hc hs hst rfl rfl hI hk
  | new n => exact sp_new hx hb hown hw hc hs hst rfl rfl hce1 hgr hA hI hk
  | newarray n => exact sp_newarray hx hb hown hw hc hs hst rfl rfl hce1 hgr hA hI hk
  | anewarray n => exact sp_anewarray hx hb hown hw hc hs hst rfl rfl hce1 hgr hA hI hk
  | caload => exact sp_copy hx hb hown hw hc hs hst rfl rfl hnl hfr hlc hI hk
  | d2l => exact sp_oinit hx hb hown hw hc hs hst (T := ab_tg) (Y := (ab_tx, X)) rfl rfl hnl hfr hlc hI hk
  | invokestatic n => exact sp_callS hx hb hown hw hc hs hst rfl rfl hnl hRd hmk hcm hce hgr hA hI hk
  | invokevirtual n => exact sp_callV hx hb hown hw hc hs hst rfl rfl hnl hRd hmk hcm hce hgr hA hI hk
  | invokespecial n => exact sp_callI hx hb hown hw hc hs hst rfl rfl hnl hRd hmk hcm hce hgr hA hI hk
  | dadd => exact sp_mabs hx hb hown hw hc hs hst rfl rfl hnl hfr hlc hgr hI hk
  | ddiv => exact sp_mmax hx hb hown hw hc hs hst rfl rfl hnl hfr hlc hgr hI hk
  | dmul => exact sp_mmin hx hb hown hw hc hs hst rfl rfl hnl hfr hlc hgr hI hk
  | castore => exact hstr _ _ _ _ _ _ _ _ _ _ _ _ _ _ _ _ (Or.inl rfl) hc hs hgr hI hk
  | d2f => exact hstr _ _ _ _ _ _ _ _ _ _ _ _ _ _ _ _ (Or.inr rfl) hc hs hgr hI hk
  | ireturn => exact hret _ _ _ _ _ _ _ _ _ _ _ _ (Or.inl rfl) hc hs hI
  | lreturn => exact hret _ _ _ _ _ _ _ _ _ _ _ _ (Or.inr (Or.inl rfl)) hc hs hI
  | return_ => exact hret _ _ _ _ _ _ _ _ _ _ _ _ (Or.inr (Or.inr rfl)) hc hs hI
  | _ => cases hs
end
