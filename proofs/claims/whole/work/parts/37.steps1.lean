section
variable {p : Program} {l : Launch} {e : Env} {R : Room} {s : State} {m : MethodId} {args : Array Value} {below : List Frame} {meth : Method} {c : Code} {Q : State → Prop} {H : Heap} {locs : List Loc} {ls : Array Slot}
variable {cc : ByteArray} {own : String} {nL : Nat} {G : va_G} {sa : Nat → Nat} {A : Nat → Prop} {X : Nat × (Nat → Int)} {ce sl : List (Nat × Nat) → Nat} {ac0 ac : List (Nat × ClassId)}
variable {rt : Option FieldType} {init : Bool} {pc nx a b hi hp : Nat} {x : Int} {T : ab_T} {Y : ab_X} {cal : ab_C} {L S : List ab_V} {h : ab_H} {k : ab_K} {r : ab_R}

/-- a point of a run, and that what was made lies behind what was there -/
def IV (s : State) (G : va_G) (sa : Nat → Nat) (A : Nat → Prop) (nL : Nat) (ac0 ac : List (Nat × ClassId)) (h : ab_H) (L S : List ab_V) (H : Heap) (locs : List Loc) (ls : Array Slot) : Prop := ac0 <+: ac ∧ INV s G sa A nL ac h L S H locs ls
/-- what comes behind: from every point that it goes on from with this end, the machine comes to Q -/
def KK (p : Program) (l : Launch) (e : Env) (R : Room) (s : State) (m : MethodId) (args : Array Value) (below : List Frame) (meth : Method) (c : Code) (Q : State → Prop) (G : va_G) (sa : Nat → Nat) (A : Nat → Prop) (nL : Nat) (ce sl : List (Nat × Nat) → Nat) (ac0 : List (Nat × ClassId)) (k : ab_K) (r : ab_R) : Prop :=
  ∀ (pc : Nat) (L S : List ab_V) (h : ab_H) (ac : List (Nat × ClassId)) (H : Heap) (locs : List Loc) (ls : Array Slot), k pc L S h = some r → IV s G sa A nL ac0 ac h L S H locs ls → W p l e R s m args below meth c H locs (ce h.1) (sl h.1) Q (F0 m pc ls (S.map (cv sa ac h.1)))
theorem IV.st {S' : List ab_V} (hI : IV s G sa A nL ac0 ac h L S H locs ls) (hS : ∀ v ∈ S', okv h.1 v) : IV s G sa A nL ac0 ac h L S' H locs ls := ⟨hI.1, hI.2.1, hI.2.2.1, hI.2.2.2.1, hI.2.2.2.2.1, hS⟩
theorem IV.ok (hI : IV s G sa A nL ac0 ac h L S H locs ls) : ∀ v ∈ S, okv h.1 v := hI.2.2.2.2.2
theorem cs_ok {al : List (Nat × Nat)} {v : ab_V} {S : List ab_V} (h1 : okv al v) (h2 : ∀ v ∈ S, okv al v) : ∀ w ∈ v :: S, okv al w := fun w hw => by
  rcases List.mem_cons.mp hw with rfl | h
  · exact h1
  · exact h2 w h
theorem cs_hd {al : List (Nat × Nat)} {v : ab_V} {S : List ab_V} (h : ∀ w ∈ v :: S, okv al w) : okv al v := h v List.mem_cons_self
theorem cs_tl {al : List (Nat × Nat)} {v : ab_V} {S : List ab_V} (h : ∀ w ∈ v :: S, okv al w) : ∀ w ∈ S, okv al w := fun w hw => h w (List.mem_cons_of_mem _ hw)
theorem pl_some {i : Instr} (h : ab_pl cc pc nx i = true) : decode cc pc = .ok (i, 1) ∧ nx = pc + 1 := of_decide_eq_true h
theorem in_ok {al : List (Nat × Nat)} {y : Int} (h : okv al (vI y)) : in32 y := h
theorem in_okL {al : List (Nat × Nat)} {y : Int} (h : okv al (vL y)) : in64 y := h

theorem sp_iadd  (hx : p.tables.exec = Jvm.exec) (hb : c.code = cc) (hown : s.vm.findClass own = some m.cls) (hw : ∀ w ∈ lw_good, w.before args s = true) (hc : ab_chk own cc rt init pc (.iadd, nx, a, b, x) hi hp = true) (hs : ab_stp T Y cal (.iadd, nx, a, b, x) L S h k = some r) (hI : IV s G sa A nL ac0 ac h L S H locs ls) (hk : KK p l e R s m args below meth c Q G sa A nL ce sl ac0 k r) : W p l e R s m args below meth c H locs (ce h.1) (sl h.1) Q (F0 m pc ls (S.map (cv sa ac h.1))) := by
  dsimp only [ab_stp] at hs
  dsimp only [ab_chk] at hc
  obtain ⟨y, S1, e9, h9⟩ := i1_some hs
  clear hs
  subst e9
  have hs := h9
  clear h9
  obtain ⟨z, S2, e9, h9⟩ := i1_some hs
  clear hs
  subst e9
  have hs := h9
  clear h9
  obtain ⟨hd, rfl⟩ := pl_some hc
  have hy : in32 y := in_ok (cs_hd hI.ok)
  have hz : in32 z := in_ok (cs_hd (cs_tl hI.ok))
  refine lv_iadd hx hb hd ?_
  rw [ar_add]
  exact hk _ _ _ _ _ _ _ _ hs (hI.st (cs_ok (show in32 _ from w32_in _) (cs_tl (cs_tl hI.ok))))
theorem sp_isub  (hx : p.tables.exec = Jvm.exec) (hb : c.code = cc) (hown : s.vm.findClass own = some m.cls) (hw : ∀ w ∈ lw_good, w.before args s = true) (hc : ab_chk own cc rt init pc (.isub, nx, a, b, x) hi hp = true) (hs : ab_stp T Y cal (.isub, nx, a, b, x) L S h k = some r) (hI : IV s G sa A nL ac0 ac h L S H locs ls) (hk : KK p l e R s m args below meth c Q G sa A nL ce sl ac0 k r) : W p l e R s m args below meth c H locs (ce h.1) (sl h.1) Q (F0 m pc ls (S.map (cv sa ac h.1))) := by
  dsimp only [ab_stp] at hs
  dsimp only [ab_chk] at hc
  obtain ⟨y, S1, e9, h9⟩ := i1_some hs
  clear hs
  subst e9
  have hs := h9
  clear h9
  obtain ⟨z, S2, e9, h9⟩ := i1_some hs
  clear hs
  subst e9
  have hs := h9
  clear h9
  obtain ⟨hd, rfl⟩ := pl_some hc
  have hy : in32 y := in_ok (cs_hd hI.ok)
  have hz : in32 z := in_ok (cs_hd (cs_tl hI.ok))
  refine lv_isub hx hb hd ?_
  rw [ar_sub]
  exact hk _ _ _ _ _ _ _ _ hs (hI.st (cs_ok (show in32 _ from w32_in _) (cs_tl (cs_tl hI.ok))))
theorem sp_imul  (hx : p.tables.exec = Jvm.exec) (hb : c.code = cc) (hown : s.vm.findClass own = some m.cls) (hw : ∀ w ∈ lw_good, w.before args s = true) (hc : ab_chk own cc rt init pc (.imul, nx, a, b, x) hi hp = true) (hs : ab_stp T Y cal (.imul, nx, a, b, x) L S h k = some r) (hI : IV s G sa A nL ac0 ac h L S H locs ls) (hk : KK p l e R s m args below meth c Q G sa A nL ce sl ac0 k r) : W p l e R s m args below meth c H locs (ce h.1) (sl h.1) Q (F0 m pc ls (S.map (cv sa ac h.1))) := by
  dsimp only [ab_stp] at hs
  dsimp only [ab_chk] at hc
  obtain ⟨y, S1, e9, h9⟩ := i1_some hs
  clear hs
  subst e9
  have hs := h9
  clear h9
  obtain ⟨z, S2, e9, h9⟩ := i1_some hs
  clear hs
  subst e9
  have hs := h9
  clear h9
  obtain ⟨hd, rfl⟩ := pl_some hc
  have hy : in32 y := in_ok (cs_hd hI.ok)
  have hz : in32 z := in_ok (cs_hd (cs_tl hI.ok))
  refine lv_imul hx hb hd ?_
  rw [ar_mul hz hy]
  exact hk _ _ _ _ _ _ _ _ hs (hI.st (cs_ok (show in32 _ from w32_in _) (cs_tl (cs_tl hI.ok))))
theorem sp_iand  (hx : p.tables.exec = Jvm.exec) (hb : c.code = cc) (hown : s.vm.findClass own = some m.cls) (hw : ∀ w ∈ lw_good, w.before args s = true) (hc : ab_chk own cc rt init pc (.iand, nx, a, b, x) hi hp = true) (hs : ab_stp T Y cal (.iand, nx, a, b, x) L S h k = some r) (hI : IV s G sa A nL ac0 ac h L S H locs ls) (hk : KK p l e R s m args below meth c Q G sa A nL ce sl ac0 k r) : W p l e R s m args below meth c H locs (ce h.1) (sl h.1) Q (F0 m pc ls (S.map (cv sa ac h.1))) := by
  dsimp only [ab_stp] at hs
  dsimp only [ab_chk] at hc
  obtain ⟨y, S1, e9, h9⟩ := i1_some hs
  clear hs
  subst e9
  have hs := h9
  clear h9
  obtain ⟨z, S2, e9, h9⟩ := i1_some hs
  clear hs
  subst e9
  have hs := h9
  clear h9
  obtain ⟨hd, rfl⟩ := pl_some hc
  have hy : in32 y := in_ok (cs_hd hI.ok)
  have hz : in32 z := in_ok (cs_hd (cs_tl hI.ok))
  refine lv_iand hx hb hd ?_
  rw [ar_and]
  exact hk _ _ _ _ _ _ _ _ hs (hI.st (cs_ok (show in32 _ from b_an_in _ _) (cs_tl (cs_tl hI.ok))))
theorem sp_ior  (hx : p.tables.exec = Jvm.exec) (hb : c.code = cc) (hown : s.vm.findClass own = some m.cls) (hw : ∀ w ∈ lw_good, w.before args s = true) (hc : ab_chk own cc rt init pc (.ior, nx, a, b, x) hi hp = true) (hs : ab_stp T Y cal (.ior, nx, a, b, x) L S h k = some r) (hI : IV s G sa A nL ac0 ac h L S H locs ls) (hk : KK p l e R s m args below meth c Q G sa A nL ce sl ac0 k r) : W p l e R s m args below meth c H locs (ce h.1) (sl h.1) Q (F0 m pc ls (S.map (cv sa ac h.1))) := by
  dsimp only [ab_stp] at hs
  dsimp only [ab_chk] at hc
  obtain ⟨y, S1, e9, h9⟩ := i1_some hs
  clear hs
  subst e9
  have hs := h9
  clear h9
  obtain ⟨z, S2, e9, h9⟩ := i1_some hs
  clear hs
  subst e9
  have hs := h9
  clear h9
  obtain ⟨hd, rfl⟩ := pl_some hc
  have hy : in32 y := in_ok (cs_hd hI.ok)
  have hz : in32 z := in_ok (cs_hd (cs_tl hI.ok))
  refine lv_ior hx hb hd ?_
  rw [ar_or]
  exact hk _ _ _ _ _ _ _ _ hs (hI.st (cs_ok (show in32 _ from b_orr_in _ _) (cs_tl (cs_tl hI.ok))))
theorem sp_ixor  (hx : p.tables.exec = Jvm.exec) (hb : c.code = cc) (hown : s.vm.findClass own = some m.cls) (hw : ∀ w ∈ lw_good, w.before args s = true) (hc : ab_chk own cc rt init pc (.ixor, nx, a, b, x) hi hp = true) (hs : ab_stp T Y cal (.ixor, nx, a, b, x) L S h k = some r) (hI : IV s G sa A nL ac0 ac h L S H locs ls) (hk : KK p l e R s m args below meth c Q G sa A nL ce sl ac0 k r) : W p l e R s m args below meth c H locs (ce h.1) (sl h.1) Q (F0 m pc ls (S.map (cv sa ac h.1))) := by
  dsimp only [ab_stp] at hs
  dsimp only [ab_chk] at hc
  obtain ⟨y, S1, e9, h9⟩ := i1_some hs
  clear hs
  subst e9
  have hs := h9
  clear h9
  obtain ⟨z, S2, e9, h9⟩ := i1_some hs
  clear hs
  subst e9
  have hs := h9
  clear h9
  obtain ⟨hd, rfl⟩ := pl_some hc
  have hy : in32 y := in_ok (cs_hd hI.ok)
  have hz : in32 z := in_ok (cs_hd (cs_tl hI.ok))
  refine lv_ixor hx hb hd ?_
  rw [ar_xor]
  exact hk _ _ _ _ _ _ _ _ hs (hI.st (cs_ok (show in32 _ from b_xr_in _ _) (cs_tl (cs_tl hI.ok))))
theorem sp_ishl  (hx : p.tables.exec = Jvm.exec) (hb : c.code = cc) (hown : s.vm.findClass own = some m.cls) (hw : ∀ w ∈ lw_good, w.before args s = true) (hc : ab_chk own cc rt init pc (.ishl, nx, a, b, x) hi hp = true) (hs : ab_stp T Y cal (.ishl, nx, a, b, x) L S h k = some r) (hI : IV s G sa A nL ac0 ac h L S H locs ls) (hk : KK p l e R s m args below meth c Q G sa A nL ce sl ac0 k r) : W p l e R s m args below meth c H locs (ce h.1) (sl h.1) Q (F0 m pc ls (S.map (cv sa ac h.1))) := by
  dsimp only [ab_stp] at hs
  dsimp only [ab_chk] at hc
  obtain ⟨y, S1, e9, h9⟩ := i1_some hs
  clear hs
  subst e9
  have hs := h9
  clear h9
  obtain ⟨z, S2, e9, h9⟩ := i1_some hs
  clear hs
  subst e9
  have hs := h9
  clear h9
  obtain ⟨hd, rfl⟩ := pl_some hc
  have hy : in32 y := in_ok (cs_hd hI.ok)
  have hz : in32 z := in_ok (cs_hd (cs_tl hI.ok))
  refine lv_ishl hx hb hd ?_
  rw [ar_shl]
  exact hk _ _ _ _ _ _ _ _ hs (hI.st (cs_ok (show in32 _ from b_sl_in _ _) (cs_tl (cs_tl hI.ok))))
theorem sp_ishr  (hx : p.tables.exec = Jvm.exec) (hb : c.code = cc) (hown : s.vm.findClass own = some m.cls) (hw : ∀ w ∈ lw_good, w.before args s = true) (hc : ab_chk own cc rt init pc (.ishr, nx, a, b, x) hi hp = true) (hs : ab_stp T Y cal (.ishr, nx, a, b, x) L S h k = some r) (hI : IV s G sa A nL ac0 ac h L S H locs ls) (hk : KK p l e R s m args below meth c Q G sa A nL ce sl ac0 k r) : W p l e R s m args below meth c H locs (ce h.1) (sl h.1) Q (F0 m pc ls (S.map (cv sa ac h.1))) := by
  dsimp only [ab_stp] at hs
  dsimp only [ab_chk] at hc
  obtain ⟨y, S1, e9, h9⟩ := i1_some hs
  clear hs
  subst e9
  have hs := h9
  clear h9
  obtain ⟨z, S2, e9, h9⟩ := i1_some hs
  clear hs
  subst e9
  have hs := h9
  clear h9
  obtain ⟨hd, rfl⟩ := pl_some hc
  have hy : in32 y := in_ok (cs_hd hI.ok)
  have hz : in32 z := in_ok (cs_hd (cs_tl hI.ok))
  refine lv_ishr hx hb hd ?_
  rw [ar_shr _ hz]
  exact hk _ _ _ _ _ _ _ _ hs (hI.st (cs_ok (show in32 _ from b_sr_in _ hz) (cs_tl (cs_tl hI.ok))))
theorem sp_iushr  (hx : p.tables.exec = Jvm.exec) (hb : c.code = cc) (hown : s.vm.findClass own = some m.cls) (hw : ∀ w ∈ lw_good, w.before args s = true) (hc : ab_chk own cc rt init pc (.iushr, nx, a, b, x) hi hp = true) (hs : ab_stp T Y cal (.iushr, nx, a, b, x) L S h k = some r) (hI : IV s G sa A nL ac0 ac h L S H locs ls) (hk : KK p l e R s m args below meth c Q G sa A nL ce sl ac0 k r) : W p l e R s m args below meth c H locs (ce h.1) (sl h.1) Q (F0 m pc ls (S.map (cv sa ac h.1))) := by
  dsimp only [ab_stp] at hs
  dsimp only [ab_chk] at hc
  obtain ⟨y, S1, e9, h9⟩ := i1_some hs
  clear hs
  subst e9
  have hs := h9
  clear h9
  obtain ⟨z, S2, e9, h9⟩ := i1_some hs
  clear hs
  subst e9
  have hs := h9
  clear h9
  obtain ⟨hd, rfl⟩ := pl_some hc
  refine lv_iushr hx hb hd (ar_ush z y) ?_
  exact hk _ _ _ _ _ _ _ _ hs (hI.st (cs_ok (show in32 _ from b_us_in _ _) (cs_tl (cs_tl hI.ok))))
theorem sp_idiv  (hx : p.tables.exec = Jvm.exec) (hb : c.code = cc) (hown : s.vm.findClass own = some m.cls) (hw : ∀ w ∈ lw_good, w.before args s = true) (hc : ab_chk own cc rt init pc (.idiv, nx, a, b, x) hi hp = true) (hs : ab_stp T Y cal (.idiv, nx, a, b, x) L S h k = some r) (hI : IV s G sa A nL ac0 ac h L S H locs ls) (hk : KK p l e R s m args below meth c Q G sa A nL ce sl ac0 k r) : W p l e R s m args below meth c H locs (ce h.1) (sl h.1) Q (F0 m pc ls (S.map (cv sa ac h.1))) := by
  dsimp only [ab_stp] at hs
  dsimp only [ab_chk] at hc
  obtain ⟨y, S1, e9, h9⟩ := i1_some hs
  clear hs
  subst e9
  have hs := h9
  clear h9
  obtain ⟨z, S2, e9, h9⟩ := i1_some hs
  clear hs
  subst e9
  have hs := h9
  clear h9
  obtain ⟨h0, h9⟩ := eti_some hs
  clear hs
  have hs := h9
  clear h9
  obtain ⟨hd, rfl⟩ := pl_some hc
  have hy : in32 y := in_ok (cs_hd hI.ok)
  have hz : in32 z := in_ok (cs_hd (cs_tl hI.ok))
  refine lv_idiv hx hb hd (ar_ne hy h0) ?_
  rw [ar_div hz hy]
  exact hk _ _ _ _ _ _ _ _ hs (hI.st (cs_ok (show in32 _ from w32_in _) (cs_tl (cs_tl hI.ok))))
theorem sp_irem  (hx : p.tables.exec = Jvm.exec) (hb : c.code = cc) (hown : s.vm.findClass own = some m.cls) (hw : ∀ w ∈ lw_good, w.before args s = true) (hc : ab_chk own cc rt init pc (.irem, nx, a, b, x) hi hp = true) (hs : ab_stp T Y cal (.irem, nx, a, b, x) L S h k = some r) (hI : IV s G sa A nL ac0 ac h L S H locs ls) (hk : KK p l e R s m args below meth c Q G sa A nL ce sl ac0 k r) : W p l e R s m args below meth c H locs (ce h.1) (sl h.1) Q (F0 m pc ls (S.map (cv sa ac h.1))) := by
  dsimp only [ab_stp] at hs
  dsimp only [ab_chk] at hc
  obtain ⟨y, S1, e9, h9⟩ := i1_some hs
  clear hs
  subst e9
  have hs := h9
  clear h9
  obtain ⟨z, S2, e9, h9⟩ := i1_some hs
  clear hs
  subst e9
  have hs := h9
  clear h9
  obtain ⟨h0, h9⟩ := eti_some hs
  clear hs
  have hs := h9
  clear h9
  obtain ⟨hd, rfl⟩ := pl_some hc
  have hy : in32 y := in_ok (cs_hd hI.ok)
  have hz : in32 z := in_ok (cs_hd (cs_tl hI.ok))
  refine lv_irem hx hb hd (ar_ne hy h0) ?_
  rw [ar_rem hz hy]
  exact hk _ _ _ _ _ _ _ _ hs (hI.st (cs_ok (show in32 _ from w32_in _) (cs_tl (cs_tl hI.ok))))
theorem sp_ineg  (hx : p.tables.exec = Jvm.exec) (hb : c.code = cc) (hown : s.vm.findClass own = some m.cls) (hw : ∀ w ∈ lw_good, w.before args s = true) (hc : ab_chk own cc rt init pc (.ineg, nx, a, b, x) hi hp = true) (hs : ab_stp T Y cal (.ineg, nx, a, b, x) L S h k = some r) (hI : IV s G sa A nL ac0 ac h L S H locs ls) (hk : KK p l e R s m args below meth c Q G sa A nL ce sl ac0 k r) : W p l e R s m args below meth c H locs (ce h.1) (sl h.1) Q (F0 m pc ls (S.map (cv sa ac h.1))) := by
  dsimp only [ab_stp] at hs
  dsimp only [ab_chk] at hc
  obtain ⟨y, S1, e9, h9⟩ := i1_some hs
  clear hs
  subst e9
  have hs := h9
  clear h9
  obtain ⟨hd, rfl⟩ := pl_some hc
  refine lv_ineg hx hb hd ?_
  rw [ar_neg]
  exact hk _ _ _ _ _ _ _ _ hs (hI.st (cs_ok (show in32 _ from w32_in _) (cs_tl hI.ok)))
theorem sp_lsub  (hx : p.tables.exec = Jvm.exec) (hb : c.code = cc) (hown : s.vm.findClass own = some m.cls) (hw : ∀ w ∈ lw_good, w.before args s = true) (hc : ab_chk own cc rt init pc (.lsub, nx, a, b, x) hi hp = true) (hs : ab_stp T Y cal (.lsub, nx, a, b, x) L S h k = some r) (hI : IV s G sa A nL ac0 ac h L S H locs ls) (hk : KK p l e R s m args below meth c Q G sa A nL ce sl ac0 k r) : W p l e R s m args below meth c H locs (ce h.1) (sl h.1) Q (F0 m pc ls (S.map (cv sa ac h.1))) := by
  dsimp only [ab_stp] at hs
  dsimp only [ab_chk] at hc
  obtain ⟨y, S1, e9, h9⟩ := l1_some hs
  clear hs
  subst e9
  have hs := h9
  clear h9
  obtain ⟨z, S2, e9, h9⟩ := l1_some hs
  clear hs
  subst e9
  have hs := h9
  clear h9
  obtain ⟨hd, rfl⟩ := pl_some hc
  refine lv_lsub hx hb hd ?_
  rw [al_sub]
  exact hk _ _ _ _ _ _ _ _ hs (hI.st (cs_ok (show in64 _ from w64_in _) (cs_tl (cs_tl hI.ok))))
theorem sp_land  (hx : p.tables.exec = Jvm.exec) (hb : c.code = cc) (hown : s.vm.findClass own = some m.cls) (hw : ∀ w ∈ lw_good, w.before args s = true) (hc : ab_chk own cc rt init pc (.land, nx, a, b, x) hi hp = true) (hs : ab_stp T Y cal (.land, nx, a, b, x) L S h k = some r) (hI : IV s G sa A nL ac0 ac h L S H locs ls) (hk : KK p l e R s m args below meth c Q G sa A nL ce sl ac0 k r) : W p l e R s m args below meth c H locs (ce h.1) (sl h.1) Q (F0 m pc ls (S.map (cv sa ac h.1))) := by
  dsimp only [ab_stp] at hs
  dsimp only [ab_chk] at hc
  obtain ⟨y, S1, e9, h9⟩ := l1_some hs
  clear hs
  subst e9
  have hs := h9
  clear h9
  obtain ⟨z, S2, e9, h9⟩ := l1_some hs
  clear hs
  subst e9
  have hs := h9
  clear h9
  obtain ⟨hd, rfl⟩ := pl_some hc
  refine lv_land hx hb hd ?_
  rw [al_and]
  exact hk _ _ _ _ _ _ _ _ hs (hI.st (cs_ok (show in64 _ from d_an_in _ _) (cs_tl (cs_tl hI.ok))))
theorem sp_lor  (hx : p.tables.exec = Jvm.exec) (hb : c.code = cc) (hown : s.vm.findClass own = some m.cls) (hw : ∀ w ∈ lw_good, w.before args s = true) (hc : ab_chk own cc rt init pc (.lor, nx, a, b, x) hi hp = true) (hs : ab_stp T Y cal (.lor, nx, a, b, x) L S h k = some r) (hI : IV s G sa A nL ac0 ac h L S H locs ls) (hk : KK p l e R s m args below meth c Q G sa A nL ce sl ac0 k r) : W p l e R s m args below meth c H locs (ce h.1) (sl h.1) Q (F0 m pc ls (S.map (cv sa ac h.1))) := by
  dsimp only [ab_stp] at hs
  dsimp only [ab_chk] at hc
  obtain ⟨y, S1, e9, h9⟩ := l1_some hs
  clear hs
  subst e9
  have hs := h9
  clear h9
  obtain ⟨z, S2, e9, h9⟩ := l1_some hs
  clear hs
  subst e9
  have hs := h9
  clear h9
  obtain ⟨hd, rfl⟩ := pl_some hc
  refine lv_lor hx hb hd ?_
  rw [al_or]
  exact hk _ _ _ _ _ _ _ _ hs (hI.st (cs_ok (show in64 _ from d_orr_in _ _) (cs_tl (cs_tl hI.ok))))
theorem sp_lshl  (hx : p.tables.exec = Jvm.exec) (hb : c.code = cc) (hown : s.vm.findClass own = some m.cls) (hw : ∀ w ∈ lw_good, w.before args s = true) (hc : ab_chk own cc rt init pc (.lshl, nx, a, b, x) hi hp = true) (hs : ab_stp T Y cal (.lshl, nx, a, b, x) L S h k = some r) (hI : IV s G sa A nL ac0 ac h L S H locs ls) (hk : KK p l e R s m args below meth c Q G sa A nL ce sl ac0 k r) : W p l e R s m args below meth c H locs (ce h.1) (sl h.1) Q (F0 m pc ls (S.map (cv sa ac h.1))) := by
  dsimp only [ab_stp] at hs
  dsimp only [ab_chk] at hc
  obtain ⟨y, S1, e9, h9⟩ := i1_some hs
  clear hs
  subst e9
  have hs := h9
  clear h9
  obtain ⟨z, S2, e9, h9⟩ := l1_some hs
  clear hs
  subst e9
  have hs := h9
  clear h9
  obtain ⟨hd, rfl⟩ := pl_some hc
  refine lv_lshl hx hb hd (al_shl z y) ?_
  exact hk _ _ _ _ _ _ _ _ hs (hI.st (cs_ok (show in64 _ from d_sl_in _ _) (cs_tl (cs_tl hI.ok))))
theorem sp_lushr  (hx : p.tables.exec = Jvm.exec) (hb : c.code = cc) (hown : s.vm.findClass own = some m.cls) (hw : ∀ w ∈ lw_good, w.before args s = true) (hc : ab_chk own cc rt init pc (.lushr, nx, a, b, x) hi hp = true) (hs : ab_stp T Y cal (.lushr, nx, a, b, x) L S h k = some r) (hI : IV s G sa A nL ac0 ac h L S H locs ls) (hk : KK p l e R s m args below meth c Q G sa A nL ce sl ac0 k r) : W p l e R s m args below meth c H locs (ce h.1) (sl h.1) Q (F0 m pc ls (S.map (cv sa ac h.1))) := by
  dsimp only [ab_stp] at hs
  dsimp only [ab_chk] at hc
  obtain ⟨y, S1, e9, h9⟩ := i1_some hs
  clear hs
  subst e9
  have hs := h9
  clear h9
  obtain ⟨z, S2, e9, h9⟩ := l1_some hs
  clear hs
  subst e9
  have hs := h9
  clear h9
  obtain ⟨hd, rfl⟩ := pl_some hc
  refine lv_lushr hx hb hd (al_ush z y) ?_
  exact hk _ _ _ _ _ _ _ _ hs (hI.st (cs_ok (show in64 _ from d_us_in _ _) (cs_tl (cs_tl hI.ok))))
theorem sp_lcmp  (hx : p.tables.exec = Jvm.exec) (hb : c.code = cc) (hown : s.vm.findClass own = some m.cls) (hw : ∀ w ∈ lw_good, w.before args s = true) (hc : ab_chk own cc rt init pc (.lcmp, nx, a, b, x) hi hp = true) (hs : ab_stp T Y cal (.lcmp, nx, a, b, x) L S h k = some r) (hI : IV s G sa A nL ac0 ac h L S H locs ls) (hk : KK p l e R s m args below meth c Q G sa A nL ce sl ac0 k r) : W p l e R s m args below meth c H locs (ce h.1) (sl h.1) Q (F0 m pc ls (S.map (cv sa ac h.1))) := by
  dsimp only [ab_stp] at hs
  dsimp only [ab_chk] at hc
  obtain ⟨y, S1, e9, h9⟩ := l1_some hs
  clear hs
  subst e9
  have hs := h9
  clear h9
  obtain ⟨z, S2, e9, h9⟩ := l1_some hs
  clear hs
  subst e9
  have hs := h9
  clear h9
  obtain ⟨hd, rfl⟩ := pl_some hc
  have hy : in64 y := in_okL (cs_hd hI.ok)
  have hz : in64 z := in_okL (cs_hd (cs_tl hI.ok))
  refine W.lcmp hx hb hd ?_
  rw [al_cmp hz hy]
  exact hk _ _ _ _ _ _ _ _ hs (hI.st (cs_ok (show in32 _ by unfold d_cmp; repeat' split <;> omega) (cs_tl (cs_tl hI.ok))))
theorem sp_i2l  (hx : p.tables.exec = Jvm.exec) (hb : c.code = cc) (hown : s.vm.findClass own = some m.cls) (hw : ∀ w ∈ lw_good, w.before args s = true) (hc : ab_chk own cc rt init pc (.i2l, nx, a, b, x) hi hp = true) (hs : ab_stp T Y cal (.i2l, nx, a, b, x) L S h k = some r) (hI : IV s G sa A nL ac0 ac h L S H locs ls) (hk : KK p l e R s m args below meth c Q G sa A nL ce sl ac0 k r) : W p l e R s m args below meth c H locs (ce h.1) (sl h.1) Q (F0 m pc ls (S.map (cv sa ac h.1))) := by
  dsimp only [ab_stp] at hs
  dsimp only [ab_chk] at hc
  obtain ⟨y, S1, e9, h9⟩ := i1_some hs
  clear hs
  subst e9
  have hs := h9
  clear h9
  obtain ⟨hd, rfl⟩ := pl_some hc
  have hy : in32 y := in_ok (cs_hd hI.ok)
  refine lv_i2l hx hb hd (al_i2l hy) ?_
  exact hk _ _ _ _ _ _ _ _ hs (hI.st (cs_ok (show in64 _ from by have := hy; omega) (cs_tl hI.ok)))
theorem sp_l2i  (hx : p.tables.exec = Jvm.exec) (hb : c.code = cc) (hown : s.vm.findClass own = some m.cls) (hw : ∀ w ∈ lw_good, w.before args s = true) (hc : ab_chk own cc rt init pc (.l2i, nx, a, b, x) hi hp = true) (hs : ab_stp T Y cal (.l2i, nx, a, b, x) L S h k = some r) (hI : IV s G sa A nL ac0 ac h L S H locs ls) (hk : KK p l e R s m args below meth c Q G sa A nL ce sl ac0 k r) : W p l e R s m args below meth c H locs (ce h.1) (sl h.1) Q (F0 m pc ls (S.map (cv sa ac h.1))) := by
  dsimp only [ab_stp] at hs
  dsimp only [ab_chk] at hc
  obtain ⟨y, S1, e9, h9⟩ := l1_some hs
  clear hs
  subst e9
  have hs := h9
  clear h9
  obtain ⟨hd, rfl⟩ := pl_some hc
  refine lv_l2i hx hb hd (al_l2i y) ?_
  exact hk _ _ _ _ _ _ _ _ hs (hI.st (cs_ok (show in32 _ from w32_in _) (cs_tl hI.ok)))
theorem sp_i2b  (hx : p.tables.exec = Jvm.exec) (hb : c.code = cc) (hown : s.vm.findClass own = some m.cls) (hw : ∀ w ∈ lw_good, w.before args s = true) (hc : ab_chk own cc rt init pc (.i2b, nx, a, b, x) hi hp = true) (hs : ab_stp T Y cal (.i2b, nx, a, b, x) L S h k = some r) (hI : IV s G sa A nL ac0 ac h L S H locs ls) (hk : KK p l e R s m args below meth c Q G sa A nL ce sl ac0 k r) : W p l e R s m args below meth c H locs (ce h.1) (sl h.1) Q (F0 m pc ls (S.map (cv sa ac h.1))) := by
  dsimp only [ab_stp] at hs
  dsimp only [ab_chk] at hc
  obtain ⟨y, S1, e9, h9⟩ := i1_some hs
  clear hs
  subst e9
  have hs := h9
  clear h9
  obtain ⟨hd, rfl⟩ := pl_some hc
  refine lv_i2b hx hb hd (ar_8 y) ?_
  exact hk _ _ _ _ _ _ _ _ hs (hI.st (cs_ok (show in32 _ from w8_in _) (cs_tl hI.ok)))
theorem sp_i2s  (hx : p.tables.exec = Jvm.exec) (hb : c.code = cc) (hown : s.vm.findClass own = some m.cls) (hw : ∀ w ∈ lw_good, w.before args s = true) (hc : ab_chk own cc rt init pc (.i2s, nx, a, b, x) hi hp = true) (hs : ab_stp T Y cal (.i2s, nx, a, b, x) L S h k = some r) (hI : IV s G sa A nL ac0 ac h L S H locs ls) (hk : KK p l e R s m args below meth c Q G sa A nL ce sl ac0 k r) : W p l e R s m args below meth c H locs (ce h.1) (sl h.1) Q (F0 m pc ls (S.map (cv sa ac h.1))) := by
  dsimp only [ab_stp] at hs
  dsimp only [ab_chk] at hc
  obtain ⟨y, S1, e9, h9⟩ := i1_some hs
  clear hs
  subst e9
  have hs := h9
  clear h9
  obtain ⟨hd, rfl⟩ := pl_some hc
  refine lv_i2s hx hb hd (ar_16 y) ?_
  exact hk _ _ _ _ _ _ _ _ hs (hI.st (cs_ok (show in32 _ from w16_in _) (cs_tl hI.ok)))
theorem sp_dup  (hx : p.tables.exec = Jvm.exec) (hb : c.code = cc) (hown : s.vm.findClass own = some m.cls) (hw : ∀ w ∈ lw_good, w.before args s = true) (hc : ab_chk own cc rt init pc (.dup, nx, a, b, x) hi hp = true) (hs : ab_stp T Y cal (.dup, nx, a, b, x) L S h k = some r) (hI : IV s G sa A nL ac0 ac h L S H locs ls) (hk : KK p l e R s m args below meth c Q G sa A nL ce sl ac0 k r) : W p l e R s m args below meth c H locs (ce h.1) (sl h.1) Q (F0 m pc ls (S.map (cv sa ac h.1))) := by
  dsimp only [ab_stp] at hs
  dsimp only [ab_chk] at hc
  obtain ⟨v, S1, e9, h9, hv⟩ := c1_some hs
  clear hs
  subst e9
  have hs := h9
  clear h9
  obtain ⟨hd, rfl⟩ := pl_some hc
  refine lv_dup hx hb hd (cv_cat hv) ?_
  exact hk _ _ (v :: v :: S1) _ _ _ _ _ hs (hI.st (cs_ok (cs_hd hI.ok) hI.ok))
theorem sp_pop  (hx : p.tables.exec = Jvm.exec) (hb : c.code = cc) (hown : s.vm.findClass own = some m.cls) (hw : ∀ w ∈ lw_good, w.before args s = true) (hc : ab_chk own cc rt init pc (.pop, nx, a, b, x) hi hp = true) (hs : ab_stp T Y cal (.pop, nx, a, b, x) L S h k = some r) (hI : IV s G sa A nL ac0 ac h L S H locs ls) (hk : KK p l e R s m args below meth c Q G sa A nL ce sl ac0 k r) : W p l e R s m args below meth c H locs (ce h.1) (sl h.1) Q (F0 m pc ls (S.map (cv sa ac h.1))) := by
  dsimp only [ab_stp] at hs
  dsimp only [ab_chk] at hc
  obtain ⟨v, S1, e9, h9, hv⟩ := c1_some hs
  clear hs
  subst e9
  have hs := h9
  clear h9
  obtain ⟨hd, rfl⟩ := pl_some hc
  refine lv_pop hx hb hd (cv_cat hv) ?_
  exact hk _ _ S1 _ _ _ _ _ hs (hI.st (cs_tl hI.ok))
theorem sp_dup2  (hx : p.tables.exec = Jvm.exec) (hb : c.code = cc) (hown : s.vm.findClass own = some m.cls) (hw : ∀ w ∈ lw_good, w.before args s = true) (hc : ab_chk own cc rt init pc (.dup2, nx, a, b, x) hi hp = true) (hs : ab_stp T Y cal (.dup2, nx, a, b, x) L S h k = some r) (hI : IV s G sa A nL ac0 ac h L S H locs ls) (hk : KK p l e R s m args below meth c Q G sa A nL ce sl ac0 k r) : W p l e R s m args below meth c H locs (ce h.1) (sl h.1) Q (F0 m pc ls (S.map (cv sa ac h.1))) := by
  dsimp only [ab_stp] at hs
  dsimp only [ab_chk] at hc
  obtain ⟨v, S1, e9, h9, hv⟩ := c1_some hs
  clear hs
  subst e9
  have hs := h9
  clear h9
  obtain ⟨v2, S2, e9, h9, hv2⟩ := c1_some hs
  clear hs
  subst e9
  have hs := h9
  clear h9
  obtain ⟨hd, rfl⟩ := pl_some hc
  refine lv_dup2_11 hx hb hd (cv_cat hv) (cv_cat hv2) ?_
  exact hk _ _ (v :: v2 :: v :: v2 :: S2) _ _ _ _ _ hs (hI.st (cs_ok (cs_hd hI.ok) (cs_ok (cs_hd (cs_tl hI.ok)) hI.ok)))
theorem sp_pop2  (hx : p.tables.exec = Jvm.exec) (hb : c.code = cc) (hown : s.vm.findClass own = some m.cls) (hw : ∀ w ∈ lw_good, w.before args s = true) (hc : ab_chk own cc rt init pc (.pop2, nx, a, b, x) hi hp = true) (hs : ab_stp T Y cal (.pop2, nx, a, b, x) L S h k = some r) (hI : IV s G sa A nL ac0 ac h L S H locs ls) (hk : KK p l e R s m args below meth c Q G sa A nL ce sl ac0 k r) : W p l e R s m args below meth c H locs (ce h.1) (sl h.1) Q (F0 m pc ls (S.map (cv sa ac h.1))) := by
  dsimp only [ab_stp] at hs
  dsimp only [ab_chk] at hc
  obtain ⟨y, S1, e9, h9⟩ := l1_some hs
  clear hs
  subst e9
  have hs := h9
  clear h9
  obtain ⟨hd, rfl⟩ := pl_some hc
  refine lv_pop2_2 hx hb hd rfl ?_
  exact hk _ _ S1 _ _ _ _ _ hs (hI.st (cs_tl hI.ok))
end
