section
variable {l : Launch} {X : Nat × (Nat → Int)}
theorem chks_lk {own : String} {cc : ByteArray} {rt : Option FieldType} {init : Bool} : ∀ (cd : List (Nat × List Nat × ab_E)) (hs : List (Nat × Nat)), ab_chks own cc rt init cd hs = true → ∀ (pc : Nat) (e : List Nat × ab_E), ab_lk cd pc = some e → ∃ hi hp, ab_chk own cc rt init pc e.2 hi hp = true
  | [], _, _, pc, e, h9 => by cases h9
  | (p0, k0, e0) :: cd, hs, hc, pc, e, h9 => by
    have key : ∃ hi hp hs', ab_chk own cc rt init p0 e0 hi hp = true ∧ ab_chks own cc rt init cd hs' = true := by
      cases hs with
      | nil =>
        have hc : (ab_chk own cc rt init p0 e0 0 0 && ab_chks own cc rt init cd []) = true := hc
        rw [Bool.and_eq_true] at hc
        exact ⟨0, 0, [], hc.1, hc.2⟩
      | cons z hs =>
        obtain ⟨hi, hp⟩ := z
        have hc : (ab_chk own cc rt init p0 e0 hi hp && ab_chks own cc rt init cd hs) = true := hc
        rw [Bool.and_eq_true] at hc
        exact ⟨hi, hp, hs, hc.1, hc.2⟩
    obtain ⟨hi, hp, hs', g1, g2⟩ := key
    have h9 : (match Nat.beq p0 pc with | true => some (k0, e0) | false => ab_lk cd pc) = some e := h9
    cases hb : Nat.beq p0 pc with
    | true =>
      rw [hb] at h9
      cases h9
      have := bq hb
      subst this
      exact ⟨hi, hp, g1⟩
    | false =>
      rw [hb] at h9
      exact chks_lk cd hs' g2 pc e h9
theorem ent_ok {sa : Nat → Nat} {ac : List (Nat × ClassId)} {al : List (Nat × Nat)} : ∀ (as : List ab_V), (∀ v ∈ as, okv al v) → (lg_sl (as.map (cv sa ac al))).length = (ab_ent as).length ∧ (∀ (i : Nat) (v : ab_V), (ab_ent as)[i]? = some v → v ≠ vU → (lg_sl (as.map (cv sa ac al)))[i]? = some (.val (cv sa ac al v))) ∧ ∀ v ∈ ab_ent as, v = vU ∨ okv al v
  | [], _ => ⟨rfl, fun i v h1 => (by simp [ab_ent] at h1), fun v hv => by cases hv⟩
  | w :: as, h9 => by
    obtain ⟨i1, i2, i3⟩ := ent_ok (sa := sa) (ac := ac) as (fun v hv => h9 v (List.mem_cons_of_mem _ hv))
    have hw := h9 w List.mem_cons_self
    have one : (∀ y, w ≠ vL y) → ab_ent (w :: as) = w :: ab_ent as ∧ lg_sl ((w :: as).map (cv sa ac al)) = .val (cv sa ac al w) :: lg_sl (as.map (cv sa ac al)) := by
      intro hn
      rcases w with y | y | q | j | u
      · exact ⟨rfl, rfl⟩
      · exact absurd rfl (hn y)
      · exact ⟨rfl, rfl⟩
      · exact ⟨rfl, rfl⟩
      · exact ⟨rfl, rfl⟩
    by_cases hl : ∃ y, w = vL y
    · obtain ⟨y, rfl⟩ := hl
      have e1 : ab_ent (vL y :: as) = vL y :: vU :: ab_ent as := rfl
      have e2 : lg_sl ((vL y :: as).map (cv sa ac al)) = .val (cv sa ac al (vL y)) :: .second :: lg_sl (as.map (cv sa ac al)) := rfl
      rw [e1, e2]
      refine ⟨by simp [i1], fun i v h1 h2 => ?_, fun v hv => ?_⟩
      · match i, h1 with
        | 0, h1 => cases h1; rfl
        | 1, h1 => cases h1; exact absurd rfl h2
        | i + 2, h1 => exact i2 i v h1 h2
      · rcases List.mem_cons.mp hv with rfl | hv
        · exact Or.inr hw
        · rcases List.mem_cons.mp hv with rfl | hv
          · exact Or.inl rfl
          · exact i3 v hv
    · obtain ⟨e1, e2⟩ := one (fun y hy => hl ⟨y, hy⟩)
      rw [e1, e2]
      refine ⟨by simp [i1], fun i v h1 h2 => ?_, fun v hv => ?_⟩
      · match i, h1 with
        | 0, h1 => cases h1; rfl
        | i + 1, h1 => exact i2 i v h1 h2
      · rcases List.mem_cons.mp hv with rfl | hv
        · exact Or.inr hw
        · exact i3 v hv
theorem ent_LH {sa : Nat → Nat} {ac : List (Nat × ClassId)} {al : List (Nat × Nat)} {as : List ab_V} {n : Nat} (h9 : ∀ v ∈ as, okv al v) (hl : (ab_ent as).length ≤ n) : LH ((lg_sl (as.map (cv sa ac al)) ++ List.replicate (n - (lg_sl (as.map (cv sa ac al))).length) Slot.unset).toArray) n (cv sa ac al) (ab_pad n (ab_ent as)) := by
  obtain ⟨i1, i2, i3⟩ := ent_ok (sa := sa) (ac := ac) as h9
  have hv := lv_entry (as.map (cv sa ac al)) (n := n) (by rw [i1]; exact hl)
  refine ⟨by unfold ab_pad; rw [List.length_append, List.length_replicate]; omega, hv.1, hv.2.1, fun i v e1 e2 => ?_⟩
  unfold ab_pad at e1
  by_cases hi : i < (ab_ent as).length
  · rw [List.getElem?_append_left hi] at e1
    have q := i2 i v e1 e2
    rw [List.getElem?_toArray, List.getElem?_append_left (by rw [i1]; exact hi)]
    exact q
  · rw [List.getElem?_append_right (by omega)] at e1
    have := List.mem_of_getElem? e1
    rw [List.mem_replicate] at this
    exact absurd this.2 e2
theorem pad_ok {al : List (Nat × Nat)} {as : List ab_V} {n : Nat} (h9 : ∀ v ∈ as, okv al v) : ∀ v ∈ ab_pad n (ab_ent as), v = vU ∨ okv al v := by
  intro v hv
  unfold ab_pad at hv
  rcases List.mem_append.mp hv with z | z
  · exact (ent_ok (sa := fun _ => 0) (ac := []) as h9).2.2 v z
  · exact Or.inl (List.mem_replicate.mp z).2
/-- a method's code is what its class file has -/
def COK (m9 : Nat) : Prop := (∀ (pc : Nat) (e : List Nat × ab_E), ab_lk (ab_cds m9) pc = some e → ∃ hi hp, ab_chk (ab_mt m9).1.cls (ab_mt m9).2.1 (ab_mt m9).2.2.2 (decide ((ab_mt m9).1.name = "<init>")) pc e.2 hi hp = true) ∧ ab_nl m9 = (ab_mt m9).2.2.1
/-- the texts' own methods: what is said of them here is shown elsewhere -/
def STR (l : Launch) (X : Nat × (Nat → Int)) : Prop := ∀ (p : Program) (e : Env) (R : Room) (s : State) (m : MethodId) (args : Array Value) (below : List Frame) (meth : Method) (c : Code) (Q : State → Prop) (G : va_G) (sa : Nat → Nat) (A : Nat → Prop) (nL : Nat) (ce sl : List (Nat × Nat) → Nat) (ac0 : List (Nat × ClassId)) (own : String) (cc : ByteArray) (rt : Option FieldType) (init : Bool) (cal : ab_C) (r : ab_R), p.tables.exec = Jvm.exec → c.code = cc → c.maxLocals = nL → s.vm.findClass own = some m.cls → (∀ w ∈ lw_good, w.before args s = true) → ST sa A X s → 8 ≤ R.frames → 400 ≤ R.locals → ∀ L S h k (pc nx a b hi hp : Nat) (x : Int) (op : Instr) (ac : List (Nat × ClassId)) (H : Heap) (locs : List Loc) (ls : Array Slot), (op = .castore ∨ op = .d2f) → ab_chk own cc rt init pc (op, nx, a, b, x) hi hp = true → ab_stp ab_tg (ab_tx, X) cal (op, nx, a, b, x) L S h k = some r → (∀ pc L S h', k pc L S h' = some r → ce h'.1 ≤ R.cells ∧ sl h'.1 ≤ R.slots) → IV s G sa A nL ac0 ac h L S H locs ls → KK p l e R s m args below meth c Q G sa A nL ce sl ac0 k r → W p l e R s m args below meth c H locs (ce h.1) (sl h.1) Q (F0 m pc ls (S.map (cv sa ac h.1)))
theorem LH.kill1 {ls : Array Slot} {nL : Nat} {f : ab_V → Value} {L : List ab_V} (h : LH ls nL f L) (i : Nat) : LH ls nL f (L.set i vU) := by
  obtain ⟨h1, h2, h3, h4⟩ := h
  refine ⟨by rw [List.length_set]; exact h1, h2, h3, fun j v e1 e2 => ?_⟩
  by_cases hj : j = i
  · subst hj
    by_cases hl : j < L.length
    · rw [List.getElem?_set_self hl] at e1
      cases e1
      exact absurd rfl e2
    · rw [List.getElem?_eq_none_iff.mpr (by rw [List.length_set]; omega)] at e1
      cases e1
  · rw [List.getElem?_set_ne (Ne.symm hj)] at e1
    exact h4 j v e1 e2
theorem IV.kill {s : State} {G : va_G} {sa : Nat → Nat} {A : Nat → Prop} {nL : Nat} {ac0 ac : List (Nat × ClassId)} {h : ab_H} {S : List ab_V} {H : Heap} {locs : List Loc} {ls : Array Slot} : ∀ (ks : List Nat) {L : List ab_V}, IV s G sa A nL ac0 ac h L S H locs ls → IV s G sa A nL ac0 ac h (ab_kl ks L) S H locs ls
  | [], _, hI => hI
  | i :: ks, L, hI => by
    refine IV.kill ks (L := L.set i vU) ?_
    obtain ⟨i1, i2, i3, i4, i5, i6⟩ := hI
    refine ⟨i1, i2, i3, i4.kill1 i, fun v hv => ?_, i6⟩
    rcases List.mem_or_eq_of_mem_set hv with q | q
    · exact i5 v q
    · exact Or.inl q
/-- the run of a method's body is met -/
theorem itr_W {p : Program} {e : Env} {R : Room} {s : State} {m : MethodId} {args : Array Value} {below : List Frame} {meth : Method} {c : Code} {Q : State → Prop} {own : String} {cc : ByteArray} {rt : Option FieldType} {init : Bool} {nL : Nat} {G : va_G} {sa : Nat → Nat} {A : Nat → Prop} {ce sl : List (Nat × Nat) → Nat} {ac0 : List (Nat × ClassId)} {cal : ab_C} {r : ab_R} {cd : List (Nat × List Nat × ab_E)} (hx : p.tables.exec = Jvm.exec) (hb : c.code = cc) (hown : s.vm.findClass own = some m.cls) (hw : ∀ w ∈ lw_good, w.before args s = true) (hin : init = true → meth.name = "<init>") (hst : ST sa A X s) (hnl : c.maxLocals = nL) {d : Nat} (hd8 : 8 ≤ d + 1) (hRd : d + 1 ≤ R.frames ∧ 60 * (d + 1) ≤ R.locals) (hmk : ∀ m9, m9 < 292 → MOK m9) (hcm : ∀ m9, m9 < 292 → CM l X d m9 cal) (hce : ∀ (al l8 : List (Nat × Nat)), ac0.length ≤ al.length → ce (al ++ l8) = ce al + l8.length ∧ sl (al ++ l8) = sl al + (l8.map szq).sum) (hA : ∀ q, s.heap.size ≤ q → A q) (hstr : STR l X) (hck : ∀ (pc : Nat) (e : List Nat × ab_E), ab_lk cd pc = some e → ∃ hi hp, ab_chk own cc rt init pc e.2 hi hp = true) (hcg : ∀ m as h r, cal m as h = some r → h.1 <+: r.2.1) (hmr : ce r.2.1 ≤ R.cells ∧ sl r.2.1 ≤ R.slots) (hmo : ∀ al al' : List (Nat × Nat), al <+: al' → ce al ≤ ce al' ∧ sl al ≤ sl al')
    (hret : ∀ L S h k (pc hi hp : Nat) (e9 : ab_E) (ac : List (Nat × ClassId)) (H : Heap) (locs : List Loc) (ls : Array Slot), (e9.1 = .ireturn ∨ e9.1 = .lreturn ∨ e9.1 = .return_) → ab_chk own cc rt init pc e9 hi hp = true → ab_stp ab_tg (ab_tx, X) cal e9 L S h k = some r → IV s G sa A nL ac0 ac h L S H locs ls → W p l e R s m args below meth c H locs (ce h.1) (sl h.1) Q (F0 m pc ls (S.map (cv sa ac h.1)))) :
    ∀ (n : Nat), KK p l e R s m args below meth c Q G sa A nL ce sl ac0 (ab_itr ab_tg (ab_tx, X) (ab_lk cd) cal n) r := by
  intro n
  induction n with
  | zero =>
    intro pc L S h ac H locs ls h9 hI
    cases h9
  | succ n ih =>
    intro pc L S h ac H locs ls h9 hI
    unfold ab_itr at h9
    split at h9
    · rename_i e9 he9
      obtain ⟨hi, hp, hc⟩ := hck pc e9 he9
      have hgrow : ∀ pc L S (h' : ab_H), ab_itr ab_tg (ab_tx, X) (ab_lk cd) cal n pc L S h' = some r → ce h'.1 ≤ R.cells ∧ sl h'.1 ≤ R.slots := by
        intro pc L S h' h8
        obtain ⟨z1, z2⟩ := hmo _ _ (itr_grow hcg n pc L S h' h8)
        omega
      exact sp_all hx hb hown hw hin hst hnl hRd hmk hcm hce hA hc h9 hgrow (hI.kill e9.1) ih (hstr p e R s m args below meth c Q G sa A nL ce sl ac0 own cc rt init cal r hx hb hnl hown hw hst (by omega) (by omega)) hret
    · cases h9
def ce_ (n0 : Nat) (al : List (Nat × Nat)) : Nat := al.length - n0
def sl_ (n0 : Nat) (al : List (Nat × Nat)) : Nat := ((al.drop n0).map szq).sum
theorem ce_app {n0 : Nat} (al l8 : List (Nat × Nat)) (hl : n0 ≤ al.length) : ce_ n0 (al ++ l8) = ce_ n0 al + l8.length ∧ sl_ n0 (al ++ l8) = sl_ n0 al + (l8.map szq).sum := by
  unfold ce_ sl_
  refine ⟨by rw [List.length_append]; omega, ?_⟩
  rw [List.drop_append_of_le_length hl, List.map_append, List.sum_append]
theorem ce_mo {n0 : Nat} (al al' : List (Nat × Nat)) (h9 : al <+: al') : ce_ n0 al ≤ ce_ n0 al' ∧ sl_ n0 al ≤ sl_ n0 al' := by
  obtain ⟨l8, rfl⟩ := h9
  unfold ce_ sl_
  refine ⟨by rw [List.length_append]; omega, ?_⟩
  rw [List.drop_append, List.map_append, List.sum_append]
  omega
theorem ce_0 (al : List (Nat × Nat)) : ce_ al.length al = 0 ∧ sl_ al.length al = 0 := by
  unfold ce_ sl_
  rw [List.drop_length]
  exact ⟨Nat.sub_self _, rfl⟩
set_option maxHeartbeats 1000000 in
/-- A METHOD IS MET, if those that it calls are -/
theorem met_up (hstr : STR l X) (hmk : ∀ m9, m9 < 292 → MOK m9) (hco : ∀ m9, m9 < 292 → COK m9) (d : Nat) (hcm : ∀ m9, m9 < 292 → CM l X (d + 8) m9 (ev X d)) (m9 : Nat) (hm : m9 < 292) : CM l X (d + 9) m9 (ev X (d + 1)) := by
  intro as h r h9 hok
  obtain ⟨l8, h8⟩ := ev_grow (d + 1) m9 as h r h9
  refine ⟨l8, h8.symm, fun G sa A ac => ?_⟩
  have mk := hmk m9 hm
  obtain ⟨co, hnl9⟩ := hco m9 hm
  have h9 : (match Nat.ble (ab_ent as).length (ab_nl m9) with | true => ab_lim ab_tg (ab_tx, X) (ab_lk (ab_cds m9)) (ev X d) 0 (ab_pad (ab_nl m9) (ab_ent as)) [] h | false => none) = some r := h9
  obtain ⟨hle, h9⟩ := beq_some h9
  have hle := Nat.le_of_ble_eq_true hle
  obtain ⟨n, hn⟩ := ab_lim_to h9
  refine Met.ofW (cc := (ab_mt m9).2.1) (maxL := (ab_mt m9).2.2.1) (ret := (ab_mt m9).2.2.2) mk.2.2.2.2.2.2.1 rfl ?_
  intro p e s m args below meth c s₁ B hml hv
  obtain ⟨rfl, hwd, hst, hA⟩ := hv
  have hx := B.exec
  have hb := B.bytes
  have hr := B.returns
  have hts := atoms_spec (ws := wm m9) B.pre
  have hw : ∀ w ∈ lw_good, w.before ((as.map (cv sa ac h.1)).toArray) s = true := fun w hw => hts w (List.mem_cons_of_mem _ hw)
  have hown : s.vm.findClass (ab_mt m9).1.cls = some m.cls := findClass_of_methodNamed B.named
  have hlocks := B.notSynchronized
  have hin : decide ((ab_mt m9).1.name = "<init>") = true → meth.name = "<init>" := fun z => (name_of_methodNamed B.named B.method).1.trans (of_decide_eq_true z)
  have hl0 : ac.length = h.1.length := hwd.1
  have e1 : ce_ ac.length r.2.1 = l8.length ∧ sl_ ac.length r.2.1 = (l8.map szq).sum := by
    obtain ⟨z1, z2⟩ := ce_app (n0 := ac.length) h.1 l8 (by omega)
    obtain ⟨z3, z4⟩ := ce_0 h.1
    rw [h8, hl0, z3] at z1
    rw [h8, hl0, z4] at z2
    rw [hl0]
    exact ⟨by omega, by omega⟩
  have hI : IV s G sa A (ab_mt m9).2.2.1 ac ac h (ab_pad (ab_mt m9).2.2.1 (ab_ent as)) [] s.heap [] ((lg_sl (as.map (cv sa ac h.1)) ++ List.replicate ((ab_mt m9).2.2.1 - (lg_sl (as.map (cv sa ac h.1))).length) Slot.unset).toArray) := ⟨List.prefix_rfl, hwd, va_S.rf, ent_LH hok (by rw [← hnl9]; exact hle), pad_ok hok, fun v hv => by cases hv⟩
  have z := itr_W (l := l) (R := (headSpec (wm m9) (rmd (d + 9) l8)).room) (e := e) (below := below) (Q := MQ below (QC G sa A ac r) ((as.map (cv sa ac h.1)).toArray) s (ce_ ac.length r.2.1) (sl_ ac.length r.2.1) A) (cd := ab_cds m9) (cal := ev X d) (ac0 := ac) (ce := ce_ ac.length) (sl := sl_ ac.length) (r := r) hx hb hown hw hin hst hml (d := d + 8) (by omega) ⟨Nat.le_refl _, Nat.le_refl _⟩ hmk hcm ce_app hA hstr co (fun m as h r => ev_grow d m as h r) ⟨by rw [e1.1]; exact Nat.le_refl _, by rw [e1.2]; exact Nat.le_refl _⟩ ce_mo (fun L S h k pc hi hp e9 ac' H locs ls g1 g2 g3 g4 => sp_ret (r0 := r) hlocks hx hb hr g1 g2 g3 g4) n 0 _ _ _ _ _ _ _ (by rw [hnl9] at hn; exact hn) hI
  rw [lg_entry_eq]
  rw [hl0, (ce_0 h.1).1, (ce_0 h.1).2, ← hl0, e1.1, e1.2] at z
  exact z
end
