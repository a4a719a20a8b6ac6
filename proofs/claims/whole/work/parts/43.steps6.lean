section
variable {p : Program} {l : Launch} {e : Env} {R : Room} {s : State} {m : MethodId} {args : Array Value} {below : List Frame} {meth : Method} {c : Code} {Q : State → Prop} {H : Heap} {locs : List Loc} {ls : Array Slot}
variable {cc : ByteArray} {own : String} {nL : Nat} {G : va_G} {sa : Nat → Nat} {A : Nat → Prop} {X : Nat × (Nat → Int)} {ce sl : List (Nat × Nat) → Nat} {ac0 ac : List (Nat × ClassId)}
variable {rt : Option FieldType} {init : Bool} {pc nx a b hi hp : Nat} {x : Int} {T : ab_T} {Y : ab_X} {cal : ab_C} {L S : List ab_V} {h : ab_H} {k : ab_K} {r : ab_R}

theorem cvA_app {al : List (Nat × Nat)} {x9 : Nat × ClassId} {y9 q : Nat × Nat} (hl : ac.length = al.length) (hq : q ∈ al) : cvA (ac ++ [x9]) (al ++ [y9]) q = cvA ac al q := by
  have h1 : al.idxOf q < al.length := List.idxOf_lt_length_of_mem hq
  unfold cvA
  rw [List.idxOf_append, if_pos hq, List.getD_eq_getElem?_getD, List.getD_eq_getElem?_getD, List.getElem?_append_left (by omega)]
theorem cvA_new {al : List (Nat × Nat)} {x9 : Nat × ClassId} {q : Nat × Nat} (hl : ac.length = al.length) (hq : q ∉ al) : cvA (ac ++ [x9]) (al ++ [q]) q = x9.1 := by
  unfold cvA
  rw [List.idxOf_append, if_neg hq, List.getD_eq_getElem?_getD, List.getElem?_append_right (by omega)]
  simp [hl]
theorem cv_app {al : List (Nat × Nat)} {x9 : Nat × ClassId} {y9 : Nat × Nat} {v : ab_V} (hl : ac.length = al.length) (hv : okv al v) : cv sa (ac ++ [x9]) (al ++ [y9]) v = cv sa ac al v := by
  rcases v with y | y | q | j | u
  · rfl
  · rfl
  · show Value.ref _ = Value.ref _
    rw [cvA_app hl hv]
  · rfl
  · rfl
theorem okv_app {al l9 : List (Nat × Nat)} {v : ab_V} (hv : okv al v) : okv (al ++ l9) v := by
  rcases v with y | y | q | j | u
  · exact hv
  · exact hv
  · exact List.mem_append_left _ hv
  · exact hv
  · exact hv
theorem new_D {q : Nat × Nat} (hn : (a, ab_cnt h.1 a) ∉ h.1) (hq : q ∈ h.1) (j : Nat) : (ab_new h a).2.2 q.1 q.2 j = h.2.2 q.1 q.2 j := if_neg (fun z => hn (by rw [← z.2, ← z.1]; exact hq))
theorem new_R {q : Nat × Nat} (hn : (a, ab_cnt h.1 a) ∉ h.1) (hq : q ∈ h.1) (j : Nat) : (ab_new h a).2.1 q.1 q.2 j = h.2.1 q.1 q.2 j := if_neg (fun z => hn (by rw [← z.2, ← z.1]; exact hq))
theorem new_D0 (j : Nat) : (ab_new h a).2.2 a (ab_cnt h.1 a) j = 0 := if_pos ⟨rfl, rfl⟩
theorem new_R0 (j : Nat) : (ab_new h a).2.1 a (ab_cnt h.1 a) j = none := if_pos ⟨rfl, rfl⟩
theorem en_app {cA : ClassId} {x9 : Nat × ClassId} {q : Nat × Nat} (hl : ac.length = h.1.length) (hf : RF h) (hn : (a, ab_cnt h.1 a) ∉ h.1) (hq : q ∈ h.1) : en (ac ++ [x9]) (ab_new h a) cA q = en ac h cA q := by
  have e1 : ∀ j, (ab_new h a).2.2 q.1 q.2 j = h.2.2 q.1 q.2 j := new_D hn hq
  have e2 : ∀ j, ((ab_new h a).2.1 q.1 q.2 j).map (cvA (ac ++ [x9]) (ab_new h a).1) = (h.2.1 q.1 q.2 j).map (cvA ac h.1) := by
    intro j
    rw [new_R hn hq j]
    cases hr : h.2.1 q.1 q.2 j with
    | none => rfl
    | some q' =>
      show some (cvA _ _ _) = some (cvA _ _ _)
      rw [show (ab_new h a).1 = h.1 ++ [(a, ab_cnt h.1 a)] from rfl, cvA_app hl (hf q hq j q' hr)]
  unfold en fvl
  simp only [e1, e2]
theorem rgk0 (k9 : Nat) : rgk k9 0 := by
  unfold rgk
  split
  · decide
  · exact Or.inl rfl
  · decide
  · decide
  · trivial
theorem WD.push {U : State} (w : WD G ac h A U H) (hn : (a, ab_cnt h.1 a) ∉ h.1) {q9 : Nat} {cA : ClassId} {H1 : Heap} (hP : va_P G classes (wsl ac h ++ [(q9, en (ac ++ [(q9, cA)]) (ab_new h a) cA (a, ab_cnt h.1 a))]) H1) (hD : va_D A (wsl ac h ++ [(q9, en (ac ++ [(q9, cA)]) (ab_new h a) cA (a, ab_cnt h.1 a))])) (hat : (ab_tg a).1 ≠ 0 → ArrOfT U cA (fty a) ∧ va_RA U cA (fty a)) : WD G (ac ++ [(q9, cA)]) (ab_new h a) A U H1 := by
  obtain ⟨w1, w2, w3, w4, w5, w6, w7, w8⟩ := w
  have e1 : wsl (ac ++ [(q9, cA)]) (ab_new h a) = wsl ac h ++ [(q9, en (ac ++ [(q9, cA)]) (ab_new h a) cA (a, ab_cnt h.1 a))] := by
    unfold wsl
    rw [show (ab_new h a).1 = h.1 ++ [(a, ab_cnt h.1 a)] from rfl, List.zip_append w1, List.map_append]
    congr 1
    apply List.map_congr_left
    intro z hz
    have hq : z.2 ∈ h.1 := (List.of_mem_zip hz).2
    rw [en_app w1 w8 hn hq]
  rw [← e1] at hP hD
  refine ⟨by rw [List.length_append, w1]; show _ = (h.1 ++ [_]).length; rw [List.length_append]; rfl, ?_, hP, hD, w5, ?_, ?_, ?_⟩
  · show (h.1 ++ [_]).Nodup
    rw [List.nodup_append]
    exact ⟨w2, by simp, fun x hx y hy e9 => hn (by rw [List.mem_singleton] at hy; rw [← hy, ← e9]; exact hx)⟩
  · intro k9 q a9 c9 h1 h2 h3
    have h1 : (h.1 ++ [(a, ab_cnt h.1 a)])[k9]? = some q := h1
    by_cases hk9 : k9 < h.1.length
    · rw [List.getElem?_append_left hk9] at h1
      rw [List.getElem?_append_left (by omega)] at h2
      exact w6 k9 q a9 c9 h1 h2 h3
    · rw [List.getElem?_append_right (by omega)] at h1 h2
      have hz : k9 - h.1.length < 1 := (List.getElem?_eq_some_iff.mp h1).1
      rw [show k9 - h.1.length = 0 by omega] at h1
      rw [show k9 - ac.length = 0 by omega] at h2
      cases h1
      cases h2
      exact hat h3
  · intro q hq j
    rcases List.mem_append.mp hq with hq | hq
    · rw [new_D hn hq]
      exact w7 q hq j
    · rw [List.mem_singleton] at hq
      subst hq
      show rgk _ ((ab_new h a).2.2 a (ab_cnt h.1 a) j)
      rw [new_D0]
      exact rgk0 _
  · intro q hq j q' hq'
    rcases List.mem_append.mp hq with hq | hq
    · rw [new_R hn hq] at hq'
      exact List.mem_append_left _ (w8 q hq j q' hq')
    · rw [List.mem_singleton] at hq
      subst hq
      have : (ab_new h a).2.1 a (ab_cnt h.1 a) j = some q' := hq'
      rw [new_R0] at this
      cases this
theorem IV.push {q9 : Nat} {cA : ClassId} {S' : List ab_V} {H1 : Heap} {locs1 : List Loc} (hI : IV s G sa A nL ac0 ac h L S H locs ls) (hn : (a, ab_cnt h.1 a) ∉ h.1) (wd : WD G (ac ++ [(q9, cA)]) (ab_new h a) A s H1) (hS : va_S A s.heap H1 locs1) (hS' : ∀ v ∈ S', okv h.1 v) : IV s G sa A nL ac0 (ac ++ [(q9, cA)]) (ab_new h a) L (vR a (ab_cnt h.1 a) :: S') H1 locs1 ls := by
  obtain ⟨i1, i2, i3, i4, i5, i6⟩ := hI
  have hl := i2.1
  refine ⟨List.IsPrefix.trans i1 (List.prefix_append _ _), wd, hS, ?_, fun v hv => (i5 v hv).imp id okv_app, ?_⟩
  · obtain ⟨g1, g2, g3, g4⟩ := i4
    refine ⟨g1, g2, g3, fun i v e1 e2 => ?_⟩
    rw [g4 i v e1 e2, show (ab_new h a).1 = h.1 ++ [(a, ab_cnt h.1 a)] from rfl, cv_app hl ((i5 v (List.mem_of_getElem? e1)).resolve_left e2)]
  · intro v hv
    rcases List.mem_cons.mp hv with rfl | hv
    · exact List.mem_append_right _ List.mem_cons_self
    · exact okv_app (hS' v hv)
theorem map_push {q9 : Nat} {cA : ClassId} {S' : List ab_V} (hl : ac.length = h.1.length) (hn : (a, ab_cnt h.1 a) ∉ h.1) (hS' : ∀ v ∈ S', okv h.1 v) : (vR a (ab_cnt h.1 a) :: S').map (cv sa (ac ++ [(q9, cA)]) (ab_new h a).1) = .ref q9 :: S'.map (cv sa ac h.1) := by
  rw [List.map_cons]
  congr 1
  · show Value.ref (cvA _ (h.1 ++ [_]) _) = _
    rw [cvA_new hl hn]
  · exact List.map_congr_left fun v hv => cv_app hl (hS' v hv)
theorem elem_n (h9 : h.1.elem (a, ab_cnt h.1 a) = false) : (a, ab_cnt h.1 a) ∉ h.1 := fun z => by
  rw [List.elem_eq_true_of_mem z] at h9
  cases h9
theorem el_some {α : Type} {b9 : Bool} {a9 : Option α} {r9 : α} (h9 : (match b9 with | true => none | false => a9) = some r9) : b9 = false ∧ a9 = some r9 := by
  cases b9
  · exact ⟨rfl, h9⟩
  · cases h9
/-- how many slots a place has -/
def szq (q : Nat × Nat) : Nat := if (ab_tg q.1).1 = 0 then ab_nf q.1 else (ab_tg q.1).2
theorem cls_inst : ∀ t, t < 13 → (Cond.instantiable (ab_cls t).1 (ab_cls t).2.2) ∈ lw_tbl ∧ (Cond.initialized (ab_cls t).1) ∈ lw_tbl := by decide +kernel
theorem arr_cls : Cond.arrayClass .int ∈ lw_tbl ∧ Cond.arrayClass .byte ∈ lw_tbl ∧ Cond.arrayClass .boolean ∈ lw_tbl ∧ Cond.arrayClass .long ∈ lw_tbl := by decide +kernel
theorem arr_ov : ∀ t, t < 70 → (ab_tg t).1 = 5 → Cond.arrayOver (.object (ab_cls (ab_el t)).1) ∈ lw_tbl := by decide +kernel
theorem df_ty {t k9 : Nat} (ht : t < 13) (hk9 : k9 < (ab_cls t).2.2) : defaultValue (cls_ty t k9) = fvl ac (ab_new h t) (t, ab_cnt h.1 t) k9 := by
  have hle : ab_fk t k9 = 0 ∨ ab_fk t k9 = 1 ∨ ab_fk t k9 = 2 ∨ ab_fk t k9 = 3 := by have := fk_le t ht k9 hk9; omega
  have hfk := cls_fkt ht hk9
  unfold fvl
  dsimp only
  rw [new_D0, new_R0]
  rcases hle with e9 | e9 | e9 | e9 <;> rw [e9] at hfk ⊢
  · rw [fk0 hfk]; rfl
  · rw [fk1 hfk]; rfl
  · rw [fk2 hfk]; rfl
  · rcases fk3 hfk with ⟨n9, z⟩ | ⟨n9, z⟩ <;> rw [z] <;> rfl

theorem sp_new {n : Nat} (hx : p.tables.exec = Jvm.exec) (hb : c.code = cc) (hown : s.vm.findClass own = some m.cls) (hw : ∀ w ∈ lw_good, w.before args s = true) (hc : ab_chk own cc rt init pc (.new n, nx, a, b, x) hi hp = true) (hs : ab_stp T Y cal (.new n, nx, a, b, x) L S h k = some r) (hst : ST sa A X s) (hY : Y.2 = X) (hT : T = ab_tg) (hce : ∀ (al : List (Nat × Nat)) (q : Nat × Nat), ac0.length ≤ al.length → ce (al ++ [q]) = ce al + 1 ∧ sl (al ++ [q]) = sl al + szq q) (hgr : ∀ pc L S h', k pc L S h' = some r → ce h'.1 ≤ R.cells ∧ sl h'.1 ≤ R.slots) (hA : ∀ q, s.heap.size ≤ q → A q) (hI : IV s G sa A nL ac0 ac h L S H locs ls) (hk : KK p l e R s m args below meth c Q G sa A nL ce sl ac0 k r) : W p l e R s m args below meth c H locs (ce h.1) (sl h.1) Q (F0 m pc ls (S.map (cv sa ac h.1))) := by
  dsimp only [ab_stp] at hs
  dsimp only [ab_chk] at hc
  obtain ⟨hd, rfl, ht, hlk⟩ := of_decide_eq_true hc
  obtain ⟨hel, h9⟩ := el_some hs
  clear hs
  have hs := h9
  clear h9
  have hn := elem_n hel
  have wd := hI.2.1
  obtain ⟨w1, w2, w3, w4, w5, w6, w7, w8⟩ := id wd
  have hle : ac0.length ≤ h.1.length := by rw [← w1]; exact hI.1.length_le
  obtain ⟨e1, e2⟩ := hce h.1 (a, ab_cnt h.1 a) hle
  have e3 : szq (a, ab_cnt h.1 a) = (ab_cls a).2.2 := by
    unfold szq
    rw [if_pos (tg_obj a ht).1, (tg_obj a ht).2]
  rw [e3] at e2
  obtain ⟨g1, g2⟩ := hgr _ _ _ _ hs
  have g1 : ce (h.1 ++ [(a, ab_cnt h.1 a)]) ≤ R.cells := g1
  have g2 : sl (h.1 ++ [(a, ab_cnt h.1 a)]) ≤ R.slots := g2
  rw [e1] at g1
  rw [e2] at g2
  refine va_new hx hb hw (cls_in ht) (cls_ty a) (cls_tyok ht) hown (hw _ (wd_in hlk rfl)) (hw _ (List.mem_filter.mpr ⟨(cls_inst a ht).1, rfl⟩)) (hw _ (List.mem_filter.mpr ⟨(cls_inst a ht).2, rfl⟩)) w5 w3 w4 hI.2.2.1 hA (cls_at ht) (fs := (List.range (ab_cls a).2.2).map (fvl ac (ab_new h a) (a, ab_cnt h.1 a))) (fun j hj => ?_) g1 g2 hd fun q9 H1 q1 q2 q3 => ?_
  · rw [df_ty ht hj]
    unfold vp_V
    rw [List.getD_eq_getElem?_getD, fs_get hj]
    rfl
  · have e5 : ∀ x9, (List.range (ab_cls a).2.2).map (fvl ac (ab_new h a) (a, ab_cnt h.1 a)) = (List.range (ab_cls a).2.2).map (fvl (ac ++ [x9]) (ab_new h a) (a, ab_cnt h.1 a)) := fun x9 => List.map_congr_left fun j _ => by
      unfold fvl
      dsimp only
      rw [new_D0, new_R0]
      rfl
    rw [e5 (q9, 0), ← en_obj (cA := 0) (q := (a, ab_cnt h.1 a)) ht] at q1 q2
    have z9 := hk _ _ _ _ _ _ _ _ hs (hI.push hn (wd.push hn q1 q2 (fun z => absurd (tg_obj a ht).1 z)) q3 hI.ok)
    rw [map_push w1 hn hI.ok, show (ab_new h a).1 = h.1 ++ [(a, ab_cnt h.1 a)] from rfl, e1, e2] at z9
    exact z9
theorem sp_newarray {n : ArrayType} (hx : p.tables.exec = Jvm.exec) (hb : c.code = cc) (hown : s.vm.findClass own = some m.cls) (hw : ∀ w ∈ lw_good, w.before args s = true) (hc : ab_chk own cc rt init pc (.newarray n, nx, a, b, x) hi hp = true) (hs : ab_stp T Y cal (.newarray n, nx, a, b, x) L S h k = some r) (hst : ST sa A X s) (hY : Y.2 = X) (hT : T = ab_tg) (hce : ∀ (al : List (Nat × Nat)) (q : Nat × Nat), ac0.length ≤ al.length → ce (al ++ [q]) = ce al + 1 ∧ sl (al ++ [q]) = sl al + szq q) (hgr : ∀ pc L S h', k pc L S h' = some r → ce h'.1 ≤ R.cells ∧ sl h'.1 ≤ R.slots) (hA : ∀ q, s.heap.size ≤ q → A q) (hI : IV s G sa A nL ac0 ac h L S H locs ls) (hk : KK p l e R s m args below meth c Q G sa A nL ce sl ac0 k r) : W p l e R s m args below meth c H locs (ce h.1) (sl h.1) Q (F0 m pc ls (S.map (cv sa ac h.1))) := by
  dsimp only [ab_stp] at hs
  dsimp only [ab_chk] at hc
  subst hT
  obtain ⟨hd, rfl, c1, c2⟩ := of_decide_eq_true hc
  obtain ⟨y, S1, e9, h9⟩ := i1_some hs
  clear hs
  subst e9
  have hs := h9
  clear h9
  obtain ⟨hel, h9⟩ := el_some hs
  clear hs
  have hs := h9
  clear h9
  obtain ⟨hy0, h9⟩ := ite_some hs
  clear hs
  have hs := h9
  clear h9
  subst hy0
  have hn := elem_n hel
  have wd := hI.2.1
  have hy : in32 ((ab_tg a).2 : Int) := in_ok (cs_hd hI.ok)
  obtain ⟨w1, w2, w3, w4, w5, w6, w7, w8⟩ := id wd
  have hle : ac0.length ≤ h.1.length := by rw [← w1]; exact hI.1.length_le
  obtain ⟨e1, e2⟩ := hce h.1 (a, ab_cnt h.1 a) hle
  have e3 : szq (a, ab_cnt h.1 a) = (ab_tg a).2 := by
    unfold szq
    rw [if_neg (by show ¬ (ab_tg a).1 = 0; omega)]
  rw [e3] at e2
  obtain ⟨g1, g2⟩ := hgr _ _ _ _ hs
  have g1 : ce (h.1 ++ [(a, ab_cnt h.1 a)]) ≤ R.cells := g1
  have g2 : sl (h.1 ++ [(a, ab_cnt h.1 a)]) ≤ R.slots := g2
  rw [e1] at g1
  rw [e2] at g2
  have hkd : (ab_tg a).1 = 1 ∨ (ab_tg a).1 = 2 ∨ (ab_tg a).1 = 3 ∨ (ab_tg a).1 = 4 := by omega
  rcases hkd with e9 | e9 | e9 | e9
  · have hcls : (Cond.arrayClass (newarray.typeOf (ab_aty (ab_tg a).1))).before args s = true := by rw [e9]; exact hw _ (List.mem_filter.mpr ⟨arr_cls.1, rfl⟩)
    refine va_newa hx hb hcls (ty := .int) (by rw [e9]; rfl) w5 w3 w4 hI.2.2.1 hA (a0 := ((ab_tg a).2, .inl (fun _ => 0))) (fun cA => rfl) (by rw [Int32.lt_iff_toInt_lt, ar_to hy]; show ¬ _ < (0 : Int); omega) (by rw [cl_n hy]; exact Int.toNat_natCast _) (by have := tg_in a; simp [componentBytes]; omega) g1 g2 hd fun q9 cA H1 qk q1 q2 q3 => ?_
    have e5 : en (ac ++ [(q9, cA)]) (ab_new h a) cA (a, ab_cnt h.1 a) = .inl (cA, (ab_tg a).2, .inl (fun _ => 0)) := by
      rw [en_1 (q := (a, ab_cnt h.1 a)) (Or.inl e9)]
      simp only [new_D0]
      rfl
    rw [← e5] at q1 q2
    have hat : ArrOfT s cA (fty a) ∧ va_RA s cA (fty a) := by rw [fty_1 e9]; exact qk.2 0 _ rfl
    have z9 := hk _ _ _ _ _ _ _ _ hs (hI.push hn (wd.push hn q1 q2 (fun _ => hat)) q3 (cs_tl hI.ok))
    rw [map_push w1 hn (cs_tl hI.ok), show (ab_new h a).1 = h.1 ++ [(a, ab_cnt h.1 a)] from rfl, e1, e2] at z9
    exact z9
  · have hcls : (Cond.arrayClass (newarray.typeOf (ab_aty (ab_tg a).1))).before args s = true := by rw [e9]; exact hw _ (List.mem_filter.mpr ⟨arr_cls.2.1, rfl⟩)
    refine va_newa hx hb hcls (ty := .byte) (by rw [e9]; rfl) w5 w3 w4 hI.2.2.1 hA (a0 := ((ab_tg a).2, .inl (fun _ => 0))) (fun cA => rfl) (by rw [Int32.lt_iff_toInt_lt, ar_to hy]; show ¬ _ < (0 : Int); omega) (by rw [cl_n hy]; exact Int.toNat_natCast _) (by have := tg_in a; simp [componentBytes]; omega) g1 g2 hd fun q9 cA H1 qk q1 q2 q3 => ?_
    have e5 : en (ac ++ [(q9, cA)]) (ab_new h a) cA (a, ab_cnt h.1 a) = .inl (cA, (ab_tg a).2, .inl (fun _ => 0)) := by
      rw [en_1 (q := (a, ab_cnt h.1 a)) (Or.inr (Or.inl e9))]
      simp only [new_D0]
      rfl
    rw [← e5] at q1 q2
    have hat : ArrOfT s cA (fty a) ∧ va_RA s cA (fty a) := by rw [fty_2 e9]; exact qk.2 0 _ rfl
    have z9 := hk _ _ _ _ _ _ _ _ hs (hI.push hn (wd.push hn q1 q2 (fun _ => hat)) q3 (cs_tl hI.ok))
    rw [map_push w1 hn (cs_tl hI.ok), show (ab_new h a).1 = h.1 ++ [(a, ab_cnt h.1 a)] from rfl, e1, e2] at z9
    exact z9
  · have hcls : (Cond.arrayClass (newarray.typeOf (ab_aty (ab_tg a).1))).before args s = true := by rw [e9]; exact hw _ (List.mem_filter.mpr ⟨arr_cls.2.2.1, rfl⟩)
    refine va_newa hx hb hcls (ty := .boolean) (by rw [e9]; rfl) w5 w3 w4 hI.2.2.1 hA (a0 := ((ab_tg a).2, .inl (fun _ => 0))) (fun cA => rfl) (by rw [Int32.lt_iff_toInt_lt, ar_to hy]; show ¬ _ < (0 : Int); omega) (by rw [cl_n hy]; exact Int.toNat_natCast _) (by have := tg_in a; simp [componentBytes]; omega) g1 g2 hd fun q9 cA H1 qk q1 q2 q3 => ?_
    have e5 : en (ac ++ [(q9, cA)]) (ab_new h a) cA (a, ab_cnt h.1 a) = .inl (cA, (ab_tg a).2, .inl (fun _ => 0)) := by
      rw [en_1 (q := (a, ab_cnt h.1 a)) (Or.inr (Or.inr e9))]
      simp only [new_D0]
      rfl
    rw [← e5] at q1 q2
    have hat : ArrOfT s cA (fty a) ∧ va_RA s cA (fty a) := by rw [fty_3 e9]; exact qk.2 0 _ rfl
    have z9 := hk _ _ _ _ _ _ _ _ hs (hI.push hn (wd.push hn q1 q2 (fun _ => hat)) q3 (cs_tl hI.ok))
    rw [map_push w1 hn (cs_tl hI.ok), show (ab_new h a).1 = h.1 ++ [(a, ab_cnt h.1 a)] from rfl, e1, e2] at z9
    exact z9
  · have hcls : (Cond.arrayClass (newarray.typeOf (ab_aty (ab_tg a).1))).before args s = true := by rw [e9]; exact hw _ (List.mem_filter.mpr ⟨arr_cls.2.2.2, rfl⟩)
    refine va_newa hx hb hcls (ty := .long) (by rw [e9]; rfl) w5 w3 w4 hI.2.2.1 hA (a0 := ((ab_tg a).2, .inr (.inl (fun _ => 0)))) (fun cA => rfl) (by rw [Int32.lt_iff_toInt_lt, ar_to hy]; show ¬ _ < (0 : Int); omega) (by rw [cl_n hy]; exact Int.toNat_natCast _) (by have := tg_in a; simp [componentBytes]; omega) g1 g2 hd fun q9 cA H1 qk q1 q2 q3 => ?_
    have e5 : en (ac ++ [(q9, cA)]) (ab_new h a) cA (a, ab_cnt h.1 a) = .inl (cA, (ab_tg a).2, .inr (.inl (fun _ => 0))) := by
      rw [en_4 (q := (a, ab_cnt h.1 a)) e9]
      simp only [new_D0]
      rfl
    rw [← e5] at q1 q2
    have hat : ArrOfT s cA (fty a) ∧ va_RA s cA (fty a) := by rw [fty_4 e9]; exact qk.2 0 _ rfl
    have z9 := hk _ _ _ _ _ _ _ _ hs (hI.push hn (wd.push hn q1 q2 (fun _ => hat)) q3 (cs_tl hI.ok))
    rw [map_push w1 hn (cs_tl hI.ok), show (ab_new h a).1 = h.1 ++ [(a, ab_cnt h.1 a)] from rfl, e1, e2] at z9
    exact z9
theorem sp_anewarray {n : Nat} (hx : p.tables.exec = Jvm.exec) (hb : c.code = cc) (hown : s.vm.findClass own = some m.cls) (hw : ∀ w ∈ lw_good, w.before args s = true) (hc : ab_chk own cc rt init pc (.anewarray n, nx, a, b, x) hi hp = true) (hs : ab_stp T Y cal (.anewarray n, nx, a, b, x) L S h k = some r) (hst : ST sa A X s) (hY : Y.2 = X) (hT : T = ab_tg) (hce : ∀ (al : List (Nat × Nat)) (q : Nat × Nat), ac0.length ≤ al.length → ce (al ++ [q]) = ce al + 1 ∧ sl (al ++ [q]) = sl al + szq q) (hgr : ∀ pc L S h', k pc L S h' = some r → ce h'.1 ≤ R.cells ∧ sl h'.1 ≤ R.slots) (hA : ∀ q, s.heap.size ≤ q → A q) (hI : IV s G sa A nL ac0 ac h L S H locs ls) (hk : KK p l e R s m args below meth c Q G sa A nL ce sl ac0 k r) : W p l e R s m args below meth c H locs (ce h.1) (sl h.1) Q (F0 m pc ls (S.map (cv sa ac h.1))) := by
  dsimp only [ab_stp] at hs
  dsimp only [ab_chk] at hc
  subst hT
  obtain ⟨hd, rfl, e9, hlk⟩ := of_decide_eq_true hc
  obtain ⟨y, S1, e9, h9⟩ := i1_some hs
  clear hs
  subst e9
  have hs := h9
  clear h9
  obtain ⟨hel, h9⟩ := el_some hs
  clear hs
  have hs := h9
  clear h9
  obtain ⟨hy0, h9⟩ := ite_some hs
  clear hs
  have hs := h9
  clear h9
  subst hy0
  have hn := elem_n hel
  have wd := hI.2.1
  have hy : in32 ((ab_tg a).2 : Int) := in_ok (cs_hd hI.ok)
  obtain ⟨w1, w2, w3, w4, w5, w6, w7, w8⟩ := id wd
  have hle : ac0.length ≤ h.1.length := by rw [← w1]; exact hI.1.length_le
  obtain ⟨e1, e2⟩ := hce h.1 (a, ab_cnt h.1 a) hle
  have e3 : szq (a, ab_cnt h.1 a) = (ab_tg a).2 := by
    unfold szq
    rw [if_neg (by show ¬ (ab_tg a).1 = 0; omega)]
  rw [e3] at e2
  obtain ⟨g1, g2⟩ := hgr _ _ _ _ hs
  have g1 : ce (h.1 ++ [(a, ab_cnt h.1 a)]) ≤ R.cells := g1
  have g2 : sl (h.1 ++ [(a, ab_cnt h.1 a)]) ≤ R.slots := g2
  rw [e1] at g1
  rw [e2] at g2
  have ha7 : a < 70 := by
    rcases Nat.lt_or_ge a 70 with q | q
    · exact q
    · rw [tg_big q] at e9; cases e9
  refine va_newq hx hb hown (hw _ (wd_in hlk rfl)) (hst.2.2.1 _ (arr_ov a ha7 e9)) w5 w3 w4 hI.2.2.1 hA (by rw [Int32.lt_iff_toInt_lt, ar_to hy]; show ¬ _ < (0 : Int); omega) (by rw [cl_n hy]; exact Int.toNat_natCast _) (by have := tg_in a; omega) g1 g2 hd fun q9 cA H1 qk q1 q2 q3 => ?_
  have e5 : en (ac ++ [(q9, cA)]) (ab_new h a) cA (a, ab_cnt h.1 a) = .inl (cA, (ab_tg a).2, .inr (.inr (.inr (.inr (fun _ => none))))) := by
    rw [en_5 (q := (a, ab_cnt h.1 a)) e9]
    simp only [new_R0]
    rfl
  rw [← e5] at q1 q2
  have hat : ArrOfT s cA (fty a) ∧ va_RA s cA (fty a) := by rw [fty_5 e9]; exact qk.2 0 _ rfl
  have z9 := hk _ _ _ _ _ _ _ _ hs (hI.push hn (wd.push hn q1 q2 (fun _ => hat)) q3 (cs_tl hI.ok))
  rw [map_push w1 hn (cs_tl hI.ok), show (ab_new h a).1 = h.1 ++ [(a, ab_cnt h.1 a)] from rfl, e1, e2] at z9
  exact z9
end
