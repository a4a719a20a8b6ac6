section
variable {p : Program} {l : Launch} {e : Env} {R : Room} {s : State} {m : MethodId} {args : Array Value} {below : List Frame} {meth : Method} {c : Code} {Q : State → Prop} {H : Heap} {locs : List Loc} {ls : Array Slot}
variable {cc : ByteArray} {own : String} {nL : Nat} {G : va_G} {sa : Nat → Nat} {A : Nat → Prop} {X : Nat × (Nat → Int)} {ce sl : List (Nat × Nat) → Nat} {ac0 ac : List (Nat × ClassId)}
variable {rt : Option FieldType} {init : Bool} {pc nx a b hi hp : Nat} {x : Int} {T : ab_T} {Y : ab_X} {cal : ab_C} {L S : List ab_V} {h : ab_H} {k : ab_K} {r : ab_R}

theorem sp_getfield {n : Nat} (hx : p.tables.exec = Jvm.exec) (hb : c.code = cc) (hown : s.vm.findClass own = some m.cls) (hw : ∀ w ∈ lw_good, w.before args s = true) (hc : ab_chk own cc rt init pc (.getfield n, nx, a, b, x) hi hp = true) (hs : ab_stp T Y cal (.getfield n, nx, a, b, x) L S h k = some r) (hI : IV s G sa A nL ac0 ac h L S H locs ls) (hk : KK p l e R s m args below meth c Q G sa A nL ce sl ac0 k r) : W p l e R s m args below meth c H locs (ce h.1) (sl h.1) Q (F0 m pc ls (S.map (cv sa ac h.1))) := by
  dsimp only [ab_stp] at hs
  dsimp only [ab_chk] at hc
  obtain ⟨t, i, S1, e9, h9⟩ := r1_some hs
  clear hs
  subst e9
  have hs := h9
  clear h9
  obtain ⟨hb1, h9⟩ := beq_some hs
  clear hs
  have hs := h9
  clear h9
  have hta : t = a := Nat.eq_of_beq_eq_true hb1
  subst hta
  obtain ⟨hd, rfl, ht, hbN, rfl, hlk⟩ := of_decide_eq_true hc
  have hq : (t, i) ∈ h.1 := cs_hd hI.ok
  obtain ⟨w1, w2, w3, w4, w5, w6, w7, w8⟩ := hI.2.1
  obtain ⟨cA, p1, p2⟩ := al_pos w1 hq
  have he := wsl_get p1 p2
  rw [en_obj (q := (t, i)) ht] at he
  refine va_get hx hb hw (cls_in ht) hown w5 w3 _ he (cls_at ht) b hbN (hw _ (wd_in hlk rfl)) (fun _ z => z) (fs_get hbN) hd ?_
  have hrg := w7 (t, i) hq b
  rw [kk_obj ht] at hrg
  have hrf := w8 (t, i) hq b
  unfold fvl
  dsimp only at hrg hrf ⊢
  have hle : ab_fk t b = 0 ∨ ab_fk t b = 1 ∨ ab_fk t b = 2 ∨ ab_fk t b = 3 := by have := fk_le t ht b hbN; omega
  rcases hle with e9 | e9 | e9 | e9 <;> rw [e9] at hs hrg ⊢
  · exact hk _ _ _ _ _ _ _ _ hs (hI.st (cs_ok (show in32 _ from hrg) (cs_tl hI.ok)))
  · exact hk _ _ _ _ _ _ _ _ hs (hI.st (cs_ok (show in32 _ by rcases hrg with z | z <;> rw [z] <;> decide) (cs_tl hI.ok)))
  · exact hk _ _ _ _ _ _ _ _ hs (hI.st (cs_ok (show in64 _ from hrg) (cs_tl hI.ok)))
  · obtain ⟨q', hq', h9⟩ := rf_some hs
    clear hs
    have hs := h9
    clear h9
    rw [hq']
    exact hk _ _ _ _ _ _ _ _ hs (hI.st (cs_ok (show _ ∈ _ from hrf q' hq') (cs_tl hI.ok)))
theorem fk0 {ty : FieldType} (h9 : fkOf ty = 0) : ty = .int := by cases ty <;> first | rfl | cases h9
theorem fk1 {ty : FieldType} (h9 : fkOf ty = 1) : ty = .boolean := by cases ty <;> first | rfl | cases h9
theorem fk2 {ty : FieldType} (h9 : fkOf ty = 2) : ty = .long := by cases ty <;> first | rfl | cases h9
theorem fk3 {ty : FieldType} (h9 : fkOf ty = 3) : (∃ n, ty = .object n) ∨ ∃ t, ty = .array t := by cases ty <;> first | exact Or.inl ⟨_, rfl⟩ | exact Or.inr ⟨_, rfl⟩ | cases h9
/-- a field is written -/
theorem pf_row (hx : p.tables.exec = Jvm.exec) (hb : c.code = cc) (hown : s.vm.findClass own = some m.cls) (hw : ∀ w ∈ lw_good, w.before args s = true) (hin : init = true → meth.name = "<init>") (ht : a < 13) (hbN : b < (ab_cls a).2.2) (hd : decode cc pc = .ok (.putfield hi, 3)) (hfin : ((ab_cls a).2.1 b).2.2.2 = false ∨ (((ab_cls a).2.1 b).2.2.2 = true ∧ init = true ∧ ((ab_cls a).2.1 b).1 = own)) (hlk : lw_tbl[hp]? = some (.fieldLink own hi ((ab_cls a).2.1 b).1 ((ab_cls a).2.1 b).2.1 ((ab_cls a).2.1 b).2.2.1)) {i : Nat} (hq : (a, i) ∈ h.1) (wd : WD G ac h A s H) (hS : va_S A s.heap H locs) {v : Value} {h' : ab_H} {cells slots : Nat} {rest : List Value} (hv : fvl ac h' (a, i) b = v) (hoth : ∀ j, j ≠ b → fvl ac h' (a, i) j = fvl ac h (a, i) j) (hn : narrow (cls_ty a b) v = v) (hfit : fits (cls_ty a b) v = true)
    (kk : ∀ (cA : ClassId) (H1 : Heap) (locs1 : List Loc), ac[h.1.idxOf (a, i)]? = some (cvA ac h.1 (a, i), cA) → va_P G classes ((wsl ac h).set (h.1.idxOf (a, i)) (cvA ac h.1 (a, i), en ac h' cA (a, i))) H1 → va_D A ((wsl ac h).set (h.1.idxOf (a, i)) (cvA ac h.1 (a, i), en ac h' cA (a, i))) → va_S A s.heap H1 locs1 → W p l e R s m args below meth c H1 locs1 cells slots Q (F0 m (pc + 3) ls rest)) : W p l e R s m args below meth c H locs cells slots Q (F0 m pc ls (v :: .ref (cvA ac h.1 (a, i)) :: rest)) := by
  obtain ⟨w1, w2, w3, w4, w5, w6, w7, w8⟩ := wd
  obtain ⟨cA, p1, p2⟩ := al_pos w1 hq
  have he := wsl_get p1 p2
  rw [en_obj (q := (a, i)) ht] at he
  have e1 : en ac h' cA (a, i) = .inr (a, ((List.range (ab_cls a).2.2).map (fvl ac h (a, i))).set b v) := by
    rw [en_obj (q := (a, i)) ht, ← hv, fs_set hbN hoth]
  have fin := kk cA
  rw [e1] at fin
  have hl : b < ((List.range (ab_cls a).2.2).map (fvl ac h (a, i))).length := by rw [List.length_map, List.length_range]; exact hbN
  rcases hfin with hf | ⟨hf, hi9, hdec⟩
  · exact va_put hx hb hw (cls_in ht) (cls_ty a) (cls_tyok ht) (cls_nm a ht) hown w5 w3 w4 hS _ he (cls_at ht) b hbN (hw _ (wd_in hlk rfl)) (fun _ z => z) hf (cls_tyok ht b hbN) hn hfit hl hd (fun H1 locs1 q1 q2 q3 => fin H1 locs1 p2 q1 q2 q3)
  · exact va_putF hx hb hw (cls_in ht) (cls_ty a) (cls_tyok ht) (cls_nm a ht) hown w5 w3 w4 hS _ he (cls_at ht) b hbN (hw _ (wd_in hlk rfl)) (fun _ z => z) hf (hin hi9) hdec (cls_tyok ht b hbN) hn hfit hl hd (fun H1 locs1 q1 q2 q3 => fin H1 locs1 p2 q1 q2 q3)
theorem fv_D {q : Nat × Nat} {k9 j : Nat} {y : Int} (hj : j ≠ k9) : fvl ac (h.1, h.2.1, u3 h.2.2 q.1 q.2 k9 y) q j = fvl ac h q j := by
  have e9 : u3 h.2.2 q.1 q.2 k9 y q.1 q.2 j = h.2.2 q.1 q.2 j := u3_n (fun z => hj z.2.2)
  unfold fvl
  simp only [e9]
theorem fv_R {q q2 : Nat × Nat} {k9 j : Nat} (hj : j ≠ k9) : fvl ac (h.1, u3 h.2.1 q.1 q.2 k9 (some q2), h.2.2) q j = fvl ac h q j := by
  have e9 : u3 h.2.1 q.1 q.2 k9 (some q2) q.1 q.2 j = h.2.1 q.1 q.2 j := u3_n (fun z => hj z.2.2)
  unfold fvl
  simp only [e9]
theorem fv_Ds {q : Nat × Nat} {k9 : Nat} {y : Int} (hf : ab_fk q.1 k9 = 0 ∨ ab_fk q.1 k9 = 1) : fvl ac (h.1, h.2.1, u3 h.2.2 q.1 q.2 k9 y) q k9 = .int (Int32.ofInt y) := by
  unfold fvl
  simp only [u3_s]
  rcases hf with e9 | e9 <;> rw [e9] <;> rfl
theorem fv_Dl {q : Nat × Nat} {k9 : Nat} {y : Int} (hf : ab_fk q.1 k9 = 2) : fvl ac (h.1, h.2.1, u3 h.2.2 q.1 q.2 k9 y) q k9 = .long (Int64.ofInt y) := by
  unfold fvl
  simp only [u3_s]
  rw [hf]
  rfl
theorem fv_Rs {q q2 : Nat × Nat} {k9 : Nat} (hf : ab_fk q.1 k9 = 3) : fvl ac (h.1, u3 h.2.1 q.1 q.2 k9 (some q2), h.2.2) q k9 = .ref (cvA ac h.1 q2) := by
  unfold fvl
  simp only [u3_s]
  rw [hf]
  rfl
theorem IV.go {h' : ab_H} {S' : List ab_V} {H1 : Heap} {locs1 : List Loc} (hI : IV s G sa A nL ac0 ac h L S H locs ls) (ha : h'.1 = h.1) (wd : WD G ac h' A s H1) (hS : va_S A s.heap H1 locs1) (hS' : ∀ v ∈ S', okv h.1 v) : IV s G sa A nL ac0 ac h' L S' H1 locs1 ls := by
  obtain ⟨i1, i2, i3, i4, i5, i6⟩ := hI
  exact ⟨i1, wd, hS, by rw [ha]; exact i4, by rw [ha]; exact i5, by rw [ha]; exact hS'⟩

theorem sp_putfield {n : Nat} (hx : p.tables.exec = Jvm.exec) (hb : c.code = cc) (hown : s.vm.findClass own = some m.cls) (hw : ∀ w ∈ lw_good, w.before args s = true) (hin : init = true → meth.name = "<init>") (hc : ab_chk own cc rt init pc (.putfield n, nx, a, b, x) hi hp = true) (hs : ab_stp T Y cal (.putfield n, nx, a, b, x) L S h k = some r) (hI : IV s G sa A nL ac0 ac h L S H locs ls) (hk : KK p l e R s m args below meth c Q G sa A nL ce sl ac0 k r) : W p l e R s m args below meth c H locs (ce h.1) (sl h.1) Q (F0 m pc ls (S.map (cv sa ac h.1))) := by
  dsimp only [ab_stp] at hs
  dsimp only [ab_chk] at hc
  obtain ⟨hd, rfl, ht, hbN, rfl, hfin, hlk⟩ := of_decide_eq_true hc
  have hle : ab_fk a b = 0 ∨ ab_fk a b = 1 ∨ ab_fk a b = 2 ∨ ab_fk a b = 3 := by have := fk_le a ht b hbN; omega
  rcases hle with e9 | e9 | e9 | e9 <;> rw [e9] at hs
  · obtain ⟨y, S1, e9, h9⟩ := i1_some hs
    clear hs
    subst e9
    have hs := h9
    clear h9
    obtain ⟨t, i, S2, e9, h9⟩ := r1_some hs
    clear hs
    subst e9
    have hs := h9
    clear h9
    obtain ⟨hb1, h9⟩ := beq_some hs
    clear hs
    have hs := h9
    clear h9
    have hta : t = a := Nat.eq_of_beq_eq_true hb1
    subst hta
    have hq : (t, i) ∈ h.1 := cs_hd (cs_tl hI.ok)
    have hfk := (cls_fkt ht hbN).trans e9
    refine pf_row (h' := (h.1, h.2.1, u3 h.2.2 t i b y)) hx hb hown hw hin ht hbN hd hfin hlk hq hI.2.1 hI.2.2.1 (fv_Ds (q := (t, i)) (Or.inl e9)) (fun j hj => fv_D (q := (t, i)) hj) (by rw [fk0 hfk]; rfl) (by rw [fk0 hfk]; rfl) fun cA H1 locs1 q0 q1 q2 q3 => ?_
    have hr : rgk (kk t b) y := by rw [kk_obj ht, e9]; exact show in32 y from cs_hd hI.ok
    have z9 := hk _ _ _ _ _ _ _ _ hs (hI.go (h' := (h.1, h.2.1, u3 h.2.2 t i b y)) rfl (hI.2.1.putD (q := (t, i)) hq hr q0 q1 q2) q3 (cs_tl (cs_tl hI.ok)))
    exact z9
  · obtain ⟨y, S1, e9, h9⟩ := i1_some hs
    clear hs
    subst e9
    have hs := h9
    clear h9
    obtain ⟨t, i, S2, e9, h9⟩ := r1_some hs
    clear hs
    subst e9
    have hs := h9
    clear h9
    obtain ⟨hb1, h9⟩ := beq_some hs
    clear hs
    have hs := h9
    clear h9
    have hta : t = a := Nat.eq_of_beq_eq_true hb1
    subst hta
    obtain ⟨hz, h9⟩ := ite_some hs
    clear hs
    have hs := h9
    clear h9
    have hq : (t, i) ∈ h.1 := cs_hd (cs_tl hI.ok)
    have hfk := (cls_fkt ht hbN).trans e9
    refine pf_row (h' := (h.1, h.2.1, u3 h.2.2 t i b y)) hx hb hown hw hin ht hbN hd hfin hlk hq hI.2.1 hI.2.2.1 (fv_Ds (q := (t, i)) (Or.inr e9)) (fun j hj => fv_D (q := (t, i)) hj) (by rw [fk1 hfk]; rcases hz with z | z <;> rw [z] <;> rfl) (by rw [fk1 hfk]; rcases hz with z | z <;> rw [z] <;> rfl) fun cA H1 locs1 q0 q1 q2 q3 => ?_
    have hr : rgk (kk t b) y := by rw [kk_obj ht, e9]; exact hz
    have z9 := hk _ _ _ _ _ _ _ _ hs (hI.go (h' := (h.1, h.2.1, u3 h.2.2 t i b y)) rfl (hI.2.1.putD (q := (t, i)) hq hr q0 q1 q2) q3 (cs_tl (cs_tl hI.ok)))
    exact z9
  · obtain ⟨y, S1, e9, h9⟩ := l1_some hs
    clear hs
    subst e9
    have hs := h9
    clear h9
    obtain ⟨t, i, S2, e9, h9⟩ := r1_some hs
    clear hs
    subst e9
    have hs := h9
    clear h9
    obtain ⟨hb1, h9⟩ := beq_some hs
    clear hs
    have hs := h9
    clear h9
    have hta : t = a := Nat.eq_of_beq_eq_true hb1
    subst hta
    have hq : (t, i) ∈ h.1 := cs_hd (cs_tl hI.ok)
    have hfk := (cls_fkt ht hbN).trans e9
    refine pf_row (h' := (h.1, h.2.1, u3 h.2.2 t i b y)) hx hb hown hw hin ht hbN hd hfin hlk hq hI.2.1 hI.2.2.1 (fv_Dl (q := (t, i)) e9) (fun j hj => fv_D (q := (t, i)) hj) (by rw [fk2 hfk]; rfl) (by rw [fk2 hfk]; rfl) fun cA H1 locs1 q0 q1 q2 q3 => ?_
    have hr : rgk (kk t b) y := by rw [kk_obj ht, e9]; exact show in64 y from cs_hd hI.ok
    have z9 := hk _ _ _ _ _ _ _ _ hs (hI.go (h' := (h.1, h.2.1, u3 h.2.2 t i b y)) rfl (hI.2.1.putD (q := (t, i)) hq hr q0 q1 q2) q3 (cs_tl (cs_tl hI.ok)))
    exact z9
  · obtain ⟨t', i', S1, e9, h9⟩ := r1_some hs
    clear hs
    subst e9
    have hs := h9
    clear h9
    obtain ⟨t, i, S2, e9, h9⟩ := r1_some hs
    clear hs
    subst e9
    have hs := h9
    clear h9
    obtain ⟨hb1, h9⟩ := beq_some hs
    clear hs
    have hs := h9
    clear h9
    have hta : t = a := Nat.eq_of_beq_eq_true hb1
    subst hta
    have hq : (t, i) ∈ h.1 := cs_hd (cs_tl hI.ok)
    have hq2 : (t', i') ∈ h.1 := cs_hd hI.ok
    have hfk := (cls_fkt ht hbN).trans e9
    refine pf_row (h' := (h.1, u3 h.2.1 t i b (some (t', i')), h.2.2)) hx hb hown hw hin ht hbN hd hfin hlk hq hI.2.1 hI.2.2.1 (fv_Rs (q := (t, i)) e9) (fun j hj => fv_R (q := (t, i)) hj) (by rcases fk3 hfk with ⟨n9, z⟩ | ⟨n9, z⟩ <;> rw [z] <;> rfl) (by rcases fk3 hfk with ⟨n9, z⟩ | ⟨n9, z⟩ <;> rw [z] <;> rfl) fun cA H1 locs1 q0 q1 q2 q3 => ?_
    have z9 := hk _ _ _ _ _ _ _ _ hs (hI.go (h' := (h.1, u3 h.2.1 t i b (some (t', i')), h.2.2)) rfl (hI.2.1.putR (q := (t, i)) (q2 := (t', i')) hq hq2 q0 q1 q2) q3 (cs_tl (cs_tl hI.ok)))
    exact z9
end
