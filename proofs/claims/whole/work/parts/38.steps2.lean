section
variable {p : Program} {l : Launch} {e : Env} {R : Room} {s : State} {m : MethodId} {args : Array Value} {below : List Frame} {meth : Method} {c : Code} {Q : State → Prop} {H : Heap} {locs : List Loc} {ls : Array Slot}
variable {cc : ByteArray} {own : String} {nL : Nat} {G : va_G} {sa : Nat → Nat} {A : Nat → Prop} {X : Nat × (Nat → Int)} {ce sl : List (Nat × Nat) → Nat} {ac0 ac : List (Nat × ClassId)}
variable {rt : Option FieldType} {init : Bool} {pc nx a b hi hp : Nat} {x : Int} {T : ab_T} {Y : ab_X} {cal : ab_C} {L S : List ab_V} {h : ab_H} {k : ab_K} {r : ab_R}

theorem cv_c2 {al : List (Nat × Nat)} (w : ab_V) (h2 : (cv sa ac al w).category = 2) : ∃ y, w = vL y := by
  rcases w with y | y | q | j | u
  · cases h2
  · exact ⟨y, rfl⟩
  · cases h2
  · cases h2
  · cases h2
theorem st_get {i : Nat} {v : ab_V} {j : Nat} {w : ab_V} (hi : i < L.length) (e1 : (ab_st L i v)[j]? = some w) (e2 : w ≠ vU) : (j = i ∧ w = v) ∨ (j ≠ i ∧ L[j]? = some w ∧ (j + 1 = i → ∀ x, w ≠ vL x)) := by
  unfold ab_st at e1
  split at e1
  · by_cases hj : j = 0
    · subst hj
      rw [List.getElem?_set_self (by omega)] at e1
      cases e1
      exact Or.inl ⟨rfl, rfl⟩
    · rw [List.getElem?_set_ne (Ne.symm hj)] at e1
      exact Or.inr ⟨hj, e1, fun e => absurd e (by omega)⟩
  · rename_i k
    split at e1
    · rename_i y hy
      by_cases hj : j = k + 1
      · subst hj
        rw [List.getElem?_set_self (by rw [List.length_set]; omega)] at e1
        cases e1
        exact Or.inl ⟨rfl, rfl⟩
      · rw [List.getElem?_set_ne (Ne.symm hj)] at e1
        by_cases hj2 : j = k
        · subst hj2
          rw [List.getElem?_set_self (by omega)] at e1
          cases e1
          exact absurd rfl e2
        · rw [List.getElem?_set_ne (Ne.symm hj2)] at e1
          exact Or.inr ⟨hj, e1, fun e => absurd e (by omega)⟩
    · rename_i hy
      by_cases hj : j = k + 1
      · subst hj
        rw [List.getElem?_set_self (by omega)] at e1
        cases e1
        exact Or.inl ⟨rfl, rfl⟩
      · rw [List.getElem?_set_ne (Ne.symm hj)] at e1
        refine Or.inr ⟨hj, e1, fun e x hx => ?_⟩
        have : j = k := by omega
        subst this
        subst hx
        exact hy x e1
theorem st_ln (i : Nat) (v : ab_V) : (ab_st L i v).length = L.length := by
  unfold ab_st
  split
  · exact List.length_set
  · split
    · rw [List.length_set, List.length_set]
    · exact List.length_set
theorem st_ok {al : List (Nat × Nat)} {i : Nat} {v : ab_V} (hi : i < L.length) (h1 : ∀ w ∈ L, w = vU ∨ okv al w) (h2 : okv al v) : ∀ w ∈ ab_st L i v, w = vU ∨ okv al w := by
  intro w hw
  obtain ⟨j, hj⟩ := List.getElem?_of_mem hw
  by_cases e2 : w = vU
  · exact Or.inl e2
  · rcases st_get hi hj e2 with ⟨-, rfl⟩ | ⟨-, h3, -⟩
    · exact Or.inr h2
    · exact h1 w (List.mem_of_getElem? h3)
theorem LH.st2 {f : ab_V → Value} (hL : LH ls nL f L) {i : Nat} {v : ab_V} (hi : i + 1 < nL) (hf : ∀ w, (f w).category = 2 → ∃ x, w = vL x) {ls' : Array Slot} (hs : lv_has ls' nL ((i, f v) :: (lvo f L).filter (fun q => !(q.1 == i) && (!(q.1 == i + 1) && !(q.1 + 1 == i && q.2.category == 2))))) : LH ls' nL f (ab_st2 L i v) := by
  have hl := hL.1
  refine LH.of (by unfold ab_st2; rw [List.length_set, st_ln]; exact hl) hs fun j w e1 e2 => ?_
  unfold ab_st2 at e1
  by_cases hj : j = i + 1
  · subst hj
    rw [List.getElem?_set_self (by rw [st_ln]; omega)] at e1
    cases e1
    exact absurd rfl e2
  · rw [List.getElem?_set_ne (Ne.symm hj)] at e1
    rcases st_get (by omega) e1 e2 with ⟨rfl, rfl⟩ | ⟨g1, g2, g3⟩
    · exact List.mem_cons_self
    · refine List.mem_cons_of_mem _ (List.mem_filter.mpr ⟨lvo_mem.mpr ⟨w, g2, e2, rfl⟩, ?_⟩)
      show (!(j == i) && (!(j == i + 1) && !(j + 1 == i && (f w).category == 2))) = true
      have g4 : (j == i) = false := by simpa using g1
      have g5 : (j == i + 1) = false := by simpa using hj
      rw [g4, g5]
      by_cases g6 : j + 1 = i
      · have g7 : ¬ (f w).category = 2 := fun e => by
          obtain ⟨x, hx⟩ := hf w e
          exact g3 g6 x hx
        simp [g7]
      · simp [g6]
theorem l4_some {f : Nat → Instr} {g : Fin 4 → Instr} (hc : ab_l4 cc pc nx a f g = true) : (decode cc pc = .ok (f a, 2) ∧ nx = pc + 2) ∨ (decode cc pc = .ok (g (Fin.ofNat 4 a), 1) ∧ nx = pc + 1 ∧ a < 4) := of_decide_eq_true hc
theorem f4 (ha : a < 4) : ((Fin.ofNat 4 a : Fin 4) : Nat) = a := Nat.mod_eq_of_lt ha
theorem ar_i8 {y : Int} (h1 : -128 ≤ y) (h2 : y < 128) : (Int8.ofInt y).toInt32 = Int32.ofInt y := by
  apply ar_eq
  rw [Int8.toInt_toInt32, ar_to ⟨by omega, by omega⟩, Int8.toInt_ofInt]
  show Int.bmod _ 256 = _
  unfold Int.bmod
  dsimp only
  split <;> omega
theorem ar_i16 {y : Int} (h1 : -32768 ≤ y) (h2 : y < 32768) : (Int16.ofInt y).toInt32 = Int32.ofInt y := by
  apply ar_eq
  rw [Int16.toInt_toInt32, ar_to ⟨by omega, by omega⟩, Int16.toInt_ofInt]
  show Int.bmod _ 65536 = _
  unfold Int.bmod
  dsimp only
  split <;> omega
theorem wd_in {w : Cond} (h1 : lw_tbl[hp]? = some w) (h2 : goodWord w = true) : w ∈ lw_good := List.mem_filter.mpr ⟨List.mem_of_getElem? h1, h2⟩

theorem sp_iconst {n : Int} (hx : p.tables.exec = Jvm.exec) (hb : c.code = cc) (hown : s.vm.findClass own = some m.cls) (hw : ∀ w ∈ lw_good, w.before args s = true) (hc : ab_chk own cc rt init pc (.iconst n, nx, a, b, x) hi hp = true) (hs : ab_stp T Y cal (.iconst n, nx, a, b, x) L S h k = some r) (hI : IV s G sa A nL ac0 ac h L S H locs ls) (hk : KK p l e R s m args below meth c Q G sa A nL ce sl ac0 k r) : W p l e R s m args below meth c H locs (ce h.1) (sl h.1) Q (F0 m pc ls (S.map (cv sa ac h.1))) := by
  dsimp only [ab_stp] at hs
  dsimp only [ab_chk] at hc
  have hc := of_decide_eq_true hc
  have fin : in32 x → W p l e R s m args below meth c H locs (ce h.1) (sl h.1) Q (F0 m nx ls (.int (Int32.ofInt x) :: S.map (cv sa ac h.1))) := fun hxx => hk _ _ _ _ _ _ _ _ hs (hI.st (cs_ok (show in32 _ from hxx) hI.ok))
  rcases hc with ⟨hd, rfl, h1⟩ | ⟨hd, rfl, h1, h2⟩ | ⟨hd, rfl, h1, h2⟩ | ⟨hd, rfl, h1, h2⟩ | ⟨hd, rfl, h1, h2⟩
  · exact lv_iconst hx hb hd rfl (fin h1)
  · exact lv_bipush hx hb hd (ar_i8 h1 h2) (fin ⟨by omega, by omega⟩)
  · exact lv_sipush hx hb hd (ar_i16 h1 h2) (fin ⟨by omega, by omega⟩)
  · exact lv_ldc hx hb hown (hw _ (wd_in h2 rfl)) hd (fin h1)
  · exact lv_ldcw hx hb hown (hw _ (wd_in h2 rfl)) hd (fin h1)
theorem sp_lconst {n : Nat} (hx : p.tables.exec = Jvm.exec) (hb : c.code = cc) (hown : s.vm.findClass own = some m.cls) (hw : ∀ w ∈ lw_good, w.before args s = true) (hc : ab_chk own cc rt init pc (.ldc2_w n, nx, a, b, x) hi hp = true) (hs : ab_stp T Y cal (.ldc2_w n, nx, a, b, x) L S h k = some r) (hI : IV s G sa A nL ac0 ac h L S H locs ls) (hk : KK p l e R s m args below meth c Q G sa A nL ce sl ac0 k r) : W p l e R s m args below meth c H locs (ce h.1) (sl h.1) Q (F0 m pc ls (S.map (cv sa ac h.1))) := by
  dsimp only [ab_stp] at hs
  dsimp only [ab_chk] at hc
  have hc := of_decide_eq_true hc
  have fin : in64 x → W p l e R s m args below meth c H locs (ce h.1) (sl h.1) Q (F0 m nx ls (.long (Int64.ofInt x) :: S.map (cv sa ac h.1))) := fun hxx => hk _ _ _ _ _ _ _ _ hs (hI.st (cs_ok (show in64 _ from hxx) hI.ok))
  rcases hc with ⟨hd, rfl, rfl⟩ | ⟨hd, rfl, rfl⟩ | ⟨hd, rfl, h1, h2⟩
  · exact lv_lconst hx hb hd rfl (fin (by decide))
  · exact lv_lconst hx hb hd rfl (fin (by decide))
  · exact lv_ldc2 hx hb hown (hw _ (wd_in h2 rfl)) hd (fin h1)
theorem sp_iload {n : Nat} (hx : p.tables.exec = Jvm.exec) (hb : c.code = cc) (hown : s.vm.findClass own = some m.cls) (hw : ∀ w ∈ lw_good, w.before args s = true) (hc : ab_chk own cc rt init pc (.iload n, nx, a, b, x) hi hp = true) (hs : ab_stp T Y cal (.iload n, nx, a, b, x) L S h k = some r) (hI : IV s G sa A nL ac0 ac h L S H locs ls) (hk : KK p l e R s m args below meth c Q G sa A nL ce sl ac0 k r) : W p l e R s m args below meth c H locs (ce h.1) (sl h.1) Q (F0 m pc ls (S.map (cv sa ac h.1))) := by
  dsimp only [ab_stp] at hs
  dsimp only [ab_chk] at hc
  obtain ⟨v, hv, h9⟩ := lo_some hs
  clear hs
  have hs := h9
  clear h9
  have hl := fun q => hI.2.2.2.1.2.2.2 a v hv q
  have ho := hI.2.2.2.2.1 v (List.mem_of_getElem? hv)
  rcases v with y | y | q | j | u
  · have ho : okv h.1 (vI y) := ho.resolve_left (by intro e9; cases e9)
    have hl : ls[a]? = some (.val (cv sa ac h.1 (vI y))) := hl (by intro e9; cases e9)
    have fin := hk _ _ _ _ _ _ _ _ hs (hI.st (cs_ok ho hI.ok))
    rcases l4_some hc with ⟨hd, rfl⟩ | ⟨hd, rfl, ha⟩
    · exact lv_iload hx hb hd hl fin
    · exact lv_iload_n hx hb hd (f4 ha) hl fin
  · cases hs
  · cases hs
  · cases hs
  · cases hs
theorem sp_lload {n : Nat} (hx : p.tables.exec = Jvm.exec) (hb : c.code = cc) (hown : s.vm.findClass own = some m.cls) (hw : ∀ w ∈ lw_good, w.before args s = true) (hc : ab_chk own cc rt init pc (.lload n, nx, a, b, x) hi hp = true) (hs : ab_stp T Y cal (.lload n, nx, a, b, x) L S h k = some r) (hI : IV s G sa A nL ac0 ac h L S H locs ls) (hk : KK p l e R s m args below meth c Q G sa A nL ce sl ac0 k r) : W p l e R s m args below meth c H locs (ce h.1) (sl h.1) Q (F0 m pc ls (S.map (cv sa ac h.1))) := by
  dsimp only [ab_stp] at hs
  dsimp only [ab_chk] at hc
  obtain ⟨v, hv, h9⟩ := lo_some hs
  clear hs
  have hs := h9
  clear h9
  have hl := fun q => hI.2.2.2.1.2.2.2 a v hv q
  have ho := hI.2.2.2.2.1 v (List.mem_of_getElem? hv)
  rcases v with y | y | q | j | u
  · cases hs
  · have ho : okv h.1 (vL y) := ho.resolve_left (by intro e9; cases e9)
    have hl : ls[a]? = some (.val (cv sa ac h.1 (vL y))) := hl (by intro e9; cases e9)
    have fin := hk _ _ _ _ _ _ _ _ hs (hI.st (cs_ok ho hI.ok))
    rcases l4_some hc with ⟨hd, rfl⟩ | ⟨hd, rfl, ha⟩
    · exact lv_lload hx hb hd hl fin
    · exact lv_lload_n hx hb hd (f4 ha) hl fin
  · cases hs
  · cases hs
  · cases hs
theorem sp_aload {n : Nat} (hx : p.tables.exec = Jvm.exec) (hb : c.code = cc) (hown : s.vm.findClass own = some m.cls) (hw : ∀ w ∈ lw_good, w.before args s = true) (hc : ab_chk own cc rt init pc (.aload n, nx, a, b, x) hi hp = true) (hs : ab_stp T Y cal (.aload n, nx, a, b, x) L S h k = some r) (hI : IV s G sa A nL ac0 ac h L S H locs ls) (hk : KK p l e R s m args below meth c Q G sa A nL ce sl ac0 k r) : W p l e R s m args below meth c H locs (ce h.1) (sl h.1) Q (F0 m pc ls (S.map (cv sa ac h.1))) := by
  dsimp only [ab_stp] at hs
  dsimp only [ab_chk] at hc
  obtain ⟨v, hv, h9⟩ := lo_some hs
  clear hs
  have hs := h9
  clear h9
  have hl := fun q => hI.2.2.2.1.2.2.2 a v hv q
  have ho := hI.2.2.2.2.1 v (List.mem_of_getElem? hv)
  rcases v with y | y | q | j | u
  · cases hs
  · cases hs
  · have ho : okv h.1 (vR q.1 q.2) := ho.resolve_left (by intro e9; cases e9)
    have hl : ls[a]? = some (.val (cv sa ac h.1 (vR q.1 q.2))) := hl (by intro e9; cases e9)
    have fin := hk _ _ _ _ _ _ _ _ hs (hI.st (cs_ok ho hI.ok))
    rcases l4_some hc with ⟨hd, rfl⟩ | ⟨hd, rfl, ha⟩
    · exact lv_aload hx hb hd hl fin
    · exact lv_aload_n hx hb hd (f4 ha) hl fin
  · have ho : okv h.1 (vS j) := ho.resolve_left (by intro e9; cases e9)
    have hl : ls[a]? = some (.val (cv sa ac h.1 (vS j))) := hl (by intro e9; cases e9)
    have fin := hk _ _ _ _ _ _ _ _ hs (hI.st (cs_ok ho hI.ok))
    rcases l4_some hc with ⟨hd, rfl⟩ | ⟨hd, rfl, ha⟩
    · exact lv_aload hx hb hd hl fin
    · exact lv_aload_n hx hb hd (f4 ha) hl fin
  · cases hs
theorem sp_istore {n : Nat} (hx : p.tables.exec = Jvm.exec) (hb : c.code = cc) (hown : s.vm.findClass own = some m.cls) (hw : ∀ w ∈ lw_good, w.before args s = true) (hc : ab_chk own cc rt init pc (.istore n, nx, a, b, x) hi hp = true) (hs : ab_stp T Y cal (.istore n, nx, a, b, x) L S h k = some r) (hI : IV s G sa A nL ac0 ac h L S H locs ls) (hk : KK p l e R s m args below meth c Q G sa A nL ce sl ac0 k r) : W p l e R s m args below meth c H locs (ce h.1) (sl h.1) Q (F0 m pc ls (S.map (cv sa ac h.1))) := by
  dsimp only [ab_stp] at hs
  dsimp only [ab_chk] at hc
  obtain ⟨y, S1, e9, h9⟩ := i1_some hs
  clear hs
  subst e9
  have hs := h9
  clear h9
  obtain ⟨hb1, h9⟩ := beq_some hs
  clear hs
  have hs := h9
  clear h9
  have hlen := hI.2.2.2.1.1
  have hlt : a < L.length := Nat.blt_eq.mp hb1
  have fin : ∀ ls' : Array Slot, lv_has ls' nL ((a, cv sa ac h.1 (vI y)) :: (lvo (cv sa ac h.1) L).filter (fun q => !(q.1 == a) && !(q.1 + 1 == a && q.2.category == 2))) → W p l e R s m args below meth c H locs (ce h.1) (sl h.1) Q (F0 m nx ls' (S1.map (cv sa ac h.1))) := fun ls' hl' =>
    hk _ _ _ _ _ _ _ _ hs ⟨hI.1, hI.2.1, hI.2.2.1, hI.2.2.2.1.st (by omega) cv_c2 hl', st_ok hlt hI.2.2.2.2.1 (cs_hd hI.ok), cs_tl hI.ok⟩
  rcases l4_some hc with ⟨hd, rfl⟩ | ⟨hd, rfl, ha⟩
  · exact lv_istore hx hb hd hI.2.2.2.1.has (by omega) rfl fin
  · exact lv_istore_n hx hb hd (f4 ha) hI.2.2.2.1.has (by omega) rfl fin
theorem sp_astore {n : Nat} (hx : p.tables.exec = Jvm.exec) (hb : c.code = cc) (hown : s.vm.findClass own = some m.cls) (hw : ∀ w ∈ lw_good, w.before args s = true) (hc : ab_chk own cc rt init pc (.astore n, nx, a, b, x) hi hp = true) (hs : ab_stp T Y cal (.astore n, nx, a, b, x) L S h k = some r) (hI : IV s G sa A nL ac0 ac h L S H locs ls) (hk : KK p l e R s m args below meth c Q G sa A nL ce sl ac0 k r) : W p l e R s m args below meth c H locs (ce h.1) (sl h.1) Q (F0 m pc ls (S.map (cv sa ac h.1))) := by
  dsimp only [ab_stp] at hs
  dsimp only [ab_chk] at hc
  obtain ⟨t, i, S1, e9, h9⟩ := r1_some hs
  clear hs
  subst e9
  have hs := h9
  clear h9
  obtain ⟨hb1, h9⟩ := beq_some hs
  clear hs
  have hs := h9
  clear h9
  have hlen := hI.2.2.2.1.1
  have hlt : a < L.length := Nat.blt_eq.mp hb1
  have fin : ∀ ls' : Array Slot, lv_has ls' nL ((a, cv sa ac h.1 (vR t i)) :: (lvo (cv sa ac h.1) L).filter (fun q => !(q.1 == a) && !(q.1 + 1 == a && q.2.category == 2))) → W p l e R s m args below meth c H locs (ce h.1) (sl h.1) Q (F0 m nx ls' (S1.map (cv sa ac h.1))) := fun ls' hl' =>
    hk _ _ _ _ _ _ _ _ hs ⟨hI.1, hI.2.1, hI.2.2.1, hI.2.2.2.1.st (by omega) cv_c2 hl', st_ok hlt hI.2.2.2.2.1 (cs_hd hI.ok), cs_tl hI.ok⟩
  rcases l4_some hc with ⟨hd, rfl⟩ | ⟨hd, rfl, ha⟩
  · exact lv_astore hx hb hd hI.2.2.2.1.has (by omega) rfl fin
  · exact lv_astore_n hx hb hd (f4 ha) hI.2.2.2.1.has (by omega) rfl fin
theorem sp_lstore {n : Nat} (hx : p.tables.exec = Jvm.exec) (hb : c.code = cc) (hown : s.vm.findClass own = some m.cls) (hw : ∀ w ∈ lw_good, w.before args s = true) (hc : ab_chk own cc rt init pc (.lstore n, nx, a, b, x) hi hp = true) (hs : ab_stp T Y cal (.lstore n, nx, a, b, x) L S h k = some r) (hI : IV s G sa A nL ac0 ac h L S H locs ls) (hk : KK p l e R s m args below meth c Q G sa A nL ce sl ac0 k r) : W p l e R s m args below meth c H locs (ce h.1) (sl h.1) Q (F0 m pc ls (S.map (cv sa ac h.1))) := by
  dsimp only [ab_stp] at hs
  dsimp only [ab_chk] at hc
  obtain ⟨y, S1, e9, h9⟩ := l1_some hs
  clear hs
  subst e9
  have hs := h9
  clear h9
  obtain ⟨hb1, h9⟩ := beq_some hs
  clear hs
  have hs := h9
  clear h9
  have hlen := hI.2.2.2.1.1
  have hlt : a + 1 < L.length := Nat.blt_eq.mp hb1
  have fin : ∀ ls' : Array Slot, lv_has ls' nL ((a, cv sa ac h.1 (vL y)) :: (lvo (cv sa ac h.1) L).filter (fun q => !(q.1 == a) && (!(q.1 == a + 1) && !(q.1 + 1 == a && q.2.category == 2)))) → W p l e R s m args below meth c H locs (ce h.1) (sl h.1) Q (F0 m nx ls' (S1.map (cv sa ac h.1))) := fun ls' hl' =>
    hk _ _ _ _ _ _ _ _ hs ⟨hI.1, hI.2.1, hI.2.2.1, hI.2.2.2.1.st2 (by omega) cv_c2 hl', fun w hw => by
      have h0 := st_ok (show a < L.length by omega) hI.2.2.2.2.1 (cs_hd hI.ok)
      rcases List.mem_or_eq_of_mem_set hw with q | q
      · exact h0 w q
      · exact Or.inl q, cs_tl hI.ok⟩
  rcases l4_some hc with ⟨hd, rfl⟩ | ⟨hd, rfl, ha⟩
  · exact lv_lstore hx hb hd hI.2.2.2.1.has (by omega) rfl fin
  · exact lv_lstore_n hx hb hd (f4 ha) hI.2.2.2.1.has (by omega) rfl fin
theorem sp_iinc {n : Nat} {z : Int} (hx : p.tables.exec = Jvm.exec) (hb : c.code = cc) (hown : s.vm.findClass own = some m.cls) (hw : ∀ w ∈ lw_good, w.before args s = true) (hc : ab_chk own cc rt init pc (.iinc n z, nx, a, b, x) hi hp = true) (hs : ab_stp T Y cal (.iinc n z, nx, a, b, x) L S h k = some r) (hI : IV s G sa A nL ac0 ac h L S H locs ls) (hk : KK p l e R s m args below meth c Q G sa A nL ce sl ac0 k r) : W p l e R s m args below meth c H locs (ce h.1) (sl h.1) Q (F0 m pc ls (S.map (cv sa ac h.1))) := by
  dsimp only [ab_stp] at hs
  dsimp only [ab_chk] at hc
  obtain ⟨v, hv, h9⟩ := lo_some hs
  clear hs
  have hs := h9
  clear h9
  obtain ⟨hd, rfl⟩ := of_decide_eq_true hc
  have hlen := hI.2.2.2.1.1
  have hlt : a < L.length := (List.getElem?_eq_some_iff.mp hv).1
  rcases v with y | y | q | j | u
  · have hm : (a, cv sa ac h.1 (vI y)) ∈ lvo (cv sa ac h.1) L := lvo_mem.mpr ⟨vI y, hv, (by intro e9; cases e9), rfl⟩
    obtain ⟨k9, hk9⟩ := List.getElem?_of_mem hm
    refine lv_iinc (v := Int32.ofInt (w32 (y + x))) hx hb hd hI.2.2.2.1.has hk9 (ar_add y x) (by omega) rfl fun ls' hl' => ?_
    exact hk _ _ _ _ _ _ _ _ hs ⟨hI.1, hI.2.1, hI.2.2.1, hI.2.2.2.1.st (v := vI (w32 (y + x))) (by omega) cv_c2 hl', st_ok hlt hI.2.2.2.2.1 (show in32 _ from w32_in _), hI.ok⟩
  · cases hs
  · cases hs
  · cases hs
  · cases hs
theorem sp_goto {n : Int} (hx : p.tables.exec = Jvm.exec) (hb : c.code = cc) (hown : s.vm.findClass own = some m.cls) (hw : ∀ w ∈ lw_good, w.before args s = true) (hc : ab_chk own cc rt init pc (.goto n, nx, a, b, x) hi hp = true) (hs : ab_stp T Y cal (.goto n, nx, a, b, x) L S h k = some r) (hI : IV s G sa A nL ac0 ac h L S H locs ls) (hk : KK p l e R s m args below meth c Q G sa A nL ce sl ac0 k r) : W p l e R s m args below meth c H locs (ce h.1) (sl h.1) Q (F0 m pc ls (S.map (cv sa ac h.1))) := by
  dsimp only [ab_stp] at hs
  dsimp only [ab_chk] at hc
  have hd := of_decide_eq_true hc
  exact lv_goto (tgt := a) hx hb hd (by omega) (hk _ _ _ _ _ _ _ _ hs hI)
theorem ar_lt' {y z : Int} (hy : in32 y) (hz : in32 z) : Int32.ofInt y < Int32.ofInt z ↔ y < z := by rw [Int32.lt_iff_toInt_lt, ar_to hy, ar_to hz]
theorem ar_le' {y z : Int} (hy : in32 y) (hz : in32 z) : Int32.ofInt y ≤ Int32.ofInt z ↔ y ≤ z := by rw [Int32.le_iff_toInt_le, ar_to hy, ar_to hz]
theorem ar_eq' {y z : Int} (hy : in32 y) (hz : in32 z) : Int32.ofInt y = Int32.ofInt z ↔ y = z := ⟨fun e9 => by have := congrArg Int32.toInt e9; rw [ar_to hy, ar_to hz] at this; exact this, fun e9 => by rw [e9]⟩

theorem sp_ifc {cd : ClassFile.Cond} {n : Int} (hx : p.tables.exec = Jvm.exec) (hb : c.code = cc) (hown : s.vm.findClass own = some m.cls) (hw : ∀ w ∈ lw_good, w.before args s = true) (hc : ab_chk own cc rt init pc (.ifCond cd n, nx, a, b, x) hi hp = true) (hs : ab_stp T Y cal (.ifCond cd n, nx, a, b, x) L S h k = some r) (hI : IV s G sa A nL ac0 ac h L S H locs ls) (hk : KK p l e R s m args below meth c Q G sa A nL ce sl ac0 k r) : W p l e R s m args below meth c H locs (ce h.1) (sl h.1) Q (F0 m pc ls (S.map (cv sa ac h.1))) := by
  dsimp only [ab_stp] at hs
  dsimp only [ab_chk] at hc
  obtain ⟨z, S1, e9, h9⟩ := i1_some hs
  clear hs
  subst e9
  have hs := h9
  clear h9
  obtain ⟨hd, rfl⟩ := of_decide_eq_true hc
  have hz : in32 z := in_ok (cs_hd hI.ok)
  have hy : in32 0 := by decide
  have hI' := hI.st (cs_tl hI.ok)
  cases cd
  · refine lv_if_eq (tgt := a) hx hb hd (by omega) (fun q => ?_) (fun q => ?_)
    · dsimp only [ab_br] at hs
      rw [if_pos ((ar_eq' hz hy).mp q)] at hs
      exact hk _ _ _ _ _ _ _ _ hs hI'
    · dsimp only [ab_br] at hs
      rw [if_neg (fun q2 => q ((ar_eq' hz hy).mpr q2))] at hs
      exact hk _ _ _ _ _ _ _ _ hs hI'
  · refine lv_if_ne (tgt := a) hx hb hd (by omega) (fun q => ?_) (fun q => ?_)
    · dsimp only [ab_br] at hs
      rw [if_pos ((not_congr (ar_eq' hz hy)).mp q)] at hs
      exact hk _ _ _ _ _ _ _ _ hs hI'
    · dsimp only [ab_br] at hs
      rw [if_neg (fun q2 => q2 ((ar_eq' hz hy).mp q))] at hs
      exact hk _ _ _ _ _ _ _ _ hs hI'
  · refine lv_if_lt (tgt := a) hx hb hd (by omega) (fun q => ?_) (fun q => ?_)
    · dsimp only [ab_br] at hs
      rw [if_pos ((ar_lt' hz hy).mp q)] at hs
      exact hk _ _ _ _ _ _ _ _ hs hI'
    · dsimp only [ab_br] at hs
      rw [if_neg (fun q2 => q ((ar_lt' hz hy).mpr q2))] at hs
      exact hk _ _ _ _ _ _ _ _ hs hI'
  · refine lv_if_ge (tgt := a) hx hb hd (by omega) (fun q => ?_) (fun q => ?_)
    · dsimp only [ab_br] at hs
      rw [if_pos ((ar_le' hy hz).mp q)] at hs
      exact hk _ _ _ _ _ _ _ _ hs hI'
    · dsimp only [ab_br] at hs
      rw [if_neg (fun q2 => q ((ar_le' hy hz).mpr q2))] at hs
      exact hk _ _ _ _ _ _ _ _ hs hI'
  · refine lv_if_gt (tgt := a) hx hb hd (by omega) (fun q => ?_) (fun q => ?_)
    · dsimp only [ab_br] at hs
      rw [if_pos ((ar_lt' hy hz).mp q)] at hs
      exact hk _ _ _ _ _ _ _ _ hs hI'
    · dsimp only [ab_br] at hs
      rw [if_neg (fun q2 => q ((ar_lt' hy hz).mpr q2))] at hs
      exact hk _ _ _ _ _ _ _ _ hs hI'
  · refine lv_if_le (tgt := a) hx hb hd (by omega) (fun q => ?_) (fun q => ?_)
    · dsimp only [ab_br] at hs
      rw [if_pos ((ar_le' hz hy).mp q)] at hs
      exact hk _ _ _ _ _ _ _ _ hs hI'
    · dsimp only [ab_br] at hs
      rw [if_neg (fun q2 => q ((ar_le' hz hy).mpr q2))] at hs
      exact hk _ _ _ _ _ _ _ _ hs hI'
theorem sp_icmp {cd : ClassFile.Cond} {n : Int} (hx : p.tables.exec = Jvm.exec) (hb : c.code = cc) (hown : s.vm.findClass own = some m.cls) (hw : ∀ w ∈ lw_good, w.before args s = true) (hc : ab_chk own cc rt init pc (.if_icmp cd n, nx, a, b, x) hi hp = true) (hs : ab_stp T Y cal (.if_icmp cd n, nx, a, b, x) L S h k = some r) (hI : IV s G sa A nL ac0 ac h L S H locs ls) (hk : KK p l e R s m args below meth c Q G sa A nL ce sl ac0 k r) : W p l e R s m args below meth c H locs (ce h.1) (sl h.1) Q (F0 m pc ls (S.map (cv sa ac h.1))) := by
  dsimp only [ab_stp] at hs
  dsimp only [ab_chk] at hc
  obtain ⟨y, S1, e9, h9⟩ := i1_some hs
  clear hs
  subst e9
  have hs := h9
  clear h9
  obtain ⟨z, S2, e9, h9⟩ := i1_some hs
  clear hs
  subst e9
  have hs := h9
  clear h9
  obtain ⟨hd, rfl⟩ := of_decide_eq_true hc
  have hy : in32 y := in_ok (cs_hd hI.ok)
  have hz : in32 z := in_ok (cs_hd (cs_tl hI.ok))
  have hI' := hI.st (cs_tl (cs_tl hI.ok))
  cases cd
  · refine lv_icmp_eq (tgt := a) hx hb hd (by omega) (fun q => ?_) (fun q => ?_)
    · dsimp only [ab_br] at hs
      rw [if_pos ((ar_eq' hz hy).mp q)] at hs
      exact hk _ _ _ _ _ _ _ _ hs hI'
    · dsimp only [ab_br] at hs
      rw [if_neg (fun q2 => q ((ar_eq' hz hy).mpr q2))] at hs
      exact hk _ _ _ _ _ _ _ _ hs hI'
  · refine lv_icmp_ne (tgt := a) hx hb hd (by omega) (fun q => ?_) (fun q => ?_)
    · dsimp only [ab_br] at hs
      rw [if_pos ((not_congr (ar_eq' hz hy)).mp q)] at hs
      exact hk _ _ _ _ _ _ _ _ hs hI'
    · dsimp only [ab_br] at hs
      rw [if_neg (fun q2 => q2 ((ar_eq' hz hy).mp q))] at hs
      exact hk _ _ _ _ _ _ _ _ hs hI'
  · refine lv_icmp_lt (tgt := a) hx hb hd (by omega) (fun q => ?_) (fun q => ?_)
    · dsimp only [ab_br] at hs
      rw [if_pos ((ar_lt' hz hy).mp q)] at hs
      exact hk _ _ _ _ _ _ _ _ hs hI'
    · dsimp only [ab_br] at hs
      rw [if_neg (fun q2 => q ((ar_lt' hz hy).mpr q2))] at hs
      exact hk _ _ _ _ _ _ _ _ hs hI'
  · refine lv_icmp_ge (tgt := a) hx hb hd (by omega) (fun q => ?_) (fun q => ?_)
    · dsimp only [ab_br] at hs
      rw [if_pos ((ar_le' hy hz).mp q)] at hs
      exact hk _ _ _ _ _ _ _ _ hs hI'
    · dsimp only [ab_br] at hs
      rw [if_neg (fun q2 => q ((ar_le' hy hz).mpr q2))] at hs
      exact hk _ _ _ _ _ _ _ _ hs hI'
  · refine lv_icmp_gt (tgt := a) hx hb hd (by omega) (fun q => ?_) (fun q => ?_)
    · dsimp only [ab_br] at hs
      rw [if_pos ((ar_lt' hy hz).mp q)] at hs
      exact hk _ _ _ _ _ _ _ _ hs hI'
    · dsimp only [ab_br] at hs
      rw [if_neg (fun q2 => q ((ar_lt' hy hz).mpr q2))] at hs
      exact hk _ _ _ _ _ _ _ _ hs hI'
  · refine lv_icmp_le (tgt := a) hx hb hd (by omega) (fun q => ?_) (fun q => ?_)
    · dsimp only [ab_br] at hs
      rw [if_pos ((ar_le' hz hy).mp q)] at hs
      exact hk _ _ _ _ _ _ _ _ hs hI'
    · dsimp only [ab_br] at hs
      rw [if_neg (fun q2 => q ((ar_le' hz hy).mpr q2))] at hs
      exact hk _ _ _ _ _ _ _ _ hs hI'
end
