section
variable {p : Program} {l : Launch} {e : Env} {R : Room} {s : State} {m : MethodId} {args : Array Value} {below : List Frame} {meth : Method} {c : Code} {Q : State → Prop} {H : Heap} {locs : List Loc} {ls : Array Slot}
variable {cc : ByteArray} {own : String} {nL : Nat} {G : va_G} {sa : Nat → Nat} {A : Nat → Prop} {X : Nat × (Nat → Int)} {ce sl : List (Nat × Nat) → Nat} {ac0 ac : List (Nat × ClassId)}
variable {rt : Option FieldType} {init : Bool} {pc nx a b hi hp : Nat} {x : Int} {T : ab_T} {Y : ab_X} {cal : ab_C} {L S : List ab_V} {h : ab_H} {k : ab_K} {r : ab_R}

/-- what the tables say of a method -/
def MOK (m9 : Nat) : Prop := Cond.code (ab_mt m9).1 (ab_mt m9).2.1 (ab_mt m9).2.2.1 (ab_mt m9).2.2.2 ∈ lw_good ∧ Cond.initialized (ab_mt m9).1.cls ∈ lw_good ∧ (ab_stt m9 = true → Cond.static (ab_mt m9).1 ∈ lw_good) ∧ (ab_stt m9 = false → Cond.instanceMethod (ab_mt m9).1 ∈ lw_good ∧ ((ab_mt m9).1.name = "<init>" ∨ Cond.selects (ab_mt m9).1.cls (ab_mt m9).1 (ab_mt m9).1 ∈ lw_good)) ∧ (ab_mt m9).1.cls ≠ "java/lang/invoke/MethodHandle" ∧ (ab_mt m9).1.cls ≠ "java/lang/invoke/VarHandle" ∧ plainName (ab_mt m9).1.cls = true ∧ (ab_mt m9).2.2.1 ≤ 40
theorem wm_good {m9 : Nat} (h9 : MOK m9) : GoodIn lw_good (wm m9) := fun w hw => by
  have hm : w ∈ lw_good := by
    rcases List.mem_cons.mp hw with rfl | z
    · exact h9.1
    · exact z
  exact ⟨hm, good_of_word (List.mem_filter.mp hm).2⟩
theorem ret_some {o9 : Option ab_R} (h9 : ab_ret x o9 k nx L S = some r) : ab_wt S ≤ 8 ∧ ∃ r1, o9 = some r1 ∧ k nx L (r1.1.toList ++ S) r1.2 = some r := by
  unfold ab_ret at h9
  split at h9
  · rename_i hl
    refine ⟨Nat.le_of_ble_eq_true hl, ?_⟩
    split at h9
    · unfold ab_cv at h9
      split at h9
      · exact ⟨_, rfl, h9⟩
      · cases h9
    · unfold ab_ci at h9
      split at h9
      · exact ⟨_, rfl, h9⟩
      · cases h9
    · unfold ab_cl at h9
      split at h9
      · exact ⟨_, rfl, h9⟩
      · cases h9
  · cases h9
theorem IV.call {r1 : ab_R} {l8 : List (Nat × Nat)} {l9 : List (Nat × ClassId)} {S' : List ab_V} {H1 : Heap} {locs1 : List Loc} (hI : IV s G sa A nL ac0 ac h L S H locs ls) (h8 : r1.2.1 = h.1 ++ l8) (hv : ∀ v, r1.1 = some v → okv r1.2.1 v) (wd : WD G (ac ++ l9) r1.2 A s H1) (hS : va_S A s.heap H1 locs1) (hS' : ∀ v ∈ S', okv h.1 v) : IV s G sa A nL ac0 (ac ++ l9) r1.2 L (r1.1.toList ++ S') H1 locs1 ls := by
  obtain ⟨i1, i2, i3, i4, i5, i6⟩ := hI
  have hl := i2.1
  refine ⟨List.IsPrefix.trans i1 (List.prefix_append _ _), wd, hS, ?_, fun v hv => (i5 v hv).imp id (fun z => by rw [h8]; exact okv_app z), ?_⟩
  · obtain ⟨g1, g2, g3, g4⟩ := i4
    refine ⟨g1, g2, g3, fun i v e1 e2 => ?_⟩
    rw [g4 i v e1 e2, h8, cv_ext hl ((i5 v (List.mem_of_getElem? e1)).resolve_left e2)]
  · intro v h9
    rcases List.mem_append.mp h9 with z | z
    · rw [Option.mem_toList] at z
      exact hv v z
    · rw [h8]
      exact okv_app (hS' v z)
theorem map_call {r1 : ab_R} {l8 : List (Nat × Nat)} {l9 : List (Nat × ClassId)} {S' : List ab_V} (hl : ac.length = h.1.length) (h8 : r1.2.1 = h.1 ++ l8) (hS' : ∀ v ∈ S', okv h.1 v) : (r1.1.toList ++ S').map (cv sa (ac ++ l9) r1.2.1) = (r1.1.map (cv sa (ac ++ l9) r1.2.1)).toList ++ S'.map (cv sa ac h.1) := by
  rw [List.map_append]
  congr 1
  · cases r1.1 <;> rfl
  · exact List.map_congr_left fun v hv => by rw [h8, cv_ext hl (hS' v hv)]
theorem cat_sum {S' : List ab_V} {al : List (Nat × Nat)} (hl : ab_wt S' ≤ 8) : ((S'.map (cv sa ac al)).map fun v => v.category).sum ≤ 8 := by
  have key : ∀ l9 : List ab_V, ((l9.map (cv sa ac al)).map fun v => v.category).sum ≤ ab_wt l9 := by
    intro l9
    induction l9 with
    | nil => exact Nat.le_refl _
    | cons v l9 ih =>
      rw [List.map_cons, List.map_cons, List.sum_cons]
      rcases v with y | y | q | j | u
      · show 1 + _ ≤ ab_wt l9 + 1; omega
      · show 2 + _ ≤ ab_wt l9 + 2; omega
      · show 1 + _ ≤ ab_wt l9 + 1; omega
      · show 1 + _ ≤ ab_wt l9 + 1; omega
      · show 1 + _ ≤ ab_wt l9 + 1; omega
  exact Nat.le_trans (key S') hl
theorem cv_le {al : List (Nat × Nat)} (v : ab_V) : (cv sa ac al v).category ≤ 2 := by
  rcases v with y | y | q | j | u
  · exact (by decide : (1 : Nat) ≤ 2)
  · exact (by decide : (2 : Nat) ≤ 2)
  · exact (by decide : (1 : Nat) ≤ 2)
  · exact (by decide : (1 : Nat) ≤ 2)
  · exact (by decide : (1 : Nat) ≤ 2)
/-- what is common of all calls: the words, the room, the start, what comes behind -/
theorem call_pre {as : List ab_V} (hwd : WD G ac h A s H) (hS : va_S A s.heap H locs) (hst : ST sa A X s) (hA : ∀ q, s.heap.size ≤ q → A q) : ∀ U : State, U.heap = H → s.WarmedH U.vm → PC G sa A X ac h as (as.map (cv sa ac h.1)).toArray U := fun U hU hW => ⟨rfl, by rw [hU]; exact hwd.moved hW.alike, hst.go hW hS hU, fun q hq => hA q (Nat.le_trans hS.1 (by rw [← hU]; exact hq))⟩

theorem of_map {α β : Type} {o9 : Option α} {f : α → β} {y9 : β} (h9 : o9.map f = some y9) : o9.map f = some y9 := h9

theorem sp_callS {n : Nat} (hx : p.tables.exec = Jvm.exec) (hb : c.code = cc) (hown : s.vm.findClass own = some m.cls) (hw : ∀ w ∈ lw_good, w.before args s = true) (hc : ab_chk own cc rt init pc (.invokestatic n, nx, a, b, x) hi hp = true) (hs : ab_stp T Y cal (.invokestatic n, nx, a, b, x) L S h k = some r) (hst : ST sa A X s) (hY : Y.2 = X) (hT : T = ab_tg) (hnl : c.maxLocals = nL) {d : Nat} (hRd : d + 1 ≤ R.frames ∧ 60 * (d + 1) ≤ R.locals) (hmk : ∀ m9, m9 < 292 → MOK m9) (hcm : ∀ m9, m9 < 292 → CM l X d m9 cal) (hce : ∀ (al l8 : List (Nat × Nat)), ac0.length ≤ al.length → ce (al ++ l8) = ce al + l8.length ∧ sl (al ++ l8) = sl al + (l8.map szq).sum) (hgr : ∀ pc L S h', k pc L S h' = some r → ce h'.1 ≤ R.cells ∧ sl h'.1 ≤ R.slots) (hA : ∀ q, s.heap.size ≤ q → A q) (hI : IV s G sa A nL ac0 ac h L S H locs ls) (hk : KK p l e R s m args below meth c Q G sa A nL ce sl ac0 k r) : W p l e R s m args below meth c H locs (ce h.1) (sl h.1) Q (F0 m pc ls (S.map (cv sa ac h.1))) := by
  dsimp only [ab_stp] at hs
  dsimp only [ab_chk] at hc
  obtain ⟨ps, S1, e9, hps, h9⟩ := pop_some _ _ _ hs
  clear hs
  subst e9
  have hs := h9
  clear h9
  rw [List.append_nil] at hs
  obtain ⟨hd, hst9, rfl, ha, -, hpd, hlk⟩ := of_decide_eq_true hc
  have hokS : ∀ v ∈ S1, okv h.1 v := fun v hv => hI.ok v (List.mem_append_right _ hv)
  have hoka : ∀ v ∈ ps.reverse, okv h.1 v := fun v hv => hI.ok v (List.mem_append_left _ (List.mem_reverse.mp hv))
  obtain ⟨h4, r1, hcl, h9⟩ := ret_some hs
  clear hs
  have hs := h9
  clear h9
  obtain ⟨l8, h8, hM⟩ := hcm a ha _ _ _ hcl hoka
  have mk := hmk a ha
  have w1 := hI.2.1.1
  have hle : ac0.length ≤ h.1.length := by rw [← w1]; exact hI.1.length_le
  obtain ⟨e1, e2⟩ := hce h.1 l8 hle
  obtain ⟨g1, g2⟩ := hgr _ _ _ _ hs
  rw [h8, e1] at g1
  rw [h8, e2] at g2
  have hR : (rmd d l8).frames + 1 ≤ R.frames ∧ 8 + ((ab_mt a).2.2.1 + 11) + (rmd d l8).locals ≤ R.locals := ⟨hRd.1, by have q1 := mk.2.2.2.2.2.2.2; have q2 := hRd.2; show 8 + (_ + 11) + 60 * d ≤ _; omega⟩
  have hmd := of_map hpd
  have hm0 : (ps ++ S1).map (cv sa ac h.1) = (ps.reverse.map (cv sa ac h.1)).reverse ++ S1.map (cv sa ac h.1) := by rw [List.map_append, List.map_reverse, List.reverse_reverse]
  rw [hm0]
  refine ab_call (va_runS (As := ps.reverse.map (cv sa ac h.1)) ⟨hx, hb, hnl, hown, hw⟩ (hM G sa A ac) ⟨callB_of b hw (wm_good mk) rfl rfl rfl (hw _ mk.2.1) (hw _ (wd_in hlk rfl)) ⟨mk.2.2.2.2.1, mk.2.2.2.2.2.1, hmd⟩ hR, hw _ (mk.2.2.1 hst9)⟩ ⟨PC.blind, call_pre hI.2.1 hI.2.2.1 hst hA⟩ rfl (by rw [List.length_map, List.length_reverse]; exact hps) hI.2.2.2.1.2.1 rfl (by show 2 * 0 + _ ≤ 8; have := cat_sum (sa := sa) (ac := ac) (al := h.1) h4; omega) hd ⟨g1, g2⟩) hI.2.2.1 fun l9 H1 locs1 hok hwd hS => ?_
  have z9 := hk _ _ _ _ _ _ _ _ hs (hI.call h8 hok hwd hS hokS)
  rw [map_call w1 h8 hokS, h8, e1, e2] at z9
  rw [h8]
  exact z9
theorem hd_some {α : Type} {as : List ab_V} {t : Nat} {o9 : Option α} {r9 : α} (h9 : ab_hd as t o9 = some r9) : ∃ i tl, as = vR t i :: tl ∧ o9 = some r9 := by
  unfold ab_hd at h9
  split at h9
  · rename_i q tl
    obtain ⟨h1, h2⟩ := beq_some h9
    have h1 := bq h1
    exact ⟨q.2, tl, by rw [← h1], h2⟩
  · cases h9
theorem map_rv {ps S1 tl : List ab_V} {t i : Nat} (hr : ps.reverse = vR t i :: tl) : (ps ++ S1).map (cv sa ac h.1) = (tl.map (cv sa ac h.1)).reverse ++ .ref (cvA ac h.1 (t, i)) :: S1.map (cv sa ac h.1) := by
  have e9 : ps = tl.reverse ++ [vR t i] := by rw [← List.reverse_reverse ps, hr, List.reverse_cons]
  rw [e9, List.map_append, List.map_append, List.map_reverse, List.append_assoc]
  rfl

theorem sp_callV {t : Nat} (hx : p.tables.exec = Jvm.exec) (hb : c.code = cc) (hown : s.vm.findClass own = some m.cls) (hw : ∀ w ∈ lw_good, w.before args s = true) (hc : ab_chk own cc rt init pc (.invokevirtual t, nx, a, b, x) hi hp = true) (hs : ab_stp T Y cal (.invokevirtual t, nx, a, b, x) L S h k = some r) (hst : ST sa A X s) (hY : Y.2 = X) (hT : T = ab_tg) (hnl : c.maxLocals = nL) {d : Nat} (hRd : d + 1 ≤ R.frames ∧ 60 * (d + 1) ≤ R.locals) (hmk : ∀ m9, m9 < 292 → MOK m9) (hcm : ∀ m9, m9 < 292 → CM l X d m9 cal) (hce : ∀ (al l8 : List (Nat × Nat)), ac0.length ≤ al.length → ce (al ++ l8) = ce al + l8.length ∧ sl (al ++ l8) = sl al + (l8.map szq).sum) (hgr : ∀ pc L S h', k pc L S h' = some r → ce h'.1 ≤ R.cells ∧ sl h'.1 ≤ R.slots) (hA : ∀ q, s.heap.size ≤ q → A q) (hI : IV s G sa A nL ac0 ac h L S H locs ls) (hk : KK p l e R s m args below meth c Q G sa A nL ce sl ac0 k r) : W p l e R s m args below meth c H locs (ce h.1) (sl h.1) Q (F0 m pc ls (S.map (cv sa ac h.1))) := by
  dsimp only [ab_stp] at hs
  dsimp only [ab_chk] at hc
  obtain ⟨ps, S1, e9, hps, h9⟩ := pop_some _ _ _ hs
  clear hs
  subst e9
  have hs := h9
  clear h9
  rw [List.append_nil] at hs
  obtain ⟨i, tl, hrv, h9⟩ := hd_some hs
  clear hs
  have hs := h9
  clear h9
  obtain ⟨hd, hst9, rfl, ha, ht, -, hcls, hnin, hb0, hpd, hlk⟩ := of_decide_eq_true hc
  have hokS : ∀ v ∈ S1, okv h.1 v := fun v hv => hI.ok v (List.mem_append_right _ hv)
  have hoka : ∀ v ∈ ps.reverse, okv h.1 v := fun v hv => hI.ok v (List.mem_append_left _ (List.mem_reverse.mp hv))
  obtain ⟨h4, r1, hcl, h9⟩ := ret_some hs
  clear hs
  have hs := h9
  clear h9
  obtain ⟨l8, h8, hM⟩ := hcm a ha _ _ _ hcl hoka
  have mk := hmk a ha
  have w1 := hI.2.1.1
  have hle : ac0.length ≤ h.1.length := by rw [← w1]; exact hI.1.length_le
  obtain ⟨e1, e2⟩ := hce h.1 l8 hle
  obtain ⟨g1, g2⟩ := hgr _ _ _ _ hs
  rw [h8, e1] at g1
  rw [h8, e2] at g2
  have hR : (rmd d l8).frames + 1 ≤ R.frames ∧ 8 + ((ab_mt a).2.2.1 + 11) + (rmd d l8).locals ≤ R.locals := ⟨hRd.1, by have q1 := mk.2.2.2.2.2.2.2; have q2 := hRd.2; show 8 + (_ + 11) + 60 * d ≤ _; omega⟩
  have hmd := of_map hpd
  have hq : (t, i) ∈ h.1 := hoka (vR t i) (by rw [hrv]; exact List.mem_cons_self)
  rw [map_rv hrv]
  have hlt : (tl.map (cv sa ac h.1)).length = b - 1 := by
    have := congrArg List.length hrv
    rw [List.length_reverse, hps, List.length_cons] at this
    rw [List.length_map]
    omega
  rw [hrv] at hM
  obtain ⟨w1', w2, w3, w4, w5, w6, w7, w8⟩ := id hI.2.1
  obtain ⟨cA, p1, p2⟩ := al_pos w1 hq
  have he := wsl_get p1 p2
  rw [en_obj (q := (t, i)) ht] at he
  have hrc := va_recv w5 w3 (cls_at ht) he
  obtain ⟨hi1, hi2⟩ := mk.2.2.2.1 hst9
  have hsel : (Cond.selects (ab_cls t).1 (ab_mt a).1 (ab_mt a).1).before args s = true := by
    rcases hi2 with z | z
    · exact absurd z hnin
    · rw [← hcls]; exact hw _ z
  refine ab_call (va_runV (C := (ab_cls t).1) (b := cvA ac h.1 (t, i)) (As := tl.map (cv sa ac h.1)) ⟨hx, hb, hnl, hown, hw⟩ (hM G sa A ac) ⟨callB_of (b - 1) hw (wm_good mk) rfl rfl rfl (hw _ mk.2.1) (hw _ (wd_in hlk rfl)) ⟨mk.2.2.2.2.1, mk.2.2.2.2.2.1, hmd⟩ hR, hw _ hi1, hsel⟩ ⟨PC.blind, hrc, call_pre (as := vR t i :: tl) hI.2.1 hI.2.2.1 hst hA⟩ rfl hlt hI.2.2.2.1.2.1 rfl (by show 2 * 0 + _ ≤ 8; have := cat_sum (sa := sa) (ac := ac) (al := h.1) h4; omega) hd ⟨g1, g2⟩) hI.2.2.1 fun l9 H1 locs1 hok hwd hS => ?_
  have z9 := hk _ _ _ _ _ _ _ _ hs (hI.call h8 hok hwd hS hokS)
  rw [map_call w1 h8 hokS, h8, e1, e2] at z9
  rw [h8]
  exact z9
theorem sp_callI {t : Nat} (hx : p.tables.exec = Jvm.exec) (hb : c.code = cc) (hown : s.vm.findClass own = some m.cls) (hw : ∀ w ∈ lw_good, w.before args s = true) (hc : ab_chk own cc rt init pc (.invokespecial t, nx, a, b, x) hi hp = true) (hs : ab_stp T Y cal (.invokespecial t, nx, a, b, x) L S h k = some r) (hst : ST sa A X s) (hY : Y.2 = X) (hT : T = ab_tg) (hnl : c.maxLocals = nL) {d : Nat} (hRd : d + 1 ≤ R.frames ∧ 60 * (d + 1) ≤ R.locals) (hmk : ∀ m9, m9 < 292 → MOK m9) (hcm : ∀ m9, m9 < 292 → CM l X d m9 cal) (hce : ∀ (al l8 : List (Nat × Nat)), ac0.length ≤ al.length → ce (al ++ l8) = ce al + l8.length ∧ sl (al ++ l8) = sl al + (l8.map szq).sum) (hgr : ∀ pc L S h', k pc L S h' = some r → ce h'.1 ≤ R.cells ∧ sl h'.1 ≤ R.slots) (hA : ∀ q, s.heap.size ≤ q → A q) (hI : IV s G sa A nL ac0 ac h L S H locs ls) (hk : KK p l e R s m args below meth c Q G sa A nL ce sl ac0 k r) : W p l e R s m args below meth c H locs (ce h.1) (sl h.1) Q (F0 m pc ls (S.map (cv sa ac h.1))) := by
  dsimp only [ab_stp] at hs
  dsimp only [ab_chk] at hc
  obtain ⟨ps, S1, e9, hps, h9⟩ := pop_some _ _ _ hs
  clear hs
  subst e9
  have hs := h9
  clear h9
  rw [List.append_nil] at hs
  obtain ⟨i, tl, hrv, h9⟩ := hd_some hs
  clear hs
  have hs := h9
  clear h9
  obtain ⟨hd, hst9, rfl, ha, ht, -, hrn, hin, hb0, hpd, hlk⟩ := of_decide_eq_true hc
  have hokS : ∀ v ∈ S1, okv h.1 v := fun v hv => hI.ok v (List.mem_append_right _ hv)
  have hoka : ∀ v ∈ ps.reverse, okv h.1 v := fun v hv => hI.ok v (List.mem_append_left _ (List.mem_reverse.mp hv))
  obtain ⟨h4, r1, hcl, h9⟩ := ret_some hs
  clear hs
  have hs := h9
  clear h9
  obtain ⟨l8, h8, hM⟩ := hcm a ha _ _ _ hcl hoka
  have mk := hmk a ha
  have w1 := hI.2.1.1
  have hle : ac0.length ≤ h.1.length := by rw [← w1]; exact hI.1.length_le
  obtain ⟨e1, e2⟩ := hce h.1 l8 hle
  obtain ⟨g1, g2⟩ := hgr _ _ _ _ hs
  rw [h8, e1] at g1
  rw [h8, e2] at g2
  have hR : (rmd d l8).frames + 1 ≤ R.frames ∧ 8 + ((ab_mt a).2.2.1 + 11) + (rmd d l8).locals ≤ R.locals := ⟨hRd.1, by have q1 := mk.2.2.2.2.2.2.2; have q2 := hRd.2; show 8 + (_ + 11) + 60 * d ≤ _; omega⟩
  have hmd := of_map hpd
  have hq : (t, i) ∈ h.1 := hoka (vR t i) (by rw [hrv]; exact List.mem_cons_self)
  rw [map_rv hrv]
  have hlt : (tl.map (cv sa ac h.1)).length = b - 1 := by
    have := congrArg List.length hrv
    rw [List.length_reverse, hps, List.length_cons] at this
    rw [List.length_map]
    omega
  rw [hrv] at hM
  obtain ⟨hi1, hi2⟩ := mk.2.2.2.1 hst9
  rcases hlk with hlk | hlk
  · refine ab_call (va_runI (b := cvA ac h.1 (t, i)) (As := tl.map (cv sa ac h.1)) ⟨hx, hb, hnl, hown, hw⟩ (hM G sa A ac) ⟨callB_of (bytes := (ab_mt a).2.1) (maxL := (ab_mt a).2.2.1) (b - 1) hw (wm_good mk) (by unfold wm; rw [hrn]) rfl rfl (hw _ mk.2.1) (hw _ (wd_in hlk rfl)) ⟨mk.2.2.2.2.1, mk.2.2.2.2.2.1, hmd⟩ hR, hin, hw _ hi1⟩ ⟨PC.blind, call_pre (as := vR t i :: tl) hI.2.1 hI.2.2.1 hst hA⟩ rfl hlt hI.2.2.2.1.2.1 rfl (by show 2 * 0 + _ ≤ 8; have := cat_sum (sa := sa) (ac := ac) (al := h.1) h4; omega) hd ⟨g1, g2⟩) hI.2.2.1 fun l9 H1 locs1 hok hwd hS => ?_
    have z9 := hk _ _ _ _ _ _ _ _ hs (hI.call h8 hok hwd hS hokS)
    rw [map_call w1 h8 hokS, h8, e1, e2] at z9
    rw [h8]
    exact z9
  · refine ab_call (va_runIN (b := cvA ac h.1 (t, i)) (As := tl.map (cv sa ac h.1)) ⟨hx, hb, hnl, hown, hw⟩ (hM G sa A ac) ⟨va_cnB (bytes := (ab_mt a).2.1) (maxL := (ab_mt a).2.2.1) (b - 1) hw (wm_good mk) (by unfold wm; rw [hrn]) rfl rfl (hst.2.1 _ _ _ _ (List.mem_of_getElem? hlk)) (hw _ mk.2.1) ⟨mk.2.2.2.2.1, mk.2.2.2.2.2.1, hmd⟩ hR, hin, hw _ hi1⟩ ⟨PC.blind, call_pre (as := vR t i :: tl) hI.2.1 hI.2.2.1 hst hA⟩ rfl hlt hI.2.2.2.1.2.1 rfl (by show 2 * 0 + _ ≤ 8; have := cat_sum (sa := sa) (ac := ac) (al := h.1) h4; omega) hd ⟨g1, g2⟩) hI.2.2.1 fun l9 H1 locs1 hok hwd hS => ?_
    have z9 := hk _ _ _ _ _ _ _ _ hs (hI.call h8 hok hwd hS hokS)
    rw [map_call w1 h8 hokS, h8, e1, e2] at z9
    rw [h8]
    exact z9
set_option maxRecDepth 100000 in
theorem ma_w : (Cond.static Lib.Math.abs.name ∈ lw_good ∧ Cond.static Lib.Math.max.name ∈ lw_good ∧ Cond.static Lib.Math.min.name ∈ lw_good ∧ Cond.initialized "java/lang/Math" ∈ lw_good) ∧ Cond.code Lib.Math.abs.name Lib.Math.abs.code 1 (some .int) ∈ lw_good ∧ Cond.code Lib.Math.max.name Lib.Math.max.code 2 (some .int) ∈ lw_good ∧ Cond.code Lib.Math.min.name Lib.Math.min.code 2 (some .int) ∈ lw_good := ⟨⟨wd_in (hp := 819) (by decide +kernel) rfl, wd_in (hp := 1086) (by decide +kernel) rfl, wd_in (hp := 563) (by decide +kernel) rfl, wd_in (hp := 123) (by decide +kernel) rfl⟩, wd_in (hp := 820) rfl rfl, wd_in (hp := 1087) rfl rfl, wd_in (hp := 564) rfl rfl⟩
theorem sp_mabs  (hx : p.tables.exec = Jvm.exec) (hb : c.code = cc) (hown : s.vm.findClass own = some m.cls) (hw : ∀ w ∈ lw_good, w.before args s = true) (hc : ab_chk own cc rt init pc (.dadd, nx, a, b, x) hi hp = true) (hs : ab_stp T Y cal (.dadd, nx, a, b, x) L S h k = some r) (hst : ST sa A X s) (hY : Y.2 = X) (hT : T = ab_tg) (hnl : c.maxLocals = nL) (hfr : 1 ≤ R.frames) (hlc : 60 ≤ R.locals) (hgr : ∀ pc L S h', k pc L S h' = some r → ce h'.1 ≤ R.cells ∧ sl h'.1 ≤ R.slots) (hI : IV s G sa A nL ac0 ac h L S H locs ls) (hk : KK p l e R s m args below meth c Q G sa A nL ce sl ac0 k r) : W p l e R s m args below meth c H locs (ce h.1) (sl h.1) Q (F0 m pc ls (S.map (cv sa ac h.1))) := by
  dsimp only [ab_stp] at hs
  dsimp only [ab_chk] at hc
  obtain ⟨y, S1, e9, h9⟩ := i1_some hs
  clear hs
  subst e9
  have hs := h9
  clear h9
  obtain ⟨hb1, h9⟩ := beq_some hs
  clear hs
  have hs := h9
  clear h9
  obtain ⟨hd, rfl, hlk⟩ := of_decide_eq_true hc
  have hy : in32 y := in_ok (cs_hd hI.ok)
  obtain ⟨g1, g2⟩ := hgr _ _ _ _ hs
  have h4 := cat_sum (sa := sa) (ac := ac) (al := h.1) (Nat.le_of_ble_eq_true hb1)
  have e1 : (if (0 : Int32) ≤ Int32.ofInt y then Int32.ofInt y else 0 - Int32.ofInt y) = Int32.ofInt (if 0 ≤ y then y else w32 (0 - y)) := by
    have q : (0 : Int32) ≤ Int32.ofInt y ↔ 0 ≤ y := ar_le' (y := 0) (z := y) (by decide) hy
    by_cases z : 0 ≤ y
    · rw [if_pos (q.mpr z), if_pos z]
    · rw [if_neg (fun w => z (q.mp w)), if_neg z]
      exact ar_sub 0 y
  refine va_mabs hx hb (hnl.trans hI.2.2.2.1.2.1.symm) hown (hw _ (wd_in hlk rfl)) (hw _ ma_w.1.1) (hw _ ma_w.1.2.2.2) (hw _ ma_w.2.1) hfr (by omega) g1 g2 hd ?_
  rw [e1]
  exact hk _ _ _ _ _ _ _ _ hs (hI.st (cs_ok (show in32 _ by split; exact hy; exact w32_in _) (cs_tl hI.ok)))
theorem sp_mmax  (hx : p.tables.exec = Jvm.exec) (hb : c.code = cc) (hown : s.vm.findClass own = some m.cls) (hw : ∀ w ∈ lw_good, w.before args s = true) (hc : ab_chk own cc rt init pc (.ddiv, nx, a, b, x) hi hp = true) (hs : ab_stp T Y cal (.ddiv, nx, a, b, x) L S h k = some r) (hst : ST sa A X s) (hY : Y.2 = X) (hT : T = ab_tg) (hnl : c.maxLocals = nL) (hfr : 1 ≤ R.frames) (hlc : 60 ≤ R.locals) (hgr : ∀ pc L S h', k pc L S h' = some r → ce h'.1 ≤ R.cells ∧ sl h'.1 ≤ R.slots) (hI : IV s G sa A nL ac0 ac h L S H locs ls) (hk : KK p l e R s m args below meth c Q G sa A nL ce sl ac0 k r) : W p l e R s m args below meth c H locs (ce h.1) (sl h.1) Q (F0 m pc ls (S.map (cv sa ac h.1))) := by
  dsimp only [ab_stp] at hs
  dsimp only [ab_chk] at hc
  obtain ⟨y, S1, e9, h9⟩ := i1_some hs
  clear hs
  subst e9
  have hs := h9
  clear h9
  obtain ⟨z, S2, e9, h9⟩ := i1_some hs
  clear hs
  subst e9
  have hs := h9
  clear h9
  obtain ⟨hb1, h9⟩ := beq_some hs
  clear hs
  have hs := h9
  clear h9
  obtain ⟨hd, rfl, hlk⟩ := of_decide_eq_true hc
  have hy : in32 y := in_ok (cs_hd hI.ok)
  have hz : in32 z := in_ok (cs_hd (cs_tl hI.ok))
  obtain ⟨g1, g2⟩ := hgr _ _ _ _ hs
  have h4 := cat_sum (sa := sa) (ac := ac) (al := h.1) (Nat.le_of_ble_eq_true hb1)
  have e1 : (if Int32.ofInt z < Int32.ofInt y then Int32.ofInt y else Int32.ofInt z) = Int32.ofInt (if z < y then y else z) := by
    have q := ar_lt' (y := z) (z := y) hz hy
    by_cases w : z < y
    · rw [if_pos (q.mpr w), if_pos w]
    · rw [if_neg (fun w2 => w (q.mp w2)), if_neg w]
  refine va_mmax hx hb (hnl.trans hI.2.2.2.1.2.1.symm) hown (hw _ (wd_in hlk rfl)) (hw _ ma_w.1.2.1) (hw _ ma_w.1.2.2.2) (hw _ ma_w.2.2.1) hfr (by omega) g1 g2 hd ?_
  rw [e1]
  exact hk _ _ _ _ _ _ _ _ hs (hI.st (cs_ok (show in32 _ by split; exact hy; exact hz) (cs_tl (cs_tl hI.ok))))
theorem sp_mmin  (hx : p.tables.exec = Jvm.exec) (hb : c.code = cc) (hown : s.vm.findClass own = some m.cls) (hw : ∀ w ∈ lw_good, w.before args s = true) (hc : ab_chk own cc rt init pc (.dmul, nx, a, b, x) hi hp = true) (hs : ab_stp T Y cal (.dmul, nx, a, b, x) L S h k = some r) (hst : ST sa A X s) (hY : Y.2 = X) (hT : T = ab_tg) (hnl : c.maxLocals = nL) (hfr : 1 ≤ R.frames) (hlc : 60 ≤ R.locals) (hgr : ∀ pc L S h', k pc L S h' = some r → ce h'.1 ≤ R.cells ∧ sl h'.1 ≤ R.slots) (hI : IV s G sa A nL ac0 ac h L S H locs ls) (hk : KK p l e R s m args below meth c Q G sa A nL ce sl ac0 k r) : W p l e R s m args below meth c H locs (ce h.1) (sl h.1) Q (F0 m pc ls (S.map (cv sa ac h.1))) := by
  dsimp only [ab_stp] at hs
  dsimp only [ab_chk] at hc
  obtain ⟨y, S1, e9, h9⟩ := i1_some hs
  clear hs
  subst e9
  have hs := h9
  clear h9
  obtain ⟨z, S2, e9, h9⟩ := i1_some hs
  clear hs
  subst e9
  have hs := h9
  clear h9
  obtain ⟨hb1, h9⟩ := beq_some hs
  clear hs
  have hs := h9
  clear h9
  obtain ⟨hd, rfl, hlk⟩ := of_decide_eq_true hc
  have hy : in32 y := in_ok (cs_hd hI.ok)
  have hz : in32 z := in_ok (cs_hd (cs_tl hI.ok))
  obtain ⟨g1, g2⟩ := hgr _ _ _ _ hs
  have h4 := cat_sum (sa := sa) (ac := ac) (al := h.1) (Nat.le_of_ble_eq_true hb1)
  have e1 : (if Int32.ofInt y < Int32.ofInt z then Int32.ofInt y else Int32.ofInt z) = Int32.ofInt (if y < z then y else z) := by
    have q := ar_lt' (y := y) (z := z) hy hz
    by_cases w : y < z
    · rw [if_pos (q.mpr w), if_pos w]
    · rw [if_neg (fun w2 => w (q.mp w2)), if_neg w]
  refine va_mmin hx hb (hnl.trans hI.2.2.2.1.2.1.symm) hown (hw _ (wd_in hlk rfl)) (hw _ ma_w.1.2.2.1) (hw _ ma_w.1.2.2.2) (hw _ ma_w.2.2.2) hfr (by omega) g1 g2 hd ?_
  rw [e1]
  exact hk _ _ _ _ _ _ _ _ hs (hI.st (cs_ok (show in32 _ by split; exact hy; exact hz) (cs_tl (cs_tl hI.ok))))
end
