section
variable {p : Program} {l : Launch} {e : Env} {R : Room} {s : State} {m : MethodId} {args : Array Value} {below : List Frame} {meth : Method} {c : Code} {Q : State → Prop} {H : Heap} {locs : List Loc} {ls : Array Slot}
variable {cc : ByteArray} {own : String} {nL : Nat} {G : va_G} {sa : Nat → Nat} {A : Nat → Prop} {X : Nat × (Nat → Int)} {ce sl : List (Nat × Nat) → Nat} {ac0 ac : List (Nat × ClassId)}
variable {rt : Option FieldType} {init : Bool} {pc nx a b hi hp : Nat} {x : Int} {T : ab_T} {Y : ab_X} {cal : ab_C} {L S : List ab_V} {h : ab_H} {k : ab_K} {r : ab_R}

theorem nar_b {z : Int} (h9 : -128 ≤ z ∧ z < 128) : vp_nar .byte (Int32.ofInt z) = Int32.ofInt z := by
  rw [vp_nar_byte, ar_8]
  congr 1
  unfold w8
  omega
theorem nar_z {z : Int} (h9 : z = 0 ∨ z = 1) : vp_nar .boolean (Int32.ofInt z) = Int32.ofInt z := by
  rcases h9 with e9 | e9 <;> rw [e9] <;> rfl
theorem of_nat (n : Nat) : Int32.ofNat n = Int32.ofInt (n : Int) := by
  apply ar_nat_inj
  rw [ar_tn]
  show (BitVec.ofNat 32 n).toNat = _
  rw [BitVec.toNat_ofNat]
  show n % 4294967296 = _
  omega
theorem tg_len : ∀ t, t < 70 → (ab_tg t).2 < 100000 := by decide +kernel
theorem tg_big {t : Nat} (ht : 70 ≤ t) : ab_tg t = (0, 0) := by
  unfold ab_tg
  rw [List.getD_eq_getElem?_getD, List.getElem?_eq_none_iff.mpr (Nat.le_trans (by decide) ht)]
  rfl
theorem tg_in (t : Nat) : (ab_tg t).2 < 100000 := by
  rcases Nat.lt_or_ge t 70 with q | q
  · exact tg_len t q
  · rw [tg_big q]; decide

theorem sp_bastore  (hx : p.tables.exec = Jvm.exec) (hb : c.code = cc) (hown : s.vm.findClass own = some m.cls) (hw : ∀ w ∈ lw_good, w.before args s = true) (hc : ab_chk own cc rt init pc (.bastore, nx, a, b, x) hi hp = true) (hs : ab_stp T Y cal (.bastore, nx, a, b, x) L S h k = some r) (hst : ST sa A X s) (hY : Y.2 = X) (hT : T = ab_tg) (hI : IV s G sa A nL ac0 ac h L S H locs ls) (hk : KK p l e R s m args below meth c Q G sa A nL ce sl ac0 k r) : W p l e R s m args below meth c H locs (ce h.1) (sl h.1) Q (F0 m pc ls (S.map (cv sa ac h.1))) := by
  dsimp only [ab_stp] at hs
  dsimp only [ab_chk] at hc
  subst hT
  obtain ⟨z, S1, e9, h9⟩ := i1_some hs
  clear hs
  subst e9
  have hs := h9
  clear h9
  obtain ⟨y, S2, e9, h9⟩ := i1_some hs
  clear hs
  subst e9
  have hs := h9
  clear h9
  obtain ⟨t, i, S3, e9, h9⟩ := r1_some hs
  clear hs
  subst e9
  have hs := h9
  clear h9
  obtain ⟨hd, rfl⟩ := pl_some hc
  have hy : in32 y := in_ok (cs_hd (cs_tl hI.ok))
  have hq : (t, i) ∈ h.1 := cs_hd (cs_tl (cs_tl hI.ok))
  have wd := hI.2.1
  obtain ⟨w1, w2, w3, w4, w5, w6, w7, w8⟩ := id wd
  obtain ⟨cA, p1, p2⟩ := al_pos w1 hq
  have he := wsl_get p1 p2
  split at hs
  · rename_i hb1
    obtain ⟨hin, h9⟩ := ite_some hs
    clear hs
    have hs := h9
    clear h9
    rw [en_1 (q := (t, i)) (Or.inr (Or.inl hb1))] at he
    have hK := K1 w5 (w6 _ _ _ _ p1 p2 (by show (ab_tg t).1 ≠ 0; rw [hb1]; decide))
    rw [fty_2 hb1] at hK
    have e1 : en ac (h.1, h.2.1, u3 h.2.2 t i y.toNat z) cA (t, i) = _ := en_1 (q := (t, i)) (Or.inr (Or.inl hb1))
    dsimp only at e1
    rw [fn_1 (q := (t, i))] at e1
    refine va_bast hx hb hK w3 w4 hI.2.2.1 _ 0 he rfl (in_vp hy hin.1) hd fun H1 locs1 q1 q2 q3 => ?_
    rw [cl_n hy, nar_b hin.2] at q1 q2
    dsimp only at q1 q2
    rw [← e1] at q1 q2
    have hr : rgk (kk t y.toNat) z := by rw [kk_2 hb1]; exact hin.2
    have z9 := hk _ _ _ _ _ _ _ _ hs (hI.go (h' := (h.1, h.2.1, u3 h.2.2 t i y.toNat z)) rfl (wd.putD (q := (t, i)) hq hr p2 q1 q2) q3 (cs_tl (cs_tl (cs_tl hI.ok))))
    exact z9
  · rename_i hb1
    obtain ⟨hin, h9⟩ := ite_some hs
    clear hs
    have hs := h9
    clear h9
    rw [en_1 (q := (t, i)) (Or.inr (Or.inr hb1))] at he
    have hK := K1 w5 (w6 _ _ _ _ p1 p2 (by show (ab_tg t).1 ≠ 0; rw [hb1]; decide))
    rw [fty_3 hb1] at hK
    have e1 : en ac (h.1, h.2.1, u3 h.2.2 t i y.toNat z) cA (t, i) = _ := en_1 (q := (t, i)) (Or.inr (Or.inr hb1))
    dsimp only at e1
    rw [fn_1 (q := (t, i))] at e1
    refine va_zast hx hb hK w3 w4 hI.2.2.1 _ 0 he rfl (in_vp hy hin.1) hd fun H1 locs1 q1 q2 q3 => ?_
    rw [cl_n hy, nar_z hin.2] at q1 q2
    dsimp only at q1 q2
    rw [← e1] at q1 q2
    have hr : rgk (kk t y.toNat) z := by rw [kk_3 hb1]; exact hin.2
    have z9 := hk _ _ _ _ _ _ _ _ hs (hI.go (h' := (h.1, h.2.1, u3 h.2.2 t i y.toNat z)) rfl (wd.putD (q := (t, i)) hq hr p2 q1 q2) q3 (cs_tl (cs_tl (cs_tl hI.ok))))
    exact z9
  · cases hs
theorem sp_aastore  (hx : p.tables.exec = Jvm.exec) (hb : c.code = cc) (hown : s.vm.findClass own = some m.cls) (hw : ∀ w ∈ lw_good, w.before args s = true) (hc : ab_chk own cc rt init pc (.aastore, nx, a, b, x) hi hp = true) (hs : ab_stp T Y cal (.aastore, nx, a, b, x) L S h k = some r) (hst : ST sa A X s) (hY : Y.2 = X) (hT : T = ab_tg) (hI : IV s G sa A nL ac0 ac h L S H locs ls) (hk : KK p l e R s m args below meth c Q G sa A nL ce sl ac0 k r) : W p l e R s m args below meth c H locs (ce h.1) (sl h.1) Q (F0 m pc ls (S.map (cv sa ac h.1))) := by
  dsimp only [ab_stp] at hs
  dsimp only [ab_chk] at hc
  subst hT
  obtain ⟨t', i', S1, e9, h9⟩ := r1_some hs
  clear hs
  subst e9
  have hs := h9
  clear h9
  obtain ⟨y, S2, e9, h9⟩ := i1_some hs
  clear hs
  subst e9
  have hs := h9
  clear h9
  obtain ⟨t, i, S3, e9, h9⟩ := r1_some hs
  clear hs
  subst e9
  have hs := h9
  clear h9
  obtain ⟨hb1, h9⟩ := beq_some hs
  clear hs
  have hs := h9
  clear h9
  obtain ⟨hin, h9⟩ := ite_some hs
  clear hs
  have hs := h9
  clear h9
  rw [Bool.and_eq_true] at hb1 hc
  obtain ⟨hd, rfl⟩ := pl_some hc.1
  obtain ⟨c1, c2, c3⟩ := of_decide_eq_true hc.2
  have e8 := bq hb1.1
  have e7 := bq hb1.2
  subst e8
  subst e7
  have hy : in32 y := in_ok (cs_hd (cs_tl hI.ok))
  have hq2 : (t', i') ∈ h.1 := cs_hd hI.ok
  have hq : (t, i) ∈ h.1 := cs_hd (cs_tl (cs_tl hI.ok))
  have wd := hI.2.1
  obtain ⟨w1, w2, w3, w4, w5, w6, w7, w8⟩ := id wd
  obtain ⟨cA, p1, p2⟩ := al_pos w1 hq
  obtain ⟨cB, p3, p4⟩ := al_pos w1 hq2
  have he := wsl_get p1 p2
  have he2 := wsl_get p3 p4
  rw [en_5 (q := (t, i)) c1] at he
  rw [en_obj (q := (t', i')) c3] at he2
  have hK := K1 w5 (w6 _ _ _ _ p1 p2 (by show (ab_tg t).1 ≠ 0; rw [c1]; decide))
  rw [fty_5 c1, show ab_el t = t' from c2] at hK
  have e1 : en ac (h.1, u3 h.2.1 t i y.toNat (some (t', i')), h.2.2) cA (t, i) = _ := en_5 (q := (t, i)) c1
  dsimp only at e1
  rw [fn_5 (q := (t, i)) (q2 := (t', i'))] at e1
  refine va_astq hx hb hK w3 w4 hI.2.2.1 _ 0 _ t' he rfl he2 (cls_at c3) (in_vp hy hin) hd fun H1 locs1 q1 q2 q3 => ?_
  rw [cl_n hy] at q1 q2
  dsimp only at q1 q2
  rw [← e1] at q1 q2
  have z9 := hk _ _ _ _ _ _ _ _ hs (hI.go (h' := (h.1, u3 h.2.1 t i y.toNat (some (t', i')), h.2.2)) rfl (wd.putR (q := (t, i)) (q2 := (t', i')) hq hq2 p2 q1 q2) q3 (cs_tl (cs_tl (cs_tl hI.ok))))
  exact z9
theorem sp_alen  (hx : p.tables.exec = Jvm.exec) (hb : c.code = cc) (hown : s.vm.findClass own = some m.cls) (hw : ∀ w ∈ lw_good, w.before args s = true) (hc : ab_chk own cc rt init pc (.arraylength, nx, a, b, x) hi hp = true) (hs : ab_stp T Y cal (.arraylength, nx, a, b, x) L S h k = some r) (hst : ST sa A X s) (hY : Y.2 = X) (hT : T = ab_tg) (hI : IV s G sa A nL ac0 ac h L S H locs ls) (hk : KK p l e R s m args below meth c Q G sa A nL ce sl ac0 k r) : W p l e R s m args below meth c H locs (ce h.1) (sl h.1) Q (F0 m pc ls (S.map (cv sa ac h.1))) := by
  dsimp only [ab_stp] at hs
  dsimp only [ab_chk] at hc
  subst hT
  obtain ⟨hd, rfl⟩ := pl_some hc
  rcases S with _ | ⟨v, S2⟩
  · cases hs
  · rcases v with z | z | q | j | u
    · cases hs
    · cases hs
    · dsimp only at hs
      split at hs
      · cases hs
      · rename_i hb1
        have hne : (ab_tg q.1).1 ≠ 0 := fun e8 => by rw [e8] at hb1; cases hb1
        have hq : q ∈ h.1 := cs_hd hI.ok
        obtain ⟨w1, w2, w3, w4, w5, w6, w7, w8⟩ := hI.2.1
        obtain ⟨cA, p1, p2⟩ := al_pos w1 hq
        have he := wsl_get p1 p2
        have hK := K1 w5 (w6 _ _ _ _ p1 p2 hne)
        have hx9 : ∃ x9 : vp_A, en ac h cA q = .inl (cA, x9) ∧ x9.1 = (ab_tg q.1).2 := by
          unfold en
          split
          · rename_i e8; exact absurd e8 hne
          · exact ⟨_, rfl, rfl⟩
          · exact ⟨_, rfl, rfl⟩
          · exact ⟨_, rfl, rfl⟩
        obtain ⟨x9, g1, g2⟩ := hx9
        rw [g1] at he
        refine va_alen (v := Int32.ofInt ((ab_tg q.1).2 : Int)) hx hb hK w3 _ 0 he rfl (by rw [g2]; exact of_nat _) hd ?_
        exact hk _ _ _ _ _ _ _ _ hs (hI.st (cs_ok (show in32 _ by have := tg_in q.1; omega) (cs_tl hI.ok)))
    · obtain ⟨hb1, h9⟩ := beq_some hs
      clear hs
      have hs := h9
      clear h9
      have hb1 := bq hb1
      subst hb1
      obtain ⟨⟨a1, a2, a3, a4, a5⟩, -⟩ := hst
      rw [hY] at hs
      refine va_slen hx hb a1 a2 a3 hI.2.2.1 hd ?_
      rw [of_nat]
      exact hk _ _ _ _ _ _ _ _ hs (hI.st (cs_ok (show in32 _ by omega) (cs_tl hI.ok)))
    · cases hs
theorem sp_ldcs  (hx : p.tables.exec = Jvm.exec) (hb : c.code = cc) (hown : s.vm.findClass own = some m.cls) (hw : ∀ w ∈ lw_good, w.before args s = true) (hc : ab_chk own cc rt init pc (.d2i, nx, a, b, x) hi hp = true) (hs : ab_stp T Y cal (.d2i, nx, a, b, x) L S h k = some r) (hst : ST sa A X s) (hY : Y.2 = X) (hT : T = ab_tg) (hI : IV s G sa A nL ac0 ac h L S H locs ls) (hk : KK p l e R s m args below meth c Q G sa A nL ce sl ac0 k r) : W p l e R s m args below meth c H locs (ce h.1) (sl h.1) Q (F0 m pc ls (S.map (cv sa ac h.1))) := by
  dsimp only [ab_stp] at hs
  dsimp only [ab_chk] at hc
  obtain ⟨hd, rfl, ha, hso⟩ := of_decide_eq_true hc
  obtain ⟨tx, ht⟩ := hst.2.2.2.2.1 a ha
  rw [hso] at ht
  exact va_ldcS hx hb hown ht hd (hk _ _ _ _ _ _ _ _ hs (hI.st (cs_ok trivial hI.ok)))
theorem sw_tab {α : Type} {lo y P9 : Int} {d : Nat} {f : Nat → α} : ∀ (l9 : List Int) (n : Nat), (∀ j off, l9[j]? = some off → y = lo + ((n + j : Nat) : Int) → ab_sw ((l9.zipIdx n).map (fun q => (lo + (q.2 : Int), P9 + q.1))) y d f = f (P9 + off).toNat) ∧ ((∀ j, j < l9.length → y ≠ lo + ((n + j : Nat) : Int)) → ab_sw ((l9.zipIdx n).map (fun q => (lo + (q.2 : Int), P9 + q.1))) y d f = f d)
  | [], n => ⟨fun j off h1 => (by cases h1), fun _ => rfl⟩
  | o9 :: l9, n => by
    have ih := sw_tab (lo := lo) (y := y) (P9 := P9) (d := d) (f := f) l9 (n + 1)
    refine ⟨fun j off h1 h2 => ?_, fun h1 => ?_⟩
    · show (if y = lo + (n : Int) then f (P9 + o9).toNat else ab_sw ((l9.zipIdx (n + 1)).map (fun q => (lo + (q.2 : Int), P9 + q.1))) y d f) = _
      cases j with
      | zero =>
        cases h1
        rw [if_pos (by omega)]
      | succ j =>
        rw [if_neg (by omega)]
        exact ih.1 j off h1 (by omega)
    · show (if y = lo + (n : Int) then f (P9 + o9).toNat else ab_sw ((l9.zipIdx (n + 1)).map (fun q => (lo + (q.2 : Int), P9 + q.1))) y d f) = _
      rw [if_neg (by have := h1 0 (Nat.zero_lt_succ _); omega)]
      exact ih.2 fun j hj => by have := h1 (j + 1) (Nat.succ_lt_succ hj); omega
theorem sw_look {α : Type} {y P9 d9 : Int} {f : Nat → α} : ∀ (l9 : List (Int × Int)), ab_sw (l9.map (fun q => (q.1, P9 + q.2))) y (P9 + d9).toNat f = f (P9 + Op.lookupswitch.offset l9 d9 y).toNat
  | [] => rfl
  | (v, o9) :: l9 => by
    show (if y = v then f (P9 + o9).toNat else ab_sw (l9.map (fun q => (q.1, P9 + q.2))) y (P9 + d9).toNat f) = _
    rw [sw_look l9]
    by_cases hv : y = v
    · simp [Op.lookupswitch.offset, hv]
    · simp [Op.lookupswitch.offset, hv, Ne.symm hv]

theorem sp_switch {n : Int} {ps : Array (Int × Int)} (hx : p.tables.exec = Jvm.exec) (hb : c.code = cc) (hown : s.vm.findClass own = some m.cls) (hw : ∀ w ∈ lw_good, w.before args s = true) (hc : ab_chk own cc rt init pc (.lookupswitch n ps, nx, a, b, x) hi hp = true) (hs : ab_stp T Y cal (.lookupswitch n ps, nx, a, b, x) L S h k = some r) (hI : IV s G sa A nL ac0 ac h L S H locs ls) (hk : KK p l e R s m args below meth c Q G sa A nL ce sl ac0 k r) : W p l e R s m args below meth c H locs (ce h.1) (sl h.1) Q (F0 m pc ls (S.map (cv sa ac h.1))) := by
  dsimp only [ab_stp] at hs
  dsimp only [ab_chk] at hc
  obtain ⟨y, S1, e9, h9⟩ := i1_some hs
  clear hs
  subst e9
  have hs := h9
  clear h9
  have hy : in32 y := in_ok (cs_hd hI.ok)
  have hI' := hI.st (cs_tl hI.ok)
  split at hc
  · rename_i d lo hi2 offs len hd
    obtain ⟨h1, h2, h3, h4⟩ := of_decide_eq_true hc
    rw [h3] at hs
    have h5 := sw_tab (lo := lo) (y := y) (P9 := (pc : Int)) (d := a) (f := fun p9 => k p9 L S1 h) offs.toList 0
    by_cases hin : lo ≤ y ∧ y ≤ hi2
    · have h6 : (y - lo).toNat < offs.size := by omega
      have h7 : offs[(y - lo).toNat]? = some offs[(y - lo).toNat] := Array.getElem?_eq_getElem h6
      have h8 : offs.toList[(y - lo).toNat]? = some offs[(y - lo).toNat] := by rw [Array.getElem?_toList]; exact h7
      have h9 := h5.1 _ _ h8 (by omega)
      rw [h9] at hs
      have h10 : 0 ≤ (pc : Int) + offs[(y - lo).toNat] := by
        have := List.all_eq_true.mp h4 _ (List.mem_of_getElem? h8)
        simpa using this
      refine lv_tableIn (x := Int32.ofInt y) (off := offs[(y - lo).toNat]) (tgt := ((pc : Int) + offs[(y - lo).toNat]).toNat) hx hb hd (by rw [ar_to hy]; omega) (by rw [ar_to hy]; omega) (by rw [ar_to hy]; exact h7) (by omega) ?_
      exact hk _ _ _ _ _ _ _ _ hs hI'
    · have h9 := h5.2 (fun j hj => by rw [Array.length_toList] at hj; omega)
      rw [h9] at hs
      exact lv_tableOut (x := Int32.ofInt y) (tgt := a) hx hb hd (by rw [ar_to hy]; omega) (by omega) (hk _ _ _ _ _ _ _ _ hs hI')
  · rename_i d qs len hd
    obtain ⟨h1, h2, h3, h4⟩ := of_decide_eq_true hc
    have h5 := sw_look (y := y) (P9 := (pc : Int)) (d9 := d) (f := fun p9 => k p9 L S1 h) qs.toList
    rw [h2, show a = ((pc : Int) + d).toNat by omega, h5] at hs
    have h10 : 0 ≤ (pc : Int) + Op.lookupswitch.offset qs.toList d y := by
      have key : ∀ l9 : List (Int × Int), l9.all (fun q => 0 ≤ (pc : Int) + q.2) = true → 0 ≤ (pc : Int) + Op.lookupswitch.offset l9 d y := by
        intro l9
        induction l9 with
        | nil => intro _; show 0 ≤ (pc : Int) + d; omega
        | cons q l9 ih =>
          intro h6
          rw [List.all_cons, Bool.and_eq_true] at h6
          obtain ⟨v, o9⟩ := q
          have h7 := ih h6.2
          have h8 : 0 ≤ (pc : Int) + o9 := by simpa using h6.1
          by_cases hv : v = y
          · simp [Op.lookupswitch.offset, hv]; exact h8
          · simp [Op.lookupswitch.offset, hv]; exact h7
      exact key _ h4
    refine lv_lookup (x := Int32.ofInt y) (off := Op.lookupswitch.offset qs.toList d y) (tgt := ((pc : Int) + Op.lookupswitch.offset qs.toList d y).toNat) hx hb hd h3 (by rw [ar_to hy]) (by omega) ?_
    exact hk _ _ _ _ _ _ _ _ hs hI'
  · cases hc
end
