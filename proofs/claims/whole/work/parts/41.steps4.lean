section
variable {p : Program} {l : Launch} {e : Env} {R : Room} {s : State} {m : MethodId} {args : Array Value} {below : List Frame} {meth : Method} {c : Code} {Q : State → Prop} {H : Heap} {locs : List Loc} {ls : Array Slot}
variable {cc : ByteArray} {own : String} {nL : Nat} {G : va_G} {sa : Nat → Nat} {A : Nat → Prop} {X : Nat × (Nat → Int)} {ce sl : List (Nat × Nat) → Nat} {ac0 ac : List (Nat × ClassId)}
variable {rt : Option FieldType} {init : Bool} {pc nx a b hi hp : Nat} {x : Int} {T : ab_T} {Y : ab_X} {cal : ab_C} {L S : List ab_V} {h : ab_H} {k : ab_K} {r : ab_R}

theorem in_vp {y : Int} {n : Nat} (hy : in32 y) (h9 : 0 ≤ y ∧ y < (n : Int)) : vp_in (Int32.ofInt y) n := vp_in_iff.mpr (by rw [ar_to hy]; exact h9)
theorem cl_n {y : Int} (hy : in32 y) : (Int32.ofInt y).toNatClampNeg = y.toNat := by
  show (Int32.ofInt y).toInt.toNat = _
  rw [ar_to hy]
theorem K1 {U : State} {cA : ClassId} {ty : FieldType} (hK : va_K G classes [] U) (h9 : ArrOfT U cA ty ∧ va_RA U cA ty) : va_K G classes [(cA, ty)] U := ⟨hK.1, fun k q hq => by
  match k, hq with
  | 0, hq => cases hq; exact h9⟩
theorem K2 {U : State} {cA cB : ClassId} {ty : FieldType} (hK : va_K G classes [] U) (h9 : ArrOfT U cA ty ∧ va_RA U cA ty) (h8 : ArrOfT U cB ty ∧ va_RA U cB ty) : va_K G classes [(cA, ty), (cB, ty)] U := ⟨hK.1, fun k q hq => by
  match k, hq with
  | 0, hq => cases hq; exact h9
  | 1, hq => cases hq; exact h8⟩
theorem en_1 {cA : ClassId} {q : Nat × Nat} (ht : (ab_tg q.1).1 = 1 ∨ (ab_tg q.1).1 = 2 ∨ (ab_tg q.1).1 = 3) : en ac h cA q = .inl (cA, (ab_tg q.1).2, .inl (fun j => Int32.ofInt (h.2.2 q.1 q.2 j))) := by
  unfold en
  rcases ht with e9 | e9 | e9 <;> rw [e9] <;> rfl
theorem en_4 {cA : ClassId} {q : Nat × Nat} (ht : (ab_tg q.1).1 = 4) : en ac h cA q = .inl (cA, (ab_tg q.1).2, .inr (.inl (fun j => Int64.ofInt (h.2.2 q.1 q.2 j)))) := by
  unfold en
  rw [ht]
  rfl
theorem en_5 {cA : ClassId} {q : Nat × Nat} (ht : (ab_tg q.1).1 = 5) : en ac h cA q = .inl (cA, (ab_tg q.1).2, .inr (.inr (.inr (.inr (fun j => (h.2.1 q.1 q.2 j).map (cvA ac h.1)))))) := by
  unfold en
  rw [ht]
  rfl
theorem fty_1 {t : Nat} (ht : (ab_tg t).1 = 1) : fty t = .int := by unfold fty; rw [ht]; rfl
theorem fty_2 {t : Nat} (ht : (ab_tg t).1 = 2) : fty t = .byte := by unfold fty; rw [ht]; rfl
theorem fty_3 {t : Nat} (ht : (ab_tg t).1 = 3) : fty t = .boolean := by unfold fty; rw [ht]; rfl
theorem fty_4 {t : Nat} (ht : (ab_tg t).1 = 4) : fty t = .long := by unfold fty; rw [ht]; rfl
theorem fty_5 {t : Nat} (ht : (ab_tg t).1 = 5) : fty t = .object (ab_cls (ab_el t)).1 := by unfold fty; rw [ht]; rfl
theorem kk_1 {t k9 : Nat} (ht : (ab_tg t).1 = 1) : kk t k9 = 0 := by unfold kk; rw [ht]; rfl
theorem kk_2 {t k9 : Nat} (ht : (ab_tg t).1 = 2) : kk t k9 = 4 := by unfold kk; rw [ht]; rfl
theorem kk_3 {t k9 : Nat} (ht : (ab_tg t).1 = 3) : kk t k9 = 1 := by unfold kk; rw [ht]; rfl
theorem kk_4 {t k9 : Nat} (ht : (ab_tg t).1 = 4) : kk t k9 = 2 := by unfold kk; rw [ht]; rfl
theorem fn_1 {q : Nat × Nat} {k9 : Nat} {z : Int} : (fun j => Int32.ofInt (u3 h.2.2 q.1 q.2 k9 z q.1 q.2 j)) = upd (fun j => Int32.ofInt (h.2.2 q.1 q.2 j)) k9 (Int32.ofInt z) := by
  funext j
  by_cases hj : j = k9
  · subst hj
    rw [u3_s, pk_us]
  · rw [u3_n (fun z => hj z.2.2), pk_un hj]
theorem fn_4 {q : Nat × Nat} {k9 : Nat} {z : Int} : (fun j => Int64.ofInt (u3 h.2.2 q.1 q.2 k9 z q.1 q.2 j)) = vp_updL (fun j => Int64.ofInt (h.2.2 q.1 q.2 j)) k9 (Int64.ofInt z) := by
  funext j
  by_cases hj : j = k9
  · subst hj
    rw [u3_s, pk_uLs]
  · rw [u3_n (fun z => hj z.2.2), pk_uLn hj]
theorem fn_5 {q q2 : Nat × Nat} {k9 : Nat} : (fun j => (u3 h.2.1 q.1 q.2 k9 (some q2) q.1 q.2 j).map (cvA ac h.1)) = va_up (fun j => (h.2.1 q.1 q.2 j).map (cvA ac h.1)) k9 (some (cvA ac h.1 q2)) := by
  funext j
  unfold va_up
  by_cases hj : j = k9
  · subst hj
    rw [u3_s, if_pos rfl]
    rfl
  · rw [u3_n (fun z => hj z.2.2), if_neg hj]
theorem rg_1 {y : Int} (h9 : y = 0 ∨ y = 1) : in32 y := by rcases h9 with z | z <;> rw [z] <;> decide
theorem rg_4 {y : Int} (h9 : -128 ≤ y ∧ y < 128) : in32 y := ⟨by omega, by omega⟩
theorem bq {a9 b9 : Nat} (h9 : Nat.beq a9 b9 = true) : a9 = b9 := Nat.eq_of_beq_eq_true h9

theorem sp_iaload  (hx : p.tables.exec = Jvm.exec) (hb : c.code = cc) (hown : s.vm.findClass own = some m.cls) (hw : ∀ w ∈ lw_good, w.before args s = true) (hc : ab_chk own cc rt init pc (.iaload, nx, a, b, x) hi hp = true) (hs : ab_stp T Y cal (.iaload, nx, a, b, x) L S h k = some r) (hst : ST sa A X s) (hY : Y.2 = X) (hT : T = ab_tg) (hI : IV s G sa A nL ac0 ac h L S H locs ls) (hk : KK p l e R s m args below meth c Q G sa A nL ce sl ac0 k r) : W p l e R s m args below meth c H locs (ce h.1) (sl h.1) Q (F0 m pc ls (S.map (cv sa ac h.1))) := by
  dsimp only [ab_stp] at hs
  dsimp only [ab_chk] at hc
  subst hT
  obtain ⟨y, S1, e9, h9⟩ := i1_some hs
  clear hs
  subst e9
  have hs := h9
  clear h9
  obtain ⟨hd, rfl⟩ := pl_some hc
  have hy : in32 y := in_ok (cs_hd hI.ok)
  rcases S1 with _ | ⟨v, S2⟩
  · cases hs
  · rcases v with z | z | q | j | u
    · cases hs
    · cases hs
    · obtain ⟨hb1, h9⟩ := beq_some hs
      clear hs
      have hs := h9
      clear h9
      obtain ⟨hin, h9⟩ := ite_some hs
      clear hs
      have hs := h9
      clear h9
      have hq : q ∈ h.1 := cs_hd (cs_tl hI.ok)
      have hb1 := bq hb1
      obtain ⟨w1, w2, w3, w4, w5, w6, w7, w8⟩ := hI.2.1
      obtain ⟨cA, p1, p2⟩ := al_pos w1 hq
      have he := wsl_get p1 p2
      rw [en_1 (Or.inl hb1)] at he
      have hK := K1 w5 (w6 _ _ _ _ p1 p2 (by rw [hb1]; decide))
      rw [fty_1 hb1] at hK
      refine va_iald hx hb hK w3 _ 0 he rfl (in_vp hy hin) hd ?_
      rw [cl_n hy]
      have hr := w7 q hq y.toNat
      rw [kk_1 hb1] at hr
      exact hk _ _ _ _ _ _ _ _ hs (hI.st (cs_ok (show in32 _ from hr) (cs_tl (cs_tl hI.ok))))
    · obtain ⟨hb1, h9⟩ := beq_some hs
      clear hs
      have hs := h9
      clear h9
      obtain ⟨hin, h9⟩ := ite_some hs
      clear hs
      have hs := h9
      clear h9
      have hb1 := bq hb1
      subst hb1
      obtain ⟨⟨a1, a2, a3, a4, a5⟩, -⟩ := hst
      rw [hY] at hin hs
      refine va_sld hx hb a1 a2 a3 hI.2.2.1 (in_vp hy hin) hd ?_
      rw [cl_n hy]
      exact hk _ _ _ _ _ _ _ _ hs (hI.st (cs_ok (show in32 _ from a4 _) (cs_tl (cs_tl hI.ok))))
    · cases hs
theorem sp_baload  (hx : p.tables.exec = Jvm.exec) (hb : c.code = cc) (hown : s.vm.findClass own = some m.cls) (hw : ∀ w ∈ lw_good, w.before args s = true) (hc : ab_chk own cc rt init pc (.baload, nx, a, b, x) hi hp = true) (hs : ab_stp T Y cal (.baload, nx, a, b, x) L S h k = some r) (hst : ST sa A X s) (hY : Y.2 = X) (hT : T = ab_tg) (hI : IV s G sa A nL ac0 ac h L S H locs ls) (hk : KK p l e R s m args below meth c Q G sa A nL ce sl ac0 k r) : W p l e R s m args below meth c H locs (ce h.1) (sl h.1) Q (F0 m pc ls (S.map (cv sa ac h.1))) := by
  dsimp only [ab_stp] at hs
  dsimp only [ab_chk] at hc
  subst hT
  obtain ⟨y, S1, e9, h9⟩ := i1_some hs
  clear hs
  subst e9
  have hs := h9
  clear h9
  obtain ⟨t, i, S2, e9, h9⟩ := r1_some hs
  clear hs
  subst e9
  have hs := h9
  clear h9
  obtain ⟨hb1, h9⟩ := beq_some hs
  clear hs
  have hs := h9
  clear h9
  obtain ⟨hin, h9⟩ := ite_some hs
  clear hs
  have hs := h9
  clear h9
  obtain ⟨hd, rfl⟩ := pl_some hc
  have hy : in32 y := in_ok (cs_hd hI.ok)
  have hq : (t, i) ∈ h.1 := cs_hd (cs_tl hI.ok)
  obtain ⟨w1, w2, w3, w4, w5, w6, w7, w8⟩ := hI.2.1
  obtain ⟨cA, p1, p2⟩ := al_pos w1 hq
  have he := wsl_get p1 p2
  have hr := w7 (t, i) hq y.toNat
  rw [Bool.or_eq_true] at hb1
  rcases hb1 with hb1 | hb1
  · have hb1 := bq hb1
    rw [en_1 (q := (t, i)) (Or.inr (Or.inl hb1))] at he
    have hK := K1 w5 (w6 _ _ _ _ p1 p2 (by show (ab_tg t).1 ≠ 0; rw [hb1]; decide))
    rw [fty_2 hb1] at hK
    refine va_bald hx hb hK w3 _ 0 he rfl (in_vp hy hin) hd ?_
    rw [cl_n hy]
    rw [kk_2 hb1] at hr
    exact hk _ _ _ _ _ _ _ _ hs (hI.st (cs_ok (show in32 _ from rg_4 hr) (cs_tl (cs_tl hI.ok))))
  · have hb1 := bq hb1
    rw [en_1 (q := (t, i)) (Or.inr (Or.inr hb1))] at he
    have hK := K1 w5 (w6 _ _ _ _ p1 p2 (by show (ab_tg t).1 ≠ 0; rw [hb1]; decide))
    rw [fty_3 hb1] at hK
    refine va_zald hx hb hK w3 _ 0 he rfl (in_vp hy hin) hd ?_
    rw [cl_n hy]
    rw [kk_3 hb1] at hr
    exact hk _ _ _ _ _ _ _ _ hs (hI.st (cs_ok (show in32 _ from rg_1 hr) (cs_tl (cs_tl hI.ok))))
theorem sp_laload  (hx : p.tables.exec = Jvm.exec) (hb : c.code = cc) (hown : s.vm.findClass own = some m.cls) (hw : ∀ w ∈ lw_good, w.before args s = true) (hc : ab_chk own cc rt init pc (.laload, nx, a, b, x) hi hp = true) (hs : ab_stp T Y cal (.laload, nx, a, b, x) L S h k = some r) (hst : ST sa A X s) (hY : Y.2 = X) (hT : T = ab_tg) (hI : IV s G sa A nL ac0 ac h L S H locs ls) (hk : KK p l e R s m args below meth c Q G sa A nL ce sl ac0 k r) : W p l e R s m args below meth c H locs (ce h.1) (sl h.1) Q (F0 m pc ls (S.map (cv sa ac h.1))) := by
  dsimp only [ab_stp] at hs
  dsimp only [ab_chk] at hc
  subst hT
  obtain ⟨y, S1, e9, h9⟩ := i1_some hs
  clear hs
  subst e9
  have hs := h9
  clear h9
  obtain ⟨t, i, S2, e9, h9⟩ := r1_some hs
  clear hs
  subst e9
  have hs := h9
  clear h9
  obtain ⟨hb1, h9⟩ := beq_some hs
  clear hs
  have hs := h9
  clear h9
  obtain ⟨hin, h9⟩ := ite_some hs
  clear hs
  have hs := h9
  clear h9
  obtain ⟨hd, rfl⟩ := pl_some hc
  have hy : in32 y := in_ok (cs_hd hI.ok)
  have hq : (t, i) ∈ h.1 := cs_hd (cs_tl hI.ok)
  obtain ⟨w1, w2, w3, w4, w5, w6, w7, w8⟩ := hI.2.1
  obtain ⟨cA, p1, p2⟩ := al_pos w1 hq
  have he := wsl_get p1 p2
  have hr := w7 (t, i) hq y.toNat
  have hb1 := bq hb1
  rw [en_4 (q := (t, i)) hb1] at he
  have hK := K1 w5 (w6 _ _ _ _ p1 p2 (by show (ab_tg t).1 ≠ 0; rw [hb1]; decide))
  rw [fty_4 hb1] at hK
  refine va_lald hx hb hK w3 _ 0 he rfl (in_vp hy hin) hd ?_
  rw [cl_n hy]
  rw [kk_4 hb1] at hr
  exact hk _ _ _ _ _ _ _ _ hs (hI.st (cs_ok (show in64 _ from hr) (cs_tl (cs_tl hI.ok))))
theorem sp_aaload  (hx : p.tables.exec = Jvm.exec) (hb : c.code = cc) (hown : s.vm.findClass own = some m.cls) (hw : ∀ w ∈ lw_good, w.before args s = true) (hc : ab_chk own cc rt init pc (.aaload, nx, a, b, x) hi hp = true) (hs : ab_stp T Y cal (.aaload, nx, a, b, x) L S h k = some r) (hst : ST sa A X s) (hY : Y.2 = X) (hT : T = ab_tg) (hI : IV s G sa A nL ac0 ac h L S H locs ls) (hk : KK p l e R s m args below meth c Q G sa A nL ce sl ac0 k r) : W p l e R s m args below meth c H locs (ce h.1) (sl h.1) Q (F0 m pc ls (S.map (cv sa ac h.1))) := by
  dsimp only [ab_stp] at hs
  dsimp only [ab_chk] at hc
  subst hT
  obtain ⟨y, S1, e9, h9⟩ := i1_some hs
  clear hs
  subst e9
  have hs := h9
  clear h9
  obtain ⟨t, i, S2, e9, h9⟩ := r1_some hs
  clear hs
  subst e9
  have hs := h9
  clear h9
  obtain ⟨hb1, h9⟩ := beq_some hs
  clear hs
  have hs := h9
  clear h9
  obtain ⟨hin, h9⟩ := ite_some hs
  clear hs
  have hs := h9
  clear h9
  obtain ⟨q', hq', h9⟩ := rf_some hs
  clear hs
  have hs := h9
  clear h9
  obtain ⟨hd, rfl⟩ := pl_some hc
  have hy : in32 y := in_ok (cs_hd hI.ok)
  have hq : (t, i) ∈ h.1 := cs_hd (cs_tl hI.ok)
  obtain ⟨w1, w2, w3, w4, w5, w6, w7, w8⟩ := hI.2.1
  obtain ⟨cA, p1, p2⟩ := al_pos w1 hq
  have he := wsl_get p1 p2
  have hb1 := bq hb1
  rw [en_5 (q := (t, i)) hb1] at he
  have hK := K1 w5 (w6 _ _ _ _ p1 p2 (by show (ab_tg t).1 ≠ 0; rw [hb1]; decide))
  rw [fty_5 hb1] at hK
  refine va_aldq hx hb hK w3 _ 0 he rfl (in_vp hy hin) hd ?_
  rw [cl_n hy]
  dsimp only
  rw [hq']
  exact hk _ _ _ _ _ _ _ _ hs (hI.st (cs_ok (show _ ∈ _ from w8 (t, i) hq _ q' hq') (cs_tl (cs_tl hI.ok))))
theorem sp_iastore  (hx : p.tables.exec = Jvm.exec) (hb : c.code = cc) (hown : s.vm.findClass own = some m.cls) (hw : ∀ w ∈ lw_good, w.before args s = true) (hc : ab_chk own cc rt init pc (.iastore, nx, a, b, x) hi hp = true) (hs : ab_stp T Y cal (.iastore, nx, a, b, x) L S h k = some r) (hst : ST sa A X s) (hY : Y.2 = X) (hT : T = ab_tg) (hI : IV s G sa A nL ac0 ac h L S H locs ls) (hk : KK p l e R s m args below meth c Q G sa A nL ce sl ac0 k r) : W p l e R s m args below meth c H locs (ce h.1) (sl h.1) Q (F0 m pc ls (S.map (cv sa ac h.1))) := by
  dsimp only [ab_stp] at hs
  dsimp only [ab_chk] at hc
  subst hT
  obtain ⟨z, S1, e9, h9⟩ := i1_some hs
  clear hs
  subst e9
  have hs := h9
  clear h9
  obtain ⟨y, S2, e9, h9⟩ := i1_some hs
  clear hs
  subst e9
  have hs := h9
  clear h9
  obtain ⟨t, i, S3, e9, h9⟩ := r1_some hs
  clear hs
  subst e9
  have hs := h9
  clear h9
  obtain ⟨hb1, h9⟩ := beq_some hs
  clear hs
  have hs := h9
  clear h9
  obtain ⟨hin, h9⟩ := ite_some hs
  clear hs
  have hs := h9
  clear h9
  obtain ⟨hd, rfl⟩ := pl_some hc
  have hb1 := bq hb1
  have hy : in32 y := in_ok (cs_hd (cs_tl hI.ok))
  have hq : (t, i) ∈ h.1 := cs_hd (cs_tl (cs_tl hI.ok))
  have wd := hI.2.1
  obtain ⟨w1, w2, w3, w4, w5, w6, w7, w8⟩ := id wd
  obtain ⟨cA, p1, p2⟩ := al_pos w1 hq
  have he := wsl_get p1 p2
  rw [en_1 (q := (t, i)) (Or.inl hb1)] at he
  have hK := K1 w5 (w6 _ _ _ _ p1 p2 (by show (ab_tg t).1 ≠ 0; rw [hb1]; decide))
  rw [fty_1 hb1] at hK
  have e1 : en ac (h.1, h.2.1, u3 h.2.2 t i y.toNat z) cA (t, i) = _ := en_1 (q := (t, i)) (Or.inl hb1)
  dsimp only at e1
  rw [fn_1 (q := (t, i))] at e1
  refine va_iast hx hb hK w3 w4 hI.2.2.1 _ 0 he rfl (in_vp hy hin) hd fun H1 locs1 q1 q2 q3 => ?_
  rw [cl_n hy] at q1 q2
  dsimp only at q1 q2
  rw [← e1] at q1 q2
  have hr : rgk (kk t y.toNat) z := by rw [kk_1 hb1]; exact (show in32 z from cs_hd hI.ok)
  have z9 := hk _ _ _ _ _ _ _ _ hs (hI.go (h' := (h.1, h.2.1, u3 h.2.2 t i y.toNat z)) rfl (wd.putD (q := (t, i)) hq hr p2 q1 q2) q3 (cs_tl (cs_tl (cs_tl hI.ok))))
  exact z9
theorem sp_lastore  (hx : p.tables.exec = Jvm.exec) (hb : c.code = cc) (hown : s.vm.findClass own = some m.cls) (hw : ∀ w ∈ lw_good, w.before args s = true) (hc : ab_chk own cc rt init pc (.lastore, nx, a, b, x) hi hp = true) (hs : ab_stp T Y cal (.lastore, nx, a, b, x) L S h k = some r) (hst : ST sa A X s) (hY : Y.2 = X) (hT : T = ab_tg) (hI : IV s G sa A nL ac0 ac h L S H locs ls) (hk : KK p l e R s m args below meth c Q G sa A nL ce sl ac0 k r) : W p l e R s m args below meth c H locs (ce h.1) (sl h.1) Q (F0 m pc ls (S.map (cv sa ac h.1))) := by
  dsimp only [ab_stp] at hs
  dsimp only [ab_chk] at hc
  subst hT
  obtain ⟨z, S1, e9, h9⟩ := l1_some hs
  clear hs
  subst e9
  have hs := h9
  clear h9
  obtain ⟨y, S2, e9, h9⟩ := i1_some hs
  clear hs
  subst e9
  have hs := h9
  clear h9
  obtain ⟨t, i, S3, e9, h9⟩ := r1_some hs
  clear hs
  subst e9
  have hs := h9
  clear h9
  obtain ⟨hb1, h9⟩ := beq_some hs
  clear hs
  have hs := h9
  clear h9
  obtain ⟨hin, h9⟩ := ite_some hs
  clear hs
  have hs := h9
  clear h9
  obtain ⟨hd, rfl⟩ := pl_some hc
  have hb1 := bq hb1
  have hy : in32 y := in_ok (cs_hd (cs_tl hI.ok))
  have hq : (t, i) ∈ h.1 := cs_hd (cs_tl (cs_tl hI.ok))
  have wd := hI.2.1
  obtain ⟨w1, w2, w3, w4, w5, w6, w7, w8⟩ := id wd
  obtain ⟨cA, p1, p2⟩ := al_pos w1 hq
  have he := wsl_get p1 p2
  rw [en_4 (q := (t, i)) hb1] at he
  have hK := K1 w5 (w6 _ _ _ _ p1 p2 (by show (ab_tg t).1 ≠ 0; rw [hb1]; decide))
  rw [fty_4 hb1] at hK
  have e1 : en ac (h.1, h.2.1, u3 h.2.2 t i y.toNat z) cA (t, i) = _ := en_4 (q := (t, i)) hb1
  dsimp only at e1
  rw [fn_4 (q := (t, i))] at e1
  refine va_last hx hb hK w3 w4 hI.2.2.1 _ 0 he rfl (in_vp hy hin) hd fun H1 locs1 q1 q2 q3 => ?_
  rw [cl_n hy] at q1 q2
  dsimp only at q1 q2
  rw [← e1] at q1 q2
  have hr : rgk (kk t y.toNat) z := by rw [kk_4 hb1]; exact (show in64 z from cs_hd hI.ok)
  have z9 := hk _ _ _ _ _ _ _ _ hs (hI.go (h' := (h.1, h.2.1, u3 h.2.2 t i y.toNat z)) rfl (wd.putD (q := (t, i)) hq hr p2 q1 q2) q3 (cs_tl (cs_tl (cs_tl hI.ok))))
  exact z9
end
