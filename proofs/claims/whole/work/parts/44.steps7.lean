section
variable {p : Program} {l : Launch} {e : Env} {R : Room} {s : State} {m : MethodId} {args : Array Value} {below : List Frame} {meth : Method} {c : Code} {Q : State → Prop} {H : Heap} {locs : List Loc} {ls : Array Slot}
variable {cc : ByteArray} {own : String} {nL : Nat} {G : va_G} {sa : Nat → Nat} {A : Nat → Prop} {X : Nat × (Nat → Int)} {ce sl : List (Nat × Nat) → Nat} {ac0 ac : List (Nat × ClassId)}
variable {rt : Option FieldType} {init : Bool} {pc nx a b hi hp : Nat} {x : Int} {T : ab_T} {Y : ab_X} {cal : ab_C} {L S : List ab_V} {h : ab_H} {k : ab_K} {r : ab_R}

/-- numbers of one place were written -/
theorem WD.upd {U : State} (w : WD G ac h A U H) {q : Nat × Nat} (hq : q ∈ h.1) {D' : Nat → Nat → Nat → Int} (ho : ∀ q' : Nat × Nat, q' ≠ q → ∀ j, D' q'.1 q'.2 j = h.2.2 q'.1 q'.2 j) (hr : ∀ j, rgk (kk q.1 j) (D' q.1 q.2 j)) {cA : ClassId} (hc : ac[h.1.idxOf q]? = some (cvA ac h.1 q, cA)) {H1 : Heap} (hP : va_P G classes ((wsl ac h).set (h.1.idxOf q) (cvA ac h.1 q, en ac (h.1, h.2.1, D') cA q)) H1) (hD : va_D A ((wsl ac h).set (h.1.idxOf q) (cvA ac h.1 q, en ac (h.1, h.2.1, D') cA q))) : WD G ac (h.1, h.2.1, D') A U H1 := by
  obtain ⟨w1, w2, w3, w4, w5, w6, w7, w8⟩ := w
  obtain ⟨cA', e1, -⟩ := al_pos w1 hq
  rw [wsl_set (h' := (h.1, h.2.1, D')) w1 w2 rfl e1 hc (fun q' c9 hn => by
    unfold en fvl
    simp only [ho q' hn])] at hP hD
  refine ⟨w1, w2, hP, hD, w5, w6, fun q' hq' k' => ?_, w8⟩
  show rgk (kk q'.1 k') (D' q'.1 q'.2 k')
  by_cases hn : q' = q
  · rw [hn]
    exact hr k'
  · rw [ho q' hn]
    exact w7 q' hq' k'
theorem nfw : nativeFrameWords "java/lang/System" "arraycopy" 5 + 11 ≤ 60 := by decide +kernel
theorem sys_w : Cond.native arraycopyName ∈ lw_tbl ∧ Cond.static arraycopyName ∈ lw_tbl ∧ Cond.initialized "java/lang/System" ∈ lw_tbl ∧ Cond.instanceMethod Lib.objectInit ∈ lw_tbl ∧ Cond.code Lib.objectInit ⟨#[0xb1]⟩ 1 none ∈ lw_tbl := by decide +kernel
theorem fn_cpy {t i t2 i2 : Nat} {sp dp n : Int} (h1 : 0 ≤ sp) (h2 : 0 ≤ dp) (h3 : 0 ≤ n) : (fun j => Int32.ofInt ((ab_cpy h t i sp t2 i2 dp n).2.2 t2 i2 j)) = va_cpy (fun j => Int32.ofInt (h.2.2 t i j)) (fun j => Int32.ofInt (h.2.2 t2 i2 j)) sp.toNat dp.toNat n.toNat := by
  funext j
  unfold ab_cpy va_cpy
  dsimp only
  by_cases hj : dp ≤ (j : Int) ∧ (j : Int) < dp + n
  · rw [if_pos ⟨rfl, rfl, hj.1, hj.2⟩, if_pos (by omega)]
    rw [show (sp + ((j : Int) - dp)).toNat = sp.toNat + (j - dp.toNat) by omega]
  · rw [if_neg (fun z => hj z.2.2), if_neg (by omega)]

theorem sp_copy  (hx : p.tables.exec = Jvm.exec) (hb : c.code = cc) (hown : s.vm.findClass own = some m.cls) (hw : ∀ w ∈ lw_good, w.before args s = true) (hc : ab_chk own cc rt init pc (.caload, nx, a, b, x) hi hp = true) (hs : ab_stp T Y cal (.caload, nx, a, b, x) L S h k = some r) (hst : ST sa A X s) (hY : Y.2 = X) (hT : T = ab_tg) (hnl : c.maxLocals = nL) (hfr : 1 ≤ R.frames) (hlc : 60 ≤ R.locals) (hI : IV s G sa A nL ac0 ac h L S H locs ls) (hk : KK p l e R s m args below meth c Q G sa A nL ce sl ac0 k r) : W p l e R s m args below meth c H locs (ce h.1) (sl h.1) Q (F0 m pc ls (S.map (cv sa ac h.1))) := by
  dsimp only [ab_stp] at hs
  dsimp only [ab_chk] at hc
  subst hT
  obtain ⟨n, S1, e9, h9⟩ := i1_some hs
  clear hs
  subst e9
  have hs := h9
  clear h9
  obtain ⟨dp, S2, e9, h9⟩ := i1_some hs
  clear hs
  subst e9
  have hs := h9
  clear h9
  obtain ⟨t2, i2, S3, e9, h9⟩ := r1_some hs
  clear hs
  subst e9
  have hs := h9
  clear h9
  obtain ⟨sp, S4, e9, h9⟩ := i1_some hs
  clear hs
  subst e9
  have hs := h9
  clear h9
  obtain ⟨t, i, S5, e9, h9⟩ := r1_some hs
  clear hs
  subst e9
  have hs := h9
  clear h9
  rcases S5 with _ | ⟨v9, S6⟩
  rotate_left
  · cases hs
  obtain ⟨hb1, h9⟩ := beq_some hs
  clear hs
  have hs := h9
  clear h9
  obtain ⟨hin, h9⟩ := ite_some hs
  clear hs
  have hs := h9
  clear h9
  obtain ⟨hd, rfl, hlk⟩ := of_decide_eq_true hc
  rw [Bool.and_eq_true] at hb1
  have b1 := bq hb1.1
  have b2 := bq hb1.2
  have hn : in32 n := in_ok (cs_hd hI.ok)
  have hdp : in32 dp := in_ok (cs_hd (cs_tl hI.ok))
  have hsp : in32 sp := in_ok (cs_hd (cs_tl (cs_tl (cs_tl hI.ok))))
  have hq2 : (t2, i2) ∈ h.1 := cs_hd (cs_tl (cs_tl hI.ok))
  have hq : (t, i) ∈ h.1 := cs_hd (cs_tl (cs_tl (cs_tl (cs_tl hI.ok))))
  have wd := hI.2.1
  obtain ⟨w1, w2, w3, w4, w5, w6, w7, w8⟩ := id wd
  obtain ⟨cA, p1, p2⟩ := al_pos w1 hq
  obtain ⟨cB, p3, p4⟩ := al_pos w1 hq2
  have he := wsl_get p1 p2
  have he2 := wsl_get p3 p4
  rw [en_1 (q := (t, i)) (Or.inl b1)] at he
  rw [en_1 (q := (t2, i2)) (Or.inl b2)] at he2
  have k1 := w6 _ _ _ _ p1 p2 (by show (ab_tg t).1 ≠ 0; rw [b1]; decide)
  have k2 := w6 _ _ _ _ p3 p4 (by show (ab_tg t2).1 ≠ 0; rw [b2]; decide)
  rw [fty_1 b1] at k1
  rw [fty_1 b2] at k2
  have hK := K2 w5 k1 k2
  have ng : ∀ z : Int, in32 z → 0 ≤ z → ¬ Int32.ofInt z < 0 := fun z q1 q2 => by rw [Int32.lt_iff_toInt_lt, ar_to q1]; show ¬ _ < (0 : Int); omega
  refine va_copyi (ty := .int) hx hb (hnl.trans hI.2.2.2.1.2.1.symm) hown (hw _ (wd_in hlk rfl)) (hw _ (List.mem_filter.mpr ⟨sys_w.1, rfl⟩)) (hw _ (List.mem_filter.mpr ⟨sys_w.2.1, rfl⟩)) (hw _ (List.mem_filter.mpr ⟨sys_w.2.2.1, rfl⟩)) hK w3 w4 hI.2.2.1 _ _ 0 1 he he2 rfl rfl rfl (ng sp hsp hin.1) (ng dp hdp hin.2.1) (ng n hn hin.2.2.1) (by rw [cl_n hsp, cl_n hn]; show _ ≤ (ab_tg t).2; omega) (by rw [cl_n hdp, cl_n hn]; show _ ≤ (ab_tg t2).2; omega) (fun i9 _ => rfl) hfr (Nat.le_trans (by show 0 + _ ≤ _; rw [Nat.zero_add]; exact nfw) hlc) hd fun H1 locs1 q1 q2 q3 => ?_
  rw [cl_n hsp, cl_n hdp, cl_n hn] at q1 q2
  have e1 : en ac (ab_cpy h t i sp t2 i2 dp n) cB (t2, i2) = _ := en_1 (q := (t2, i2)) (Or.inl b2)
  dsimp only at e1
  rw [fn_cpy hin.1 hin.2.1 hin.2.2.1] at e1
  dsimp only at q1 q2
  rw [← e1] at q1 q2
  have z9 := hk _ _ _ _ _ _ _ _ hs (hI.go (h' := ab_cpy h t i sp t2 i2 dp n) rfl (wd.upd (q := (t2, i2)) hq2 (fun q' hn9 j => if_neg (fun z => hn9 (Prod.ext z.1 z.2.1))) (fun j => by
    show rgk (kk t2 j) (if t2 = t2 ∧ i2 = i2 ∧ dp ≤ (j : Int) ∧ (j : Int) < dp + n then h.2.2 t i ((sp + ((j : Int) - dp)).toNat) else h.2.2 t2 i2 j)
    have r1 := w7 (t, i) hq ((sp + ((j : Int) - dp)).toNat)
    have r2 := w7 (t2, i2) hq2 j
    rw [kk_1 b1] at r1
    rw [kk_1 b2] at r2 ⊢
    split
    · exact r1
    · exact r2) p4 q1 q2) q3 (fun v hv => by cases hv))
  exact z9
theorem sp_oinit  (hx : p.tables.exec = Jvm.exec) (hb : c.code = cc) (hown : s.vm.findClass own = some m.cls) (hw : ∀ w ∈ lw_good, w.before args s = true) (hc : ab_chk own cc rt init pc (.d2l, nx, a, b, x) hi hp = true) (hs : ab_stp T Y cal (.d2l, nx, a, b, x) L S h k = some r) (hst : ST sa A X s) (hY : Y.2 = X) (hT : T = ab_tg) (hnl : c.maxLocals = nL) (hfr : 1 ≤ R.frames) (hlc : 60 ≤ R.locals) (hI : IV s G sa A nL ac0 ac h L S H locs ls) (hk : KK p l e R s m args below meth c Q G sa A nL ce sl ac0 k r) : W p l e R s m args below meth c H locs (ce h.1) (sl h.1) Q (F0 m pc ls (S.map (cv sa ac h.1))) := by
  dsimp only [ab_stp] at hs
  dsimp only [ab_chk] at hc
  obtain ⟨t, i, S1, e9, h9⟩ := r1_some hs
  clear hs
  subst e9
  have hs := h9
  clear h9
  rcases S1 with _ | ⟨v9, S6⟩
  rotate_left
  · cases hs
  obtain ⟨hd, rfl, hlk⟩ := of_decide_eq_true hc
  refine W.objInit hx hb hown (hw _ (wd_in hlk rfl)) (hw _ (List.mem_filter.mpr ⟨sys_w.2.2.2.1, rfl⟩)) (hw _ (List.mem_filter.mpr ⟨sys_w.2.2.2.2, rfl⟩)) (g := F0 m pc ls [.ref (cvA ac h.1 (t, i))]) rfl (by show ls.size = _; rw [hI.2.2.2.1.2.1, hnl]) (rest := []) rfl hd hfr (by show 2 * 0 + 0 + 12 ≤ _; omega) ?_
  exact hk _ _ _ _ _ _ _ _ hs (hI.st (fun v hv => by cases hv))
/-- the words of a method -/
def wm (m9 : Nat) : List Cond := Cond.code (ab_mt m9).1 (ab_mt m9).2.1 (ab_mt m9).2.2.1 (ab_mt m9).2.2.2 :: lw_good
def rmd (d : Nat) (l8 : List (Nat × Nat)) : Room := { frames := d, cells := l8.length, slots := (l8.map szq).sum, locals := 60 * d }
def PC (G : va_G) (sa : Nat → Nat) (A : Nat → Prop) (X : Nat × (Nat → Int)) (ac : List (Nat × ClassId)) (h : ab_H) (as : List ab_V) : Array Value → State → Prop := va_Pc (as.map (cv sa ac h.1)) (fun U => WD G ac h A U U.heap ∧ ST sa A X U ∧ ∀ q, U.heap.size ≤ q → A q)
def QC (G : va_G) (sa : Nat → Nat) (A : Nat → Prop) (ac : List (Nat × ClassId)) (r : ab_R) : Array Value → State → Outcome → State → Prop := fun _ st oc t => (∃ l9, oc = .returned (r.1.map (cv sa (ac ++ l9) r.2.1)) ∧ (∀ v, r.1 = some v → okv r.2.1 v) ∧ WD G (ac ++ l9) r.2 A t t.heap) ∧ va_F A st t
/-- a method's run is met by the machine -/
def CM (l : Launch) (X : Nat × (Nat → Int)) (d : Nat) (m9 : Nat) (cal : ab_C) : Prop := ∀ (as : List ab_V) (h : ab_H) (r : ab_R), cal m9 as h = some r → (∀ v ∈ as, okv h.1 v) → ∃ l8, r.2.1 = h.1 ++ l8 ∧ ∀ (G : va_G) (sa : Nat → Nat) (A : Nat → Prop) (ac : List (Nat × ClassId)), Met l (ab_mt m9).1 (wm m9) (rmd d l8) (PC G sa A X ac h as) (QC G sa A ac r) l8.length ((l8.map szq).sum) A
theorem PC.blind {as : List ab_V} : FrameBlind (PC G sa A X ac h as) := fun a9 U g mk q => by
  obtain ⟨q1, q2, q3, q4⟩ := q
  exact ⟨q1, q2.moved (Vm.Alike.refl U.vm), q3.calling, q4⟩
theorem cvA_ext {al l8 : List (Nat × Nat)} {l9 : List (Nat × ClassId)} {q : Nat × Nat} (hl : ac.length = al.length) (hq : q ∈ al) : cvA (ac ++ l9) (al ++ l8) q = cvA ac al q := by
  have h1 : al.idxOf q < al.length := List.idxOf_lt_length_of_mem hq
  unfold cvA
  rw [List.idxOf_append, if_pos hq, List.getD_eq_getElem?_getD, List.getD_eq_getElem?_getD, List.getElem?_append_left (by omega)]
theorem cv_ext {al l8 : List (Nat × Nat)} {l9 : List (Nat × ClassId)} {v : ab_V} (hl : ac.length = al.length) (hv : okv al v) : cv sa (ac ++ l9) (al ++ l8) v = cv sa ac al v := by
  rcases v with y | y | q | j | u
  · rfl
  · rfl
  · show Value.ref _ = Value.ref _
    rw [cvA_ext hl hv]
  · rfl
  · rfl
theorem pop_some {f : List ab_V → List ab_V → Option ab_R} : ∀ (n : Nat) (S acc : List ab_V), ab_pop n S acc f = some r → ∃ ps S', S = ps ++ S' ∧ ps.length = n ∧ f (ps.reverse ++ acc) S' = some r
  | 0, S, acc, h9 => ⟨[], S, rfl, rfl, h9⟩
  | n + 1, [], acc, h9 => by cases h9
  | n + 1, v :: S, acc, h9 => by
    obtain ⟨ps, S', e1, e2, e3⟩ := pop_some n S (v :: acc) h9
    refine ⟨v :: ps, S', by rw [e1]; rfl, by rw [List.length_cons, e2], ?_⟩
    rw [List.reverse_cons, List.append_assoc]
    exact e3
/-- behind a call -/
theorem ab_call {cells slots mc ms pc9 : Nat} {st0 rest : List Value} {a9 : Array Value} (hr : va_Run p l e R s m args below meth c H locs cells slots mc ms (F0 m pc9 ls st0) rest (QC G sa A ac r a9) A) (hS : va_S A s.heap H locs)
    (kk : ∀ (l9 : List (Nat × ClassId)) (H1 : Heap) (locs1 : List Loc), (∀ v, r.1 = some v → okv r.2.1 v) → WD G (ac ++ l9) r.2 A s H1 → va_S A s.heap H1 locs1 → W p l e R s m args below meth c H1 locs1 (cells + mc) (slots + ms) Q (F0 m (pc9 + 3) ls ((r.1.map (cv sa (ac ++ l9) r.2.1)).toList ++ rest))) : W p l e R s m args below meth c H locs cells slots Q (F0 m pc9 ls st0) := by
  intro T hT X
  obtain ⟨v, st₀, t, T', L9, h0, X', hL, e1, e2, ⟨⟨l9, hv, hok, hwd⟩, hz, hkk⟩, st⟩ := hr T hT X
  cases hv
  rw [h0] at hz hkk
  have hal : t.vm.Alike s.vm := by rw [← e2]; exact X'.warmed.alike.symm
  obtain ⟨t2, a1, b1⟩ := kk l9 T'.heap (locs ++ L9) hok (by rw [e1]; exact hwd.moved hal)
    ⟨Nat.le_trans hS.1 (by rw [e1]; exact hz), fun q h1 h2 => by rw [e1, hkk q (Nat.lt_of_lt_of_le h1 hS.1) h2]; exact hS.2.1 q h1 h2, fun q hq => by
      rcases List.mem_append.mp hq with z | z
      · exact hS.2.2 q z
      · exact hL q z⟩ T' rfl X'
  exact ⟨t2, st t2 a1, b1⟩

end
