section
def R_law : String := "NineInMindLaw"
def lw_P (b : Addr) (xs : List Int32) (args : Array Value) (s : State) : Prop := args = #[.ref b] ∧ s.IntsAt b xs ∧ xs.length ≤ 3072 ∧ (Jvm.Cond.and given_1 narrow_1).before args s = true
def lw_Q (_ : Array Value) (s : State) (o : Outcome) (t : State) : Prop := o = .returned (some (.int 1)) ∧ Framed s o t [] 600000 7302250
def lw_Z (below : List Frame) (a : Array Value) (s : State) : State → Prop := fun t => ∃ o, t.status = .running ∧ Ended t below o ∧ lw_Q a s o t
/-- the law's own end, with 1 on the stack, nothing written that was there before, its room as the claim has it -/
theorem lw_ret {p : Program} {l : Launch} {e : Env} {s : State} {m : MethodId} {below : List Frame} {meth : Method} {c : Code} {b : Nat} (hx : p.tables.exec = Jvm.exec) (hb : c.code = code) (hr : meth.sig.returnType = ret) (hlocks : meth.locks = false) {pc : Nat} {H : Heap} {ls : Array Slot} (hdg : decode code pc = .ok (.ireturn, 1)) : W p l e room_1 s m #[Value.ref b] below meth c H [] 600000 7302250 (lw_Z below #[Value.ref b] s) (F0 m pc ls [.int 1]) := by
  intro T hT X
  obtain ⟨fs, hret, hrun, hended, hW, hframe⟩ := X.leave (v := some (.int 1)) (hlocks := hlocks) (fun h => by rw [hr] at h; cases h)
  have hmeth' : T.vm.method? m = some meth := X.method'
  refine ⟨T.setFrames fs, ?_, .returned (some (.int 1)), hrun, hended, rfl, ⟨_, rfl⟩, hW, hframe⟩
  jvm_step X.here [X.here.top, hx, hb, hdg, hmeth', hr, ret, narrow_b1]
  (try refine ⟨rfl, ?_⟩); (try refine ⟨rfl, ?_⟩)
  first | (intro acts; rw [hret _ acts rfl rfl rfl]) | rw [hret _ _ rfl rfl rfl]
  exact Steps.refl _
/-- what holds at the law's entry: the machine, the code, the tables' words (any of lw_tbl by 'hts w (by decide +kernel)'), the script of L ints xs at the cell b, what the Statement gives of the start (any of its parts by flat_of_before) -/
def lw_At (p : Program) (s : State) (m : MethodId) (meth : Method) (c : Code) (b L : Nat) (xs : Nat → Int32) : Prop :=
  p.tables.exec = Jvm.exec ∧ c.code = code ∧ meth.sig.returnType = ret ∧ c.maxLocals = 4 ∧ s.vm.findClass R_law = some m.cls ∧ (∀ w ∈ lw_tbl, w.before #[Value.ref b] s = true) ∧ va_X b L xs s s.heap ∧ b < s.heap.size ∧ meth.locks = false ∧ (Jvm.Cond.and given_1 narrow_1).before #[Value.ref b] s = true
def sx_tm (j : Nat) : Term := .string (ab_so j).1 (ab_so j).2
def sx_tx (j : Nat) : String := [" things mind rhyme secret worth inn ", "things", "mind", "rhyme", "secret", "worth", "inn"].getD j ""
def sx_fl : List Cond := flatC (Jvm.Cond.and given_1 narrow_1)
set_option maxRecDepth 100000 in
theorem sx_1 : ∀ j, j < 7 → Cond.exactly (sx_tm j) "java/lang/String" ∈ sx_fl ∧ Cond.eq (.field (sx_tm j) "java/lang/String" "coder" "B") (.int 0) ∈ sx_fl ∧ Cond.arrayOf (.field (sx_tm j) "java/lang/String" "value" "[B") .byte ∈ sx_fl ∧ Cond.eq (.length (.field (sx_tm j) "java/lang/String" "value" "[B")) (.int (Int32.ofNat (st_len.getD j 0))) ∈ sx_fl := by decide +kernel
set_option maxRecDepth 100000 in
theorem sx_2 : ∀ i, i < 7 → ∀ j, j < st_len.getD i 0 → Cond.eq (.elem (.field (sx_tm i) "java/lang/String" "value" "[B") (.int (Int32.ofNat j))) (.int ((st_byt.getD i []).getD j 0)) ∈ sx_fl := by decide +kernel
set_option maxRecDepth 100000 in
theorem sx_3 : ∀ i, i < 7 → ∀ j, j < 7 → i ≠ j → Cond.not (Cond.eq (sx_tm i) (sx_tm j)) ∈ sx_fl ∨ Cond.not (Cond.eq (sx_tm j) (sx_tm i)) ∈ sx_fl := by decide +kernel
set_option maxRecDepth 100000 in
theorem sx_4 : Cond.eq (.static "java/lang/String" "COMPACT_STRINGS" "Z") (.int 1) ∈ sx_fl ∧ Cond.isRef (.static "jdk/internal/util/Preconditions" "SIOOBE_FORMATTER" "Ljava/util/function/BiFunction;") ∈ sx_fl := by decide +kernel
set_option maxRecDepth 100000 in
theorem sx_5 : ∀ j, j < 7 → Cond.stringRef (ab_so j).1 (ab_so j).2 (sx_tx j) ∈ lw_tbl := by decide +kernel
set_option maxRecDepth 100000 in
theorem sx_6 : Cond.laysStatic "java/lang/String" "COMPACT_STRINGS" "Z" ∈ lw_tbl ∧ Cond.laysStatic "jdk/internal/util/Preconditions" "SIOOBE_FORMATTER" "Ljava/util/function/BiFunction;" ∈ lw_tbl ∧ Cond.initialized "java/lang/String" ∈ lw_tbl ∧ Cond.initialized "jdk/internal/util/Preconditions" ∈ lw_tbl := by decide +kernel
theorem sx_7 : ∀ i, i < 7 → st_len.getD i 0 < 2 ^ 31 := by decide +kernel
/-- the start: the script, the texts, the tables -/
theorem sx_ST {p : Program} {s : State} {m : MethodId} {meth : Method} {c : Code} {b L : Nat} {xs : Nat → Int32} (hL : L ≤ 3072) (C0 : lw_At p s m meth c b L xs) : ∃ sa : Nat → Nat, sa 1000 = b ∧ ST sa (fun q => s.heap.size ≤ q) (L, fun k => (xs k).toInt) s := by
  obtain ⟨hx, hb, hr, hml, hown, hts, hX, hbl, hlocks, hgv⟩ := id C0
  have hA : ∀ a : Nat, a < s.heap.size → ¬ (fun q => s.heap.size ≤ q) a := fun a h => Nat.not_le.mpr h
  have hf : ∀ w ∈ sx_fl, w.before #[Value.ref b] s = true := flat_of_before _ hgv
  obtain ⟨adK, adV, hV, hev⟩ := vk_Sof (args := #[Value.ref b]) (s := s) (N := 7) (tm := sx_tm) (len := st_len) (byt := st_byt) (A := fun q => s.heap.size ≤ q) sx_7 (fun i hi => hf _ (sx_1 i hi).1) (fun i hi => hf _ (sx_1 i hi).2.1) (fun i hi => hf _ (sx_1 i hi).2.2.1) (fun i hi => hf _ (sx_1 i hi).2.2.2) (fun i hi j hj => hf _ (sx_2 i hi j hj)) (fun i j hi hj hn => (sx_3 i hi j hj hn).imp (fun z => hf _ z) (fun z => hf _ z)) hA
  have hsa : ∀ i, i < 7 → (if i = 1000 then b else adK i) = adK i := fun i hi => if_neg (by omega)
  refine ⟨fun j => if j = 1000 then b else adK j, if_pos rfl, ⟨?_, ?_, hA b hbl, fun j => ar_in (xs j), by show L < _; omega⟩, fun own i y hst hm => va_Nw.of rfl (hts _ hm), fun C hm => va_AO.of (hts _ hm), ⟨adV, ⟨fun i hi => ?_, fun i j hi hj he => ?_⟩⟩, fun j hj => ⟨sx_tx j, ?_⟩, va_Zof (hts _ sx_6.1) (hts _ sx_6.2.2.1) (va_eqi (hf _ sx_4.1)) hA, va_Zqof (hts _ sx_6.2.1) (hts _ sx_6.2.2.2) (hf _ sx_4.2) hA⟩
  · have e1 : (if (1000 : Nat) = 1000 then b else adK 1000) = b := if_pos rfl
    have e2 : (fun j => Int32.ofInt ((fun k => (xs k).toInt) j)) = xs := funext fun j => Int32.ofInt_toInt (xs j)
    show va_X (if (1000 : Nat) = 1000 then b else adK 1000) L (fun j => Int32.ofInt ((fun k => (xs k).toInt) j)) s s.heap
    rw [e1, e2]
    exact hX
  · show (if (1000 : Nat) = 1000 then b else adK 1000) < _
    rw [if_pos rfl]
    exact hbl
  · show va_O _ (if i = 1000 then b else adK i) _ _ _ ∧ va_OF _ _ _ _ (if i = 1000 then b else adK i) _ _ _ ∧ va_OF _ _ _ _ (if i = 1000 then b else adK i) _ _ _ ∧ _
    rw [hsa i hi]
    exact hV.1 i hi
  · have he : (if i = 1000 then b else adK i) = (if j = 1000 then b else adK j) := he
    rw [hsa i hi, hsa j hj] at he
    exact hV.2 i j hi hj he
  · show vk_R _ _ _ (if j = 1000 then b else adK j) _
    rw [hsa j hj]
    exact vk_R.of (hts _ (sx_5 j hj)) (hev j hj)
/-- the classes' places -/
theorem sx_K {s : State} {args : Array Value} (hts : ∀ w ∈ lw_tbl, w.before args s = true) : ∃ G : va_G, va_K G classes [] s := by
  have h0 : ∀ t : Nat, ∃ q : ClassId × (Nat → Nat), t < 13 → u_Kn s (ab_cls t).1 (ab_cls t).2.1 (ab_cls t).2.2 q.1 q.2 := by
    intro t
    by_cases ht : t < 13
    · obtain ⟨cC, iS, h⟩ := u_known (ws := lw_tbl) (C := (ab_cls t).1) (T := (ab_cls t).2.1) (N := (ab_cls t).2.2) hts (fun w hw => (List.mem_filter.mp (cls_in ht w hw)).1) (hts _ (cls_inst t ht).1)
      exact ⟨(cC, iS), fun _ => h⟩
    · exact ⟨(0, fun _ => 0), fun h => absurd h ht⟩
  obtain ⟨f, hf⟩ := Classical.axiomOfChoice h0
  refine ⟨(fun k => (f k).1, fun k => (f k).2), fun k q hq => ?_, fun k q h => by cases h⟩
  have hk : k < 13 := by
    have := (List.getElem?_eq_some_iff.mp hq).1
    exact this
  have e1 := cls_at hk
  rw [hq] at e1
  cases e1
  exact hf k hk
theorem sx_sz : ce_ 0 al0 ≤ 600000 ∧ sl_ 0 al0 ≤ 7302250 := by decide +kernel
def LWK0 : Prop := ∀ (pc : Nat) (e : List Nat × ab_E), ab_lk cd_law_law pc = some e → ∃ hi hp, ab_chk "NineInMindLaw" code ret false pc e.2 hi hp = true
theorem chk_iret {own : String} {cc : ByteArray} {rt : Option FieldType} {init : Bool} {pc nx a b hi hp : Nat} {x : Int} (hc : ab_chk own cc rt init pc (.ireturn, nx, a, b, x) hi hp = true) : decode cc pc = .ok (.ireturn, 1) ∧ ((a = 0 ∧ rt = some .int) ∨ (a = 1 ∧ rt = some .boolean)) := of_decide_eq_true hc
theorem sx_one (D' : DD) : (hp D').1 = al0 := rfl
set_option maxHeartbeats 1000000 in
theorem sx_start {p : Program} {e : Env} {s : State} {m : MethodId} {below : List Frame} {meth : Method} {c : Code} (l : Launch) {b L : Nat} {xs : Nat → Int32} (hmk : ∀ m9, m9 < 292 → MOK m9) (hmet : ∀ X, STR l X → ∀ m9, m9 < 292 → CM l X 88 m9 (ev X 80)) (hlok : LWK0) (hL : L ≤ 3072) (C0 : lw_At p s m meth c b L xs) : W p l e room_1 s m #[Value.ref b] below meth c s.heap [] 0 0 (lw_Z below #[Value.ref b] s) (entryFrame m ([Value.ref b] : List Value).toArray 4) := by
  obtain ⟨sa, hsa, hst⟩ := sx_ST hL C0
  obtain ⟨hx, hb, hr, hml, hown, hts, hX, hbl, hlocks, hgv⟩ := id C0
  obtain ⟨G, hK⟩ := sx_K hts
  have hw : ∀ w ∈ lw_good, w.before #[Value.ref b] s = true := fun w hw => hts w (List.mem_filter.mp hw).1
  obtain ⟨D', h18⟩ := law_18 (X := (L, fun k => (xs k).toInt)) (d := 80) (Nat.le_refl _) hL (fun k => ar_in (xs k))
  obtain ⟨n, hn⟩ := ab_lim_to h18
  have hstr := str_all (l := l) (L, fun k => (xs k).toInt)
  have hcm := hmet (L, fun k => (xs k).toInt) hstr
  obtain ⟨r, hre⟩ : ∃ r : ab_R, r = (some (vI 1), hp D') := ⟨_, rfl⟩
  have hr1 : r.2.1 = al0 := hre ▸ sx_one D'
  have hmr : ce_ 0 r.2.1 ≤ 600000 ∧ sl_ 0 r.2.1 ≤ 7302250 := by rw [hr1]; exact sx_sz
  rw [← hre] at hn
  have hA : ∀ q, s.heap.size ≤ q → (fun q => s.heap.size ≤ q) q := fun q h => h
  have hret : ∀ L8 S8 (h8 : ab_H) k8 (pc hi hp : Nat) (e9 : ab_E) (ac : List (Nat × ClassId)) (H : Heap) (locs : List Loc) (ls : Array Slot), (e9.1 = .ireturn ∨ e9.1 = .lreturn ∨ e9.1 = .return_) → ab_chk "NineInMindLaw" code ret false pc e9 hi hp = true → ab_stp ab_tg (ab_tx, (L, fun k => (xs k).toInt)) (ev (L, fun k => (xs k).toInt) 80) e9 L8 S8 h8 k8 = some r → IV s G sa (fun q => s.heap.size ≤ q) 4 [] ac h8 L8 S8 H locs ls → W p l e room_1 s m #[Value.ref b] below meth c H locs (ce_ 0 h8.1) (sl_ 0 h8.1) (lw_Z below #[Value.ref b] s) (F0 m pc ls (S8.map (cv sa ac h8.1))) := by
    intro L8 S8 h8 k8 pc hi hp' e9 ac H locs ls g1 g2 g3 g4
    obtain ⟨op, nx, a, b9, x⟩ := e9
    have fin : ∀ v : Option ab_V, some (v, h8) = some r → v = some (vI 1) ∧ h8 = hp D' := by
      intro v z
      have z := Option.some.inj z
      rw [hre] at z
      exact ⟨congrArg Prod.fst z, congrArg Prod.snd z⟩
    rcases g1 with he | he | he
    · dsimp only at he
      subst he
      dsimp only [ab_stp] at g3
      obtain ⟨hd, hk9⟩ := chk_iret g2
      obtain ⟨y, S1, e9, hs1⟩ := i1_some g3
      clear g3
      subst e9
      rcases S1 with _ | ⟨v9, S6⟩
      rotate_left
      · cases hs1
      have hs2 : some ((some (vI y), h8) : ab_R) = some r := by
        rcases hk9 with ⟨rfl, -⟩ | ⟨rfl, -⟩
        · exact hs1
        · exact (ite_some hs1).2
      obtain ⟨e1, e2⟩ := fin _ hs2
      have e3 : y = 1 := by cases e1; rfl
      subst e3
      have e4 : h8.1 = al0 := by rw [e2]
      refine va_forget g4.2.2.1.2.2 ?_
      rw [e4]
      refine W.widen sx_sz.1 sx_sz.2 ?_
      exact lw_ret hx hb hr hlocks hd
    · dsimp only at he
      subst he
      dsimp only [ab_stp] at g3
      obtain ⟨y, S1, e9, hs1⟩ := l1_some g3
      clear g3
      subst e9
      rcases S1 with _ | ⟨v9, S6⟩
      rotate_left
      · cases hs1
      obtain ⟨e1, e2⟩ := fin _ hs1
      cases e1
    · dsimp only at he
      subst he
      dsimp only [ab_stp] at g3
      rcases S8 with _ | ⟨v9, S6⟩
      rotate_left
      · cases g3
      obtain ⟨e1, e2⟩ := fin _ g3
      cases e1
  have z18 := itr_W (l := l) (R := room_1) (e := e) (below := below) (Q := lw_Z below #[Value.ref b] s) (G := G) (cd := cd_law_law) (cal := ev (L, fun k => (xs k).toInt) 80) (ac0 := []) (ce := ce_ 0) (sl := sl_ 0) (r := r) (init := false) hx hb hown hw (fun z => by cases z) hst hml (d := 88) (by omega) ⟨Nat.le_of_ble_eq_true rfl, Nat.le_of_ble_eq_true rfl⟩ hmk hcm (fun al l8 _ => ce_app al l8 (Nat.zero_le _)) hA hstr hlok (fun m as h r => ev_grow 80 m as h r) hmr ce_mo hret n
  have hk0 : KK p l e room_1 s m #[Value.ref b] below meth c (lw_Z below #[Value.ref b] s) G sa (fun q => s.heap.size ≤ q) 4 (ce_ 0) (sl_ 0) [] (k18 r) r := by
    intro pc L8 S8 h8 ac H locs ls h9 hI
    obtain ⟨e1, e2, e3, e4⟩ := k18_some h9
    subst e1 e2 e3 e4
    have q := z18 18 _ _ (hp D00) _ _ _ _ hn (dM_IV hI)
    exact q
  have hg0 : ∀ pc L8 S8 (h' : ab_H), k18 r pc L8 S8 h' = some r → h'.1 <+: r.2.1 := by
    intro pc L8 S8 h' h9
    obtain ⟨e1, e2, e3, e4⟩ := k18_some h9
    rw [e4, hr1]
    exact List.prefix_rfl
  have hI0 : IV s G sa (fun q => s.heap.size ≤ q) 4 [] [] (ihd ([], [], [])) [vS 1000, vU, vU, vU] [] s.heap [] ((lg_sl ([vS 1000].map (cv sa [] [])) ++ List.replicate (4 - (lg_sl ([vS 1000].map (cv sa [] []))).length) Slot.unset).toArray) := by
    refine ⟨List.prefix_rfl, ⟨rfl, List.nodup_nil, fun k q h => ?_, ⟨fun i j p q h => ?_, fun k q h => ?_⟩, hK, fun k q a cA h => ?_, fun q hq => ?_, fun q hq => ?_⟩, va_S.rf, ent_LH (as := [vS 1000]) (n := 4) (fun v hv => ?_) (by decide), fun v hv => ?_, fun v hv => by cases hv⟩
    · cases h
    · cases h
    · cases h
    · cases h
    · cases hq
    · cases hq
    · cases List.mem_singleton.mp hv
      exact trivial
    · rcases List.mem_cons.mp hv with rfl | hv
      · exact Or.inr trivial
      · left
        rcases List.mem_cons.mp hv with rfl | hv
        · rfl
        · rcases List.mem_cons.mp hv with rfl | hv
          · rfl
          · exact List.mem_singleton.mp hv
  have z0 := itrk_W (l := l) (R := room_1) (e := e) (below := below) (Q := lw_Z below #[Value.ref b] s) (G := G) (cd := cd_law_law) (cal := ev (L, fun k => (xs k).toInt) 80) (ac0 := []) (ce := ce_ 0) (sl := sl_ 0) (r := r) (init := false) (k0 := k18 r) hx hb hown hw (fun z => by cases z) hst hml (d := 88) (by omega) ⟨Nat.le_of_ble_eq_true rfl, Nat.le_of_ble_eq_true rfl⟩ hmk hcm (fun al l8 _ => ce_app al l8 (Nat.zero_le _)) hA hstr hlok (fun m as h r => ev_grow 80 m as h r) hmr ce_mo hret hg0 hk0 10 0 _ _ _ _ _ _ _ (law_0 (by omega)) hI0
  rw [lg_entry_eq]
  have e9 : [vS 1000].map (cv sa [] []) = [Value.ref b] := by
    show [Value.ref (sa 1000)] = _
    rw [hsa]
  rw [e9] at z0
  exact z0
end
