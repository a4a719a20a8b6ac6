section
variable {p : Program} {l : Launch} {e : Env} {R : Room} {s : State} {m : MethodId} {args : Array Value} {below : List Frame} {meth : Method} {c : Code} {Q : State → Prop} {H : Heap} {locs : List Loc} {ls : Array Slot}
variable {cc : ByteArray} {own : String} {nL : Nat} {G : va_G} {sa : Nat → Nat} {A : Nat → Prop} {X : Nat × (Nat → Int)} {ce sl : List (Nat × Nat) → Nat} {ac0 ac : List (Nat × ClassId)}
variable {rt : Option FieldType} {init : Bool} {pc nx a b hi hp : Nat} {x : Int} {T : ab_T} {Y : ab_X} {cal : ab_C} {L S : List ab_V} {h : ab_H} {k : ab_K} {r : ab_R}

theorem sp_getfield {n : Nat} (hx : p.tables.exec = Jvm.exec) (hb : c.code = cc) (hown : s.vm.findClass own = some m.cls) (hw : ∀ w ∈ lw_good, w.before args s = true) (hc : ab_chk own cc rt init pc (.getfield n, nx, a, b, x) hi hp = true) (hs : ab_stp T Y cal (.getfield n, nx, a, b, x) L S h k = some r) (hI : IV s G sa A nL ac0 ac h L S H locs ls) (hk : KK p l e R s m args below meth c Q G sa A nL ce sl ac0 k r) : W p l e R s m args below meth c H locs (ce h.1) (sl h.1) Q (F0 m pc ls (S.map (cv sa ac h.1))) := by
  dsimp only [ab_stp] at hs
  dsimp only [ab_chk] at hc
  obtain ⟨t, i, S1, e9, h9⟩ := r1_some hs
  clear hs
  subst e9
  have hs := h9
  clear h9
  obtain ⟨hb1, h9⟩ := beq_some hs
  clear hs
  have hs := h9
  clear h9
  have hta : t = a := Nat.eq_of_beq_eq_true hb1
  subst hta
  obtain ⟨hd, rfl, ht, hbN, rfl, hlk⟩ := of_decide_eq_true hc
  have hq : (t, i) ∈ h.1 := cs_hd hI.ok
  obtain ⟨w1, w2, w3, w4, w5, w6, w7, w8⟩ := hI.2.1
  obtain ⟨cA, p1, p2⟩ := al_pos w1 hq
  have he := wsl_get p1 p2
  rw [en_obj (q := (t, i)) ht] at he
  refine va_get hx hb hw (cls_in ht) hown w5 w3 _ he (cls_at ht) b hbN (hw _ (wd_in hlk rfl)) (fun _ z => z) (fs_get hbN) hd ?_
  have hrg := w7 (t, i) hq b
  rw [kk_obj ht] at hrg
  have hrf := w8 (t, i) hq b
  unfold fvl
  dsimp only at hrg hrf ⊢
  have hle : ab_fk t b = 0 ∨ ab_fk t b = 1 ∨ ab_fk t b = 2 ∨ ab_fk t b = 3 := by have := fk_le t ht b hbN; omega
  rcases hle with e9 | e9 | e9 | e9 <;> rw [e9] at hs hrg ⊢
  · exact hk _ _ _ _ _ _ _ _ hs (hI.st (cs_ok (show in32 _ from hrg) (cs_tl hI.ok)))
  · exact hk _ _ _ _ _ _ _ _ hs (hI.st (cs_ok (show in32 _ by rcases hrg with z | z <;> rw [z] <;> decide) (cs_tl hI.ok)))
  · exact hk _ _ _ _ _ _ _ _ hs (hI.st (cs_ok (show in64 _ from hrg) (cs_tl hI.ok)))
  · obtain ⟨q', hq', hs⟩ := rf_some hs
    rw [hq']
    exact hk _ _ _ _ _ _ _ _ hs (hI.st (cs_ok (show _ ∈ _ from hrf q' hq') (cs_tl hI.ok)))
end
