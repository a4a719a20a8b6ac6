/-! the law's first instructions: up to its loop -/
section
def itrk (X : Nat × (Nat → Int)) (cd : List (Nat × List Nat × ab_E)) (cal : ab_C) (k0 : ab_K) : Nat → ab_K
  | 0 => k0
  | n + 1 => fun pc L S h => match ab_lk cd pc with
    | some e => ab_stp ab_tg (ab_tx, X) cal e.2 (ab_kl e.1 L) S h (itrk X cd cal k0 n)
    | none => none
theorem itrk_S {X : Nat × (Nat → Int)} {cd : List (Nat × List Nat × ab_E)} {cal : ab_C} {k0 : ab_K} {n pc : Nat} {L S : List ab_V} {h : ab_H} {e : List Nat × ab_E} (he : ab_lk cd pc = some e) : itrk X cd cal k0 (n + 1) pc L S h = ab_stp ab_tg (ab_tx, X) cal e.2 (ab_kl e.1 L) S h (itrk X cd cal k0 n) := by
  show (match ab_lk cd pc with | some e => ab_stp ab_tg (ab_tx, X) cal e.2 (ab_kl e.1 L) S h (itrk X cd cal k0 n) | none => none) = _
  rw [he]
theorem itrk_grow {X : Nat × (Nat → Int)} {cd : List (Nat × List Nat × ab_E)} {cal : ab_C} {k0 : ab_K} {r : ab_R} (hc : ∀ m as h r, cal m as h = some r → h.1 <+: r.2.1) (h0 : ∀ pc L S h', k0 pc L S h' = some r → h'.1 <+: r.2.1) : ∀ (n pc : Nat) (L S : List ab_V) (h : ab_H), itrk X cd cal k0 n pc L S h = some r → h.1 <+: r.2.1
  | 0, pc, L, S, h, h9 => h0 pc L S h h9
  | n + 1, pc, L, S, h, h9 => by
    unfold itrk at h9
    split at h9
    · exact stp_grow _ hc (fun pc L S h' => itrk_grow hc h0 n pc L S h') h9
    · cases h9
theorem itrk_W {p : Program} {l : Launch} {X : Nat × (Nat → Int)} {e : Env} {R : Room} {s : State} {m : MethodId} {args : Array Value} {below : List Frame} {meth : Method} {c : Code} {Q : State → Prop} {own : String} {cc : ByteArray} {rt : Option FieldType} {init : Bool} {nL : Nat} {G : va_G} {sa : Nat → Nat} {A : Nat → Prop} {ce sl : List (Nat × Nat) → Nat} {ac0 : List (Nat × ClassId)} {cal : ab_C} {r : ab_R} {cd : List (Nat × List Nat × ab_E)} {k0 : ab_K} (hx : p.tables.exec = Jvm.exec) (hb : c.code = cc) (hown : s.vm.findClass own = some m.cls) (hw : ∀ w ∈ lw_good, w.before args s = true) (hin : init = true → meth.name = "<init>") (hst : ST sa A X s) (hnl : c.maxLocals = nL) {d : Nat} (hd8 : 8 ≤ d + 1) (hRd : d + 1 ≤ R.frames ∧ 60 * (d + 1) ≤ R.locals) (hmk : ∀ m9, m9 < 292 → MOK m9) (hcm : ∀ m9, m9 < 292 → CM l X d m9 cal) (hce : ∀ (al l8 : List (Nat × Nat)), ac0.length ≤ al.length → ce (al ++ l8) = ce al + l8.length ∧ sl (al ++ l8) = sl al + (l8.map szq).sum) (hA : ∀ q, s.heap.size ≤ q → A q) (hstr : STR l X) (hck : ∀ (pc : Nat) (e : List Nat × ab_E), ab_lk cd pc = some e → ∃ hi hp, ab_chk own cc rt init pc e.2 hi hp = true) (hcg : ∀ m as h r, cal m as h = some r → h.1 <+: r.2.1) (hmr : ce r.2.1 ≤ R.cells ∧ sl r.2.1 ≤ R.slots) (hmo : ∀ al al' : List (Nat × Nat), al <+: al' → ce al ≤ ce al' ∧ sl al ≤ sl al')
    (hret : ∀ L S h k (pc hi hp : Nat) (e9 : ab_E) (ac : List (Nat × ClassId)) (H : Heap) (locs : List Loc) (ls : Array Slot), (e9.1 = .ireturn ∨ e9.1 = .lreturn ∨ e9.1 = .return_) → ab_chk own cc rt init pc e9 hi hp = true → ab_stp ab_tg (ab_tx, X) cal e9 L S h k = some r → IV s G sa A nL ac0 ac h L S H locs ls → W p l e R s m args below meth c H locs (ce h.1) (sl h.1) Q (F0 m pc ls (S.map (cv sa ac h.1)))) (hg0 : ∀ pc L S h', k0 pc L S h' = some r → h'.1 <+: r.2.1) (hk0 : KK p l e R s m args below meth c Q G sa A nL ce sl ac0 k0 r) :
    ∀ (n : Nat), KK p l e R s m args below meth c Q G sa A nL ce sl ac0 (itrk X cd cal k0 n) r := by
  intro n
  induction n with
  | zero => exact hk0
  | succ n ih =>
    intro pc L S h ac H locs ls h9 hI
    unfold itrk at h9
    split at h9
    · rename_i e9 he9
      obtain ⟨hi, hp, hc⟩ := hck pc e9 he9
      have hgrow : ∀ pc L S (h' : ab_H), itrk X cd cal k0 n pc L S h' = some r → ce h'.1 ≤ R.cells ∧ sl h'.1 ≤ R.slots := by
        intro pc L S h' h8
        obtain ⟨z1, z2⟩ := hmo _ _ (itrk_grow hcg hg0 n pc L S h' h8)
        omega
      exact sp_all hx hb hown hw hin hst hnl hRd hmk hcm hce hA hc h9 hgrow (hI.kill e9.1) ih (hstr p e R s m args below meth c Q G sa A nL ce sl ac0 own cc rt init cal r hx hb hnl hown hw hst (by omega) (by omega)) hret
    · cases h9
/-- the loop's head, with what stands there -/
noncomputable def k18 (r : ab_R) : ab_K := fun pc L S h =>
  haveI := Classical.propDecidable (pc = 18 ∧ L = [vS 1000, vR 11 0, vR 12 0, vI 0] ∧ S = [] ∧ h = ihd (al0, lRd, lDd))
  if pc = 18 ∧ L = [vS 1000, vR 11 0, vR 12 0, vI 0] ∧ S = [] ∧ h = ihd (al0, lRd, lDd) then some r else none
theorem k18_some {r r' : ab_R} {pc : Nat} {L S : List ab_V} {h : ab_H} (q : k18 r pc L S h = some r') : pc = 18 ∧ L = [vS 1000, vR 11 0, vR 12 0, vI 0] ∧ S = [] ∧ h = ihd (al0, lRd, lDd) := by
  unfold k18 at q
  split at q
  · assumption
  · cases q
theorem k18_at {r : ab_R} : k18 r 18 [vS 1000, vR 11 0, vR 12 0, vI 0] [] (ihd (al0, lRd, lDd)) = some r := by
  unfold k18
  exact if_pos ⟨rfl, rfl, rfl, rfl⟩
section
variable {X : Nat × (Nat → Int)} {cd : List (Nat × List Nat × ab_E)} {cal : ab_C} {k0 : ab_K} {n pc nx a : Nat} {L S : List ab_V} {h h' : ab_H} {r : ab_R}
theorem ik_new {ii : Nat} {h2 : ab_H} (he : ab_lk cd pc = some ([], (.new 0, nx, a, 0, 0))) (h1 : h.1.elem (a, ab_cnt h.1 a) = false) (hi : ab_cnt h.1 a = ii) (hh : ab_new h a = h2) (q : itrk X cd cal k0 n nx L (vR a ii :: S) h2 = some r) : itrk X cd cal k0 (n + 1) pc L S h = some r := by
  rw [itrk_S he]
  show (match h.1.elem (a, ab_cnt h.1 a) with | true => none | false => itrk X cd cal k0 n nx L (vR a (ab_cnt h.1 a) :: S) (ab_new h a)) = some r
  rw [h1, hi, hh]
  exact q
theorem ik_dup {t i : Nat} (he : ab_lk cd pc = some ([], (.dup, nx, 0, 0, 0))) (q : itrk X cd cal k0 n nx L (vR t i :: vR t i :: S) h = some r) : itrk X cd cal k0 (n + 1) pc L (vR t i :: S) h = some r := by
  rw [itrk_S he]
  exact q
theorem ik_inv {t i t' i' : Nat} (he : ab_lk cd pc = some ([], (.invokespecial t, nx, a, 1, 0))) (hc : cal a [vR t i] h = some (none, h')) (q : itrk X cd cal k0 n nx L [vR t' i'] h' = some r) : itrk X cd cal k0 (n + 1) pc L [vR t i, vR t' i'] h = some r := by
  rw [itrk_S he]
  show (match Nat.beq t t with | true => ab_cv (cal a [vR t i] h) (fun h => itrk X cd cal k0 n nx L [vR t' i'] h) | false => none) = some r
  rw [Nat.beq_refl, hc]
  exact q
theorem ik_ast {t i : Nat} {L' : List ab_V} (he : ab_lk cd pc = some ([], (.astore 0, nx, a, 0, 0))) (hl : Nat.blt a L.length = true) (hL : ab_st L a (vR t i) = L') (q : itrk X cd cal k0 n nx L' S h = some r) : itrk X cd cal k0 (n + 1) pc L (vR t i :: S) h = some r := by
  rw [itrk_S he]
  show (match Nat.blt a L.length with | true => itrk X cd cal k0 n nx (ab_st L a (vR t i)) S h | false => none) = some r
  rw [hl, hL]
  exact q
theorem ik_ist {x : Int} {L' : List ab_V} (he : ab_lk cd pc = some ([], (.istore 0, nx, a, 0, 0))) (hl : Nat.blt a L.length = true) (hL : ab_st L a (vI x) = L') (q : itrk X cd cal k0 n nx L' S h = some r) : itrk X cd cal k0 (n + 1) pc L (vI x :: S) h = some r := by
  rw [itrk_S he]
  show (match Nat.blt a L.length with | true => itrk X cd cal k0 n nx (ab_st L a (vI x)) S h | false => none) = some r
  rw [hl, hL]
  exact q
theorem ik_icn {x : Int} (he : ab_lk cd pc = some ([], (.iconst 0, nx, 0, 0, x))) (q : itrk X cd cal k0 n nx L (vI x :: S) h = some r) : itrk X cd cal k0 (n + 1) pc L S h = some r := by
  rw [itrk_S he]
  exact q
end
theorem lk_0 : ab_lk cd_law_law 0 = some ([], (.new 0, 3, 11, 0, 0)) := rfl
theorem lk_3 : ab_lk cd_law_law 3 = some ([], (.dup, 4, 0, 0, 0)) := rfl
theorem lk_4 : ab_lk cd_law_law 4 = some ([], (.invokespecial 11, 7, m_N_init, 1, 0)) := rfl
theorem lk_7 : ab_lk cd_law_law 7 = some ([], (.astore 0, 8, 1, 0, 0)) := rfl
theorem lk_8 : ab_lk cd_law_law 8 = some ([], (.new 0, 11, 12, 0, 0)) := rfl
theorem lk_11 : ab_lk cd_law_law 11 = some ([], (.dup, 12, 0, 0, 0)) := rfl
theorem lk_12 : ab_lk cd_law_law 12 = some ([], (.invokespecial 12, 15, m_M_init, 1, 0)) := rfl
theorem lk_15 : ab_lk cd_law_law 15 = some ([], (.astore 0, 16, 2, 0, 0)) := rfl
theorem lk_16 : ab_lk cd_law_law 16 = some ([], (.iconst 0, 17, 0, 0, 0)) := rfl
theorem lk_17 : ab_lk cd_law_law 17 = some ([], (.istore 0, 18, 3, 0, 0)) := rfl
theorem nw_11 : ab_new (ihd ([], [], [])) 11 = ihd ([(11, 0)], [], []) := new_d (h := ([], [], [])) rfl rfl
theorem nw_12 : ab_new (ihd (alN, lRN, lDN)) 12 = ihd (alN ++ [(12, 0)], lRN, lDN) := by
  obtain ⟨q1, q2, q3, q4⟩ := dN_12
  rw [new_d (h := (alN, lRN, lDN)) (by rw [q2]; exact q3) (by rw [q2]; exact q4), q2]
theorem law_0 {X : Nat × (Nat → Int)} {d : Nat} {r : ab_R} (hd : 8 ≤ d) : itrk X cd_law_law (ev X d) (k18 r) 10 0 [vS 1000, vU, vU, vU] [] (ihd ([], [], [])) = some r :=
  ik_new lk_0 (h := ihd ([], [], [])) rfl rfl nw_11 (ik_dup lk_3 (ik_inv lk_4 (ct_N hd) (ik_ast (L' := [vS 1000, vR 11 0, vU, vU]) lk_7 rfl rfl (ik_new lk_8 (h := ihd (alN, lRN, lDN)) dN_12.1 dN_12.2.1 nw_12 (ik_dup lk_11 (ik_inv lk_12 (ct_M hd) (ik_ast (L' := [vS 1000, vR 11 0, vR 12 0, vU]) lk_15 rfl rfl (ik_icn lk_16 (ik_ist (L' := [vS 1000, vR 11 0, vR 12 0, vI 0]) lk_17 rfl rfl k18_at)))))))))
end
