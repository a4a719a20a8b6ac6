section
/-- what comes behind is used once at most -/
def ab_Lin (f : ab_K → Option ab_R) : Prop := (∃ o, ∀ k, f k = o) ∨ ∃ (pc : Nat) (L S : List ab_V) (h : ab_H), ∀ k, f k = k pc L S h
theorem ab_Lin.c (o : Option ab_R) : ab_Lin (fun _ => o) := Or.inl ⟨o, fun _ => rfl⟩
theorem ab_Lin.k (pc : Nat) (L S : List ab_V) (h : ab_H) : ab_Lin (fun k => k pc L S h) := Or.inr ⟨pc, L, S, h, fun _ => rfl⟩
theorem ab_Lin.i1 {S : List ab_V} {f : Int → List ab_V → ab_K → Option ab_R} (hf : ∀ x S, ab_Lin (f x S)) : ab_Lin (fun k => ab_i1 S fun x S => f x S k) := by
  unfold ab_i1
  split
  · exact hf _ _
  · exact ab_Lin.c _
theorem ab_Lin.l1 {S : List ab_V} {f : Int → List ab_V → ab_K → Option ab_R} (hf : ∀ x S, ab_Lin (f x S)) : ab_Lin (fun k => ab_l1 S fun x S => f x S k) := by
  unfold ab_l1
  split
  · exact hf _ _
  · exact ab_Lin.c _
theorem ab_Lin.r1 {S : List ab_V} {f : Nat → Nat → List ab_V → ab_K → Option ab_R} (hf : ∀ t i S, ab_Lin (f t i S)) : ab_Lin (fun k => ab_r1 S fun t i S => f t i S k) := by
  unfold ab_r1
  split
  · exact hf _ _ _
  · exact ab_Lin.c _
theorem ab_Lin.s1 {S : List ab_V} {f : Nat → List ab_V → ab_K → Option ab_R} (hf : ∀ x S, ab_Lin (f x S)) : ab_Lin (fun k => ab_s1 S fun x S => f x S k) := by
  unfold ab_s1
  split
  · exact hf _ _
  · exact ab_Lin.c _
theorem ab_Lin.c1 {S : List ab_V} {f : ab_V → List ab_V → ab_K → Option ab_R} (hf : ∀ x S, ab_Lin (f x S)) : ab_Lin (fun k => ab_c1 S fun x S => f x S k) := by
  unfold ab_c1
  split
  · exact hf _ _
  · exact hf _ _
  · exact ab_Lin.c _
theorem ab_Lin.lo {L : List ab_V} {i : Nat} {f : ab_V → ab_K → Option ab_R} (hf : ∀ x, ab_Lin (f x)) : ab_Lin (fun k => ab_lo L i fun x => f x k) := by
  unfold ab_lo
  split
  · exact hf _
  · exact ab_Lin.c _
theorem ab_Lin.pop {f : List ab_V → List ab_V → ab_K → Option ab_R} (hf : ∀ a S, ab_Lin (f a S)) : ∀ (n : Nat) (S acc : List ab_V), ab_Lin (fun k => ab_pop n S acc fun a S => f a S k)
  | 0, S, acc => hf acc S
  | n + 1, [], acc => ab_Lin.c _
  | n + 1, v :: S, acc => ab_Lin.pop hf n S (v :: acc)
theorem ab_Lin.cv {r : Option ab_R} {f : ab_H → ab_K → Option ab_R} (hf : ∀ h, ab_Lin (f h)) : ab_Lin (fun k => ab_cv r fun h => f h k) := by
  unfold ab_cv
  split
  · exact hf _
  · exact ab_Lin.c _
theorem ab_Lin.ci {r : Option ab_R} {f : Int → ab_H → ab_K → Option ab_R} (hf : ∀ y h, ab_Lin (f y h)) : ab_Lin (fun k => ab_ci r fun y h => f y h k) := by
  unfold ab_ci
  split
  · exact hf _ _
  · exact ab_Lin.c _
theorem ab_Lin.cl {r : Option ab_R} {f : Int → ab_H → ab_K → Option ab_R} (hf : ∀ y h, ab_Lin (f y h)) : ab_Lin (fun k => ab_cl r fun y h => f y h k) := by
  unfold ab_cl
  split
  · exact hf _ _
  · exact ab_Lin.c _
theorem ab_Lin.rf {q : Option (Nat × Nat)} {f : Nat → Nat → ab_K → Option ab_R} (hf : ∀ t i, ab_Lin (f t i)) : ab_Lin (fun k => ab_rf q fun t i => f t i k) := by
  unfold ab_rf
  split
  · exact hf _ _
  · exact ab_Lin.c _
theorem ab_Lin.br {c : ClassFile.Cond} {x y : Int} {f g : ab_K → Option ab_R} (hf : ab_Lin f) (hg : ab_Lin g) : ab_Lin (fun k => ab_br c x y (f k) (g k)) := by
  cases c <;> simp only [ab_br] <;> split <;> assumption
theorem ab_Lin.ite {c : Prop} [Decidable c] {f g : ab_K → Option ab_R} (hf : ab_Lin f) (hg : ab_Lin g) : ab_Lin (fun k => if c then f k else g k) := by
  split <;> assumption
theorem ab_Lin.sw {y : Int} {d : Nat} {f : Nat → ab_K → Option ab_R} (hf : ∀ p, ab_Lin (f p)) : ∀ (ps : List (Int × Int)), ab_Lin (fun k => ab_sw ps y d fun p => f p k)
  | [] => hf _
  | (v, t) :: ps => by
    show ab_Lin (fun k => if y = v then f t.toNat k else ab_sw ps y d fun p => f p k)
    exact ab_Lin.ite (hf _) (ab_Lin.sw hf ps)
theorem ab_Lin.hd {as : List ab_V} {t : Nat} {f : ab_K → Option ab_R} (hf : ab_Lin f) : ab_Lin (fun k => ab_hd as t (f k)) := by
  unfold ab_hd
  split
  · split
    · exact hf
    · exact ab_Lin.c _
  · exact ab_Lin.c _
theorem ab_Lin.ret {x : Int} {r : Option ab_R} {nx : Nat} {L S : List ab_V} : ab_Lin (fun k => ab_ret x r k nx L S) := by
  unfold ab_ret
  split
  · split
    · exact ab_Lin.cv fun _ => ab_Lin.k _ _ _ _
    · exact ab_Lin.ci fun _ _ => ab_Lin.k _ _ _ _
    · exact ab_Lin.cl fun _ _ => ab_Lin.k _ _ _ _
  · exact ab_Lin.c _
set_option maxHeartbeats 4000000 in
theorem ab_stp_lin (T : ab_T) (X : ab_X) (cal : ab_C) (e : ab_E) (L S : List ab_V) (h : ab_H) : ab_Lin (ab_stp T X cal e L S h) := by
  obtain ⟨op, nx, a, b, x⟩ := e
  show ab_Lin (fun k => ab_stp T X cal (op, nx, a, b, x) L S h k)
  cases op <;> dsimp only [ab_stp] <;> repeat' first
    | exact ab_Lin.c _
    | exact ab_Lin.k _ _ _ _
    | (refine ab_Lin.i1 fun _ _ => ?_)
    | (refine ab_Lin.l1 fun _ _ => ?_)
    | (refine ab_Lin.r1 fun _ _ _ => ?_)
    | (refine ab_Lin.s1 fun _ _ => ?_)
    | (refine ab_Lin.c1 fun _ _ => ?_)
    | (refine ab_Lin.lo fun _ => ?_)
    | (refine ab_Lin.pop (fun _ _ => ?_) _ _ _)
    | exact ab_Lin.ret
    | (refine ab_Lin.hd ?_)
    | (refine ab_Lin.rf fun _ _ => ?_)
    | (refine ab_Lin.br ?_ ?_)
    | (refine ab_Lin.sw (fun _ => ?_) _)
    | (refine ab_Lin.ite ?_ ?_)
    | split
theorem ab_itr_mono (T : ab_T) (X : ab_X) (cd : Nat → Option (List Nat × ab_E)) (cal : ab_C) : ∀ (n : Nat) (pc : Nat) (L S : List ab_V) (h : ab_H) (r : ab_R), ab_itr T X cd cal n pc L S h = some r → ab_itr T X cd cal (n + 1) pc L S h = some r := by
  intro n
  induction n with
  | zero => intro pc L S h r hr; cases hr
  | succ n ih =>
    intro pc L S h r hr
    unfold ab_itr at hr ⊢
    split at hr
    · rename_i e he
      rcases ab_stp_lin T X cal e.2 (ab_kl e.1 L) S h with ⟨o, ho⟩ | ⟨pc', L', S', h', ho⟩
      · rw [ho] at hr
        simp only [ho]
        exact hr
      · rw [ho] at hr
        simp only [ho]
        exact ih _ _ _ _ _ hr
    · cases hr
theorem ab_itr_le (T : ab_T) (X : ab_X) (cd : Nat → Option (List Nat × ab_E)) (cal : ab_C) {n m : Nat} (hnm : n ≤ m) {pc : Nat} {L S : List ab_V} {h : ab_H} {r : ab_R} (hr : ab_itr T X cd cal n pc L S h = some r) : ab_itr T X cd cal m pc L S h = some r := by
  induction hnm with
  | refl => exact hr
  | step _ ih => exact ab_itr_mono T X cd cal _ _ _ _ _ _ ih
noncomputable def ab_lim (T : ab_T) (X : ab_X) (cd : Nat → Option (List Nat × ab_E)) (cal : ab_C) : ab_K := fun pc L S h =>
  haveI := Classical.propDecidable (∃ n r, ab_itr T X cd cal n pc L S h = some r)
  if q : ∃ n r, ab_itr T X cd cal n pc L S h = some r then some q.choose_spec.choose else none
theorem ab_lim_of {T : ab_T} {X : ab_X} {cd : Nat → Option (List Nat × ab_E)} {cal : ab_C} {n pc : Nat} {L S : List ab_V} {h : ab_H} {r : ab_R} (hr : ab_itr T X cd cal n pc L S h = some r) : ab_lim T X cd cal pc L S h = some r := by
  have q : ∃ n r, ab_itr T X cd cal n pc L S h = some r := ⟨n, r, hr⟩
  have e := q.choose_spec.choose_spec
  have e1 := ab_itr_le T X cd cal (Nat.le_max_left n q.choose) hr
  have e2 := ab_itr_le T X cd cal (Nat.le_max_right n q.choose) e
  unfold ab_lim
  rw [dif_pos q]
  rw [e1] at e2
  exact e2.symm
theorem ab_lim_to {T : ab_T} {X : ab_X} {cd : Nat → Option (List Nat × ab_E)} {cal : ab_C} {pc : Nat} {L S : List ab_V} {h : ab_H} {r : ab_R} (hr : ab_lim T X cd cal pc L S h = some r) : ∃ n, ab_itr T X cd cal n pc L S h = some r := by
  unfold ab_lim at hr
  split at hr
  · rename_i q
    cases hr
    exact ⟨_, q.choose_spec.choose_spec⟩
  · cases hr
theorem ab_lim_eq (T : ab_T) (X : ab_X) (cd : Nat → Option (List Nat × ab_E)) (cal : ab_C) (pc : Nat) (L S : List ab_V) (h : ab_H) {e : List Nat × ab_E} (he : cd pc = some e) : ab_lim T X cd cal pc L S h = ab_stp T X cal e.2 (ab_kl e.1 L) S h (ab_lim T X cd cal) := by
  have key : ∀ n, ab_itr T X cd cal (n + 1) pc L S h = ab_stp T X cal e.2 (ab_kl e.1 L) S h (ab_itr T X cd cal n) := by
    intro n
    show (match cd pc with | some e => ab_stp T X cal e.2 (ab_kl e.1 L) S h (ab_itr T X cd cal n) | none => none) = _
    rw [he]
  rcases ab_stp_lin T X cal e.2 (ab_kl e.1 L) S h with ⟨o, ho⟩ | ⟨pc', L', S', h', ho⟩
  · rw [ho]
    cases o with
    | some r => exact ab_lim_of (n := 1) (by rw [key, ho])
    | none =>
      cases hq : ab_lim T X cd cal pc L S h with
      | none => rfl
      | some r =>
        obtain ⟨n, hn⟩ := ab_lim_to hq
        cases n with
        | zero => cases hn
        | succ n => rw [key, ho] at hn; cases hn
  · rw [ho]
    cases hq : ab_lim T X cd cal pc' L' S' h' with
    | some r =>
      obtain ⟨n, hn⟩ := ab_lim_to hq
      exact ab_lim_of (n := n + 1) (by rw [key, ho]; exact hn)
    | none =>
      cases hq2 : ab_lim T X cd cal pc L S h with
      | none => rfl
      | some r =>
        obtain ⟨n, hn⟩ := ab_lim_to hq2
        cases n with
        | zero => cases hn
        | succ n =>
          rw [key, ho] at hn
          rw [ab_lim_of hn] at hq
          cases hq
/-- the run with places at which it stops to be looked at -/
noncomputable def ab_run (T : ab_T) (X : ab_X) (cd : Nat → Option (List Nat × ab_E)) (cal : ab_C) (cuts : List Nat) : Nat → ab_K
  | 0 => ab_lim T X cd cal
  | n + 1 => fun pc L S h => match cuts.elem pc with
    | true => ab_lim T X cd cal pc L S h
    | false => match cd pc with
      | some e => ab_stp T X cal e.2 (ab_kl e.1 L) S h (ab_run T X cd cal cuts n)
      | none => ab_lim T X cd cal pc L S h
theorem ab_run_eq (T : ab_T) (X : ab_X) (cd : Nat → Option (List Nat × ab_E)) (cal : ab_C) (cuts : List Nat) : ∀ n, ab_run T X cd cal cuts n = ab_lim T X cd cal
  | 0 => rfl
  | n + 1 => by
    funext pc L S h
    show (match cuts.elem pc with | true => ab_lim T X cd cal pc L S h | false => match cd pc with | some e => ab_stp T X cal e.2 (ab_kl e.1 L) S h (ab_run T X cd cal cuts n) | none => ab_lim T X cd cal pc L S h) = _
    split
    · rfl
    · split
      · rename_i e he
        rw [ab_run_eq T X cd cal cuts n]
        exact (ab_lim_eq T X cd cal pc L S h he).symm
      · rfl
/-- methods by their numbers: code and locals; the depth of calls falls -/
noncomputable def ab_ev (T : ab_T) (X : ab_X) (cds : Nat → List (Nat × List Nat × ab_E)) (nl : Nat → Nat) : Nat → ab_C
  | 0 => fun _ _ _ => none
  | d + 1 => fun m as h => match Nat.ble (ab_ent as).length (nl m) with
    | true => ab_lim T X (ab_lk (cds m)) (ab_ev T X cds nl d) 0 (ab_pad (nl m) (ab_ent as)) [] h
    | false => none
end
