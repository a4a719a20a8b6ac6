section
variable {T : ab_T} {Y : ab_X} {cal : ab_C} {L S : List ab_V} {h : ab_H} {k : ab_K} {r : ab_R}
/-- what was made stays -/
def Gr (al : List (Nat × Nat)) (r : ab_R) (o : Option ab_R) : Prop := o = some r → al <+: r.2.1
theorem Gr.n {al : List (Nat × Nat)} : Gr al r none := fun h => by cases h
theorem Gr.i1 {al : List (Nat × Nat)} {S : List ab_V} {f : Int → List ab_V → Option ab_R} (hf : ∀ x S, Gr al r (f x S)) : Gr al r (ab_i1 S f) := fun h9 => by
  obtain ⟨x, S', -, h1⟩ := i1_some h9
  exact hf _ _ h1
theorem Gr.l1 {al : List (Nat × Nat)} {S : List ab_V} {f : Int → List ab_V → Option ab_R} (hf : ∀ x S, Gr al r (f x S)) : Gr al r (ab_l1 S f) := fun h9 => by
  obtain ⟨x, S', -, h1⟩ := l1_some h9
  exact hf _ _ h1
theorem Gr.r1 {al : List (Nat × Nat)} {S : List ab_V} {f : Nat → Nat → List ab_V → Option ab_R} (hf : ∀ t i S, Gr al r (f t i S)) : Gr al r (ab_r1 S f) := fun h9 => by
  obtain ⟨t, i, S', -, h1⟩ := r1_some h9
  exact hf _ _ _ h1
theorem Gr.s1 {al : List (Nat × Nat)} {S : List ab_V} {f : Nat → List ab_V → Option ab_R} (hf : ∀ x S, Gr al r (f x S)) : Gr al r (ab_s1 S f) := fun h9 => by
  obtain ⟨x, S', -, h1⟩ := s1_some h9
  exact hf _ _ h1
theorem Gr.c1 {al : List (Nat × Nat)} {S : List ab_V} {f : ab_V → List ab_V → Option ab_R} (hf : ∀ x S, Gr al r (f x S)) : Gr al r (ab_c1 S f) := fun h9 => by
  obtain ⟨x, S', -, h1, -⟩ := c1_some h9
  exact hf _ _ h1
theorem Gr.lo {al : List (Nat × Nat)} {i : Nat} {f : ab_V → Option ab_R} (hf : ∀ x, Gr al r (f x)) : Gr al r (ab_lo L i f) := fun h9 => by
  obtain ⟨x, -, h1⟩ := lo_some h9
  exact hf _ h1
theorem Gr.rf {al : List (Nat × Nat)} {q : Option (Nat × Nat)} {f : Nat → Nat → Option ab_R} (hf : ∀ t i, Gr al r (f t i)) : Gr al r (ab_rf q f) := fun h9 => by
  obtain ⟨x, -, h1⟩ := rf_some h9
  exact hf _ _ h1
theorem Gr.br {al : List (Nat × Nat)} {c : ClassFile.Cond} {x y : Int} {f g : Option ab_R} (hf : Gr al r f) (hg : Gr al r g) : Gr al r (ab_br c x y f g) := by
  cases c <;> simp only [ab_br] <;> split <;> assumption
theorem Gr.ite {al : List (Nat × Nat)} {c : Prop} [Decidable c] {f g : Option ab_R} (hf : Gr al r f) (hg : Gr al r g) : Gr al r (if c then f else g) := by
  split <;> assumption
theorem Gr.sw {al : List (Nat × Nat)} {y : Int} {d : Nat} {f : Nat → Option ab_R} (hf : ∀ p, Gr al r (f p)) : ∀ (ps : List (Int × Int)), Gr al r (ab_sw ps y d f)
  | [] => hf _
  | (v, t) :: ps => Gr.ite (hf _) (Gr.sw hf ps)
theorem Gr.pop {al : List (Nat × Nat)} {n : Nat} {acc : List ab_V} {f : List ab_V → List ab_V → Option ab_R} (hf : ∀ a S, Gr al r (f a S)) : Gr al r (ab_pop n S acc f) := fun h9 => by
  obtain ⟨ps, S', -, -, h1⟩ := pop_some _ _ _ h9
  exact hf _ _ h1
theorem Gr.hd {al : List (Nat × Nat)} {as : List ab_V} {t : Nat} {f : Option ab_R} (hf : Gr al r f) : Gr al r (ab_hd as t f) := fun h9 => by
  obtain ⟨i, tl, -, h1⟩ := hd_some h9
  exact hf h1
theorem Gr.ret {x : Int} {m9 nx : Nat} {as : List ab_V} (hc : ∀ m as h r, cal m as h = some r → h.1 <+: r.2.1) (hk : ∀ pc L S h', k pc L S h' = some r → h'.1 <+: r.2.1) : Gr h.1 r (ab_ret x (cal m9 as h) k nx L S) := fun h9 => by
  obtain ⟨-, r1, h1, h2⟩ := ret_some h9
  exact (hc _ _ _ _ h1).trans (hk _ _ _ _ h2)
set_option maxHeartbeats 4000000 in
theorem stp_grow (e : ab_E) (hc : ∀ m as h r, cal m as h = some r → h.1 <+: r.2.1) (hk : ∀ pc L S h', k pc L S h' = some r → h'.1 <+: r.2.1) : Gr h.1 r (ab_stp T Y cal e L S h k) := by
  have k0 : ∀ pc L S, Gr h.1 r (k pc L S h) := fun pc L S => hk pc L S h
  have k1 : ∀ pc L S R9 D9, Gr h.1 r (k pc L S (h.1, R9, D9)) := fun pc L S R9 D9 => hk pc L S (h.1, R9, D9)
  have k2 : ∀ pc L S a, Gr h.1 r (k pc L S (ab_new h a)) := fun pc L S a h9 => (List.prefix_append _ _).trans (hk pc L S _ h9)
  have k3 : ∀ pc L S t i sp t2 i2 dp n, Gr h.1 r (k pc L S (ab_cpy h t i sp t2 i2 dp n)) := fun pc L S t i sp t2 i2 dp n h9 => (hk pc L S (ab_cpy h t i sp t2 i2 dp n) h9 : (ab_cpy h t i sp t2 i2 dp n).1 <+: r.2.1)
  have k4 : ∀ v, Gr h.1 r (some (v, h)) := fun v h9 => by cases h9; exact List.prefix_rfl
  obtain ⟨op, nx, a, b, x⟩ := e
  cases op <;> dsimp only [ab_stp] <;> repeat' first
    | exact Gr.n
    | exact k0 _ _ _
    | exact k1 _ _ _ _ _
    | exact k2 _ _ _ _
    | exact k3 _ _ _ _ _ _ _ _ _ _
    | exact k4 _
    | (refine Gr.i1 fun _ _ => ?_)
    | (refine Gr.l1 fun _ _ => ?_)
    | (refine Gr.r1 fun _ _ _ => ?_)
    | (refine Gr.s1 fun _ _ => ?_)
    | (refine Gr.c1 fun _ _ => ?_)
    | (refine Gr.lo fun _ => ?_)
    | (refine Gr.pop (fun _ _ => ?_))
    | exact Gr.ret hc hk
    | (refine Gr.hd ?_)
    | (refine Gr.rf fun _ _ => ?_)
    | (refine Gr.br ?_ ?_)
    | (refine Gr.sw (fun _ => ?_) _)
    | (refine Gr.ite ?_ ?_)
    | split
theorem itr_grow {cd : Nat → Option (List Nat × ab_E)} (hc : ∀ m as h r, cal m as h = some r → h.1 <+: r.2.1) : ∀ (n pc : Nat) (L S : List ab_V) (h : ab_H), ab_itr T Y cd cal n pc L S h = some r → h.1 <+: r.2.1
  | 0, pc, L, S, h, h9 => by cases h9
  | n + 1, pc, L, S, h, h9 => by
    unfold ab_itr at h9
    split at h9
    · exact stp_grow _ hc (fun pc L S h' => itr_grow hc n pc L S h') h9
    · cases h9
theorem ev_grow {X : Nat × (Nat → Int)} : ∀ (d m9 : Nat) (as : List ab_V) (h : ab_H) (r : ab_R), ev X d m9 as h = some r → h.1 <+: r.2.1
  | 0, m9, as, h, r, h9 => by cases h9
  | d + 1, m9, as, h, r, h9 => by
    have h9 : (match Nat.ble (ab_ent as).length (ab_nl m9) with | true => ab_lim ab_tg (ab_tx, X) (ab_lk (ab_cds m9)) (ev X d) 0 (ab_pad (ab_nl m9) (ab_ent as)) [] h | false => none) = some r := h9
    obtain ⟨-, h9⟩ := beq_some h9
    obtain ⟨n, hn⟩ := ab_lim_to h9
    exact itr_grow (fun m as h r => ev_grow d m as h r) n _ _ _ _ hn
end
