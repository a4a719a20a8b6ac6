/-! the constructors: a run over lists, which can be computed -/
section
abbrev dH : Type := List (Nat × Nat) × List ((Nat × Nat × Nat) × (Nat × Nat)) × List ((Nat × Nat × Nat) × Int)
abbrev dR : Type := Option ab_V × dH
def zR : List ((Nat × Nat × Nat) × (Nat × Nat)) → Nat → Nat → Nat → Option (Nat × Nat)
  | [] => fun _ _ _ => none
  | z :: l => u3 (zR l) z.1.1 z.1.2.1 z.1.2.2 (some z.2)
def zD : List ((Nat × Nat × Nat) × Int) → Nat → Nat → Nat → Int
  | [] => fun _ _ _ => 0
  | z :: l => u3 (zD l) z.1.1 z.1.2.1 z.1.2.2 z.2
def ihd (h : dH) : ab_H := (h.1, zR h.2.1, zD h.2.2)
def frq {α : Type} (t i : Nat) (l : List ((Nat × Nat × Nat) × α)) : Bool := l.all fun z => !(Nat.beq z.1.1 t && Nat.beq z.1.2.1 i)
theorem zR_fr {t i : Nat} : ∀ (l : List ((Nat × Nat × Nat) × (Nat × Nat))), frq t i l = true → ∀ k, zR l t i k = none
  | [], _, _ => rfl
  | z :: l, h, k => by
    unfold frq at h
    rw [List.all_cons, Bool.and_eq_true] at h
    have h1 : ¬ (t = z.1.1 ∧ i = z.1.2.1 ∧ k = z.1.2.2) := fun e => by
      have h2 := h.1
      rw [← e.1, ← e.2.1, Nat.beq_refl, Nat.beq_refl] at h2
      cases h2
    show u3 (zR l) z.1.1 z.1.2.1 z.1.2.2 (some z.2) t i k = none
    unfold u3
    rw [if_neg h1]
    exact zR_fr l h.2 k
theorem zD_fr {t i : Nat} : ∀ (l : List ((Nat × Nat × Nat) × Int)), frq t i l = true → ∀ k, zD l t i k = 0
  | [], _, _ => rfl
  | z :: l, h, k => by
    unfold frq at h
    rw [List.all_cons, Bool.and_eq_true] at h
    have h1 : ¬ (t = z.1.1 ∧ i = z.1.2.1 ∧ k = z.1.2.2) := fun e => by
      have h2 := h.1
      rw [← e.1, ← e.2.1, Nat.beq_refl, Nat.beq_refl] at h2
      cases h2
    show u3 (zD l) z.1.1 z.1.2.1 z.1.2.2 z.2 t i k = 0
    unfold u3
    rw [if_neg h1]
    exact zD_fr l h.2 k
theorem new_d {h : dH} {a : Nat} (h1 : frq a (ab_cnt h.1 a) h.2.1 = true) (h2 : frq a (ab_cnt h.1 a) h.2.2 = true) : ab_new (ihd h) a = ihd (h.1 ++ [(a, ab_cnt h.1 a)], h.2) := by
  unfold ab_new ihd
  have e1 : (fun t' i' k' => if t' = a ∧ i' = ab_cnt h.1 a then none else zR h.2.1 t' i' k') = zR h.2.1 := by
    funext t i k
    by_cases c : t = a ∧ i = ab_cnt h.1 a
    · rw [if_pos c, c.1, c.2, zR_fr _ h1]
    · rw [if_neg c]
  have e2 : (fun t' i' k' => if t' = a ∧ i' = ab_cnt h.1 a then 0 else zD h.2.2 t' i' k') = zD h.2.2 := by
    funext t i k
    by_cases c : t = a ∧ i = ab_cnt h.1 a
    · rw [if_pos c, c.1, c.2, zD_fr _ h2]
    · rw [if_neg c]
  show (_, (fun t' i' k' => if t' = a ∧ i' = ab_cnt h.1 a then none else zR h.2.1 t' i' k'), fun t' i' k' => if t' = a ∧ i' = ab_cnt h.1 a then 0 else zD h.2.2 t' i' k') = _
  rw [e1, e2]
abbrev dC : Type := Nat → List ab_V → dH → Option dR
abbrev dK : Type := Nat → List ab_V → List ab_V → dH → Option dR
def mkd (h : dH) (a : Nat) (f : dH → Option dR) : Option dR := match h.1.elem (a, ab_cnt h.1 a) with
  | true => none
  | false => match frq a (ab_cnt h.1 a) h.2.1 && frq a (ab_cnt h.1 a) h.2.2 with
    | true => f (h.1 ++ [(a, ab_cnt h.1 a)], h.2)
    | false => none
def stpd (cal : dC) (e : ab_E) (L S : List ab_V) (h : dH) (k : dK) : Option dR :=
  match e with
  | (op, nx, a, b, x) => match op with
  | .iconst _ => k nx L (vI x :: S) h
  | .iload _ => ab_lo L a fun v => match v with
    | .inl y => k nx L (vI y :: S) h
    | _ => none
  | .aload _ => ab_lo L a fun v => match v with
    | .inr (.inr (.inl q)) => k nx L (vR q.1 q.2 :: S) h
    | _ => none
  | .istore _ => ab_i1 S fun y S => match Nat.blt a L.length with
    | true => k nx (ab_st L a (vI y)) S h
    | false => none
  | .astore _ => ab_r1 S fun t i S => match Nat.blt a L.length with
    | true => k nx (ab_st L a (vR t i)) S h
    | false => none
  | .iinc _ _ => ab_lo L a fun v => match v with
    | .inl y => k nx (ab_st L a (vI (w32 (y + x)))) S h
    | _ => none
  | .dup => ab_c1 S fun v S => k nx L (v :: v :: S) h
  | .goto _ => k a L S h
  | .if_icmp c _ => ab_i1 S fun y S => ab_i1 S fun z S => ab_br c z y (k a L S h) (k nx L S h)
  | .getfield _ => ab_r1 S fun t i S => match Nat.beq t a with
    | true => match x with
      | .ofNat 3 => match zR h.2.1 t i b with
        | some q => k nx L (vR q.1 q.2 :: S) h
        | none => none
      | _ => none
    | false => none
  | .putfield _ => match x with
    | .ofNat 0 => ab_i1 S fun y S => ab_r1 S fun t i S => match Nat.beq t a with
      | true => k nx L S (h.1, h.2.1, ((t, i, b), y) :: h.2.2)
      | false => none
    | .ofNat 3 => ab_r1 S fun t' i' S => ab_r1 S fun t i S => match Nat.beq t a with
      | true => k nx L S (h.1, ((t, i, b), (t', i')) :: h.2.1, h.2.2)
      | false => none
    | _ => none
  | .arraylength => ab_r1 S fun t _ S => match Nat.beq (ab_tg t).1 0 with
    | true => none
    | false => k nx L (vI ((ab_tg t).2 : Int) :: S) h
  | .new _ => mkd h a fun h' => k nx L (vR a (ab_cnt h.1 a) :: S) h'
  | .newarray _ => ab_i1 S fun y S => mkd h a fun h' => if y = ((ab_tg a).2 : Int) then k nx L (vR a (ab_cnt h.1 a) :: S) h' else none
  | .anewarray _ => ab_i1 S fun y S => mkd h a fun h' => if y = ((ab_tg a).2 : Int) then k nx L (vR a (ab_cnt h.1 a) :: S) h' else none
  | .iastore => ab_i1 S fun z S => ab_i1 S fun y S => ab_r1 S fun t i S => match Nat.beq (ab_tg t).1 1 with
    | true => if 0 ≤ y ∧ y < ((ab_tg t).2 : Int) then k nx L S (h.1, h.2.1, ((t, i, y.toNat), z) :: h.2.2) else none
    | false => none
  | .aastore => ab_r1 S fun t' i' S => ab_i1 S fun y S => ab_r1 S fun t i S => match Nat.beq t b && Nat.beq t' a with
    | true => if 0 ≤ y ∧ y < ((ab_tg t).2 : Int) then k nx L S (h.1, ((t, i, y.toNat), (t', i')) :: h.2.1, h.2.2) else none
    | false => none
  | .invokespecial t => ab_pop b S [] fun as S => ab_hd as t (match Nat.ble (ab_wt S) 8 with
    | true => match x with
      | .ofNat 0 => match cal a as h with
        | some (none, h') => k nx L S h'
        | _ => none
      | _ => none
    | false => none)
  | .d2l => ab_r1 S fun _ _ S => match S with
    | [] => k nx L [] h
    | _ => none
  | .return_ => match S with
    | [] => some (none, h)
    | _ => none
  | _ => none
def itrd (cd : Nat → Option (List Nat × ab_E)) (cal : dC) : Nat → dK
  | 0 => fun _ _ _ _ => none
  | n + 1 => fun pc L S h => match cd pc with
    | some e => stpd cal e.2 (ab_kl e.1 L) S h (itrd cd cal n)
    | none => none
def evd : Nat → dC
  | 0 => fun _ _ _ => none
  | d + 1 => fun m as h => match Nat.ble (ab_ent as).length (ab_nl m) with
    | true => itrd (ab_lk (ab_cds m)) (evd d) 400 0 (ab_pad (ab_nl m) (ab_ent as)) [] h
    | false => none
end
