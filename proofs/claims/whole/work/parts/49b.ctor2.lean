/-! the run over lists is a run of the machine -/
section
theorem mkd_some {h : dH} {a : Nat} {f : dH → Option dR} {r : dR} (q : mkd h a f = some r) : h.1.elem (a, ab_cnt h.1 a) = false ∧ frq a (ab_cnt h.1 a) h.2.1 = true ∧ frq a (ab_cnt h.1 a) h.2.2 = true ∧ f (h.1 ++ [(a, ab_cnt h.1 a)], h.2) = some r := by
  unfold mkd at q
  cases h1 : h.1.elem (a, ab_cnt h.1 a) with
  | true => rw [h1] at q; cases q
  | false =>
    rw [h1] at q
    cases h2 : frq a (ab_cnt h.1 a) h.2.1 && frq a (ab_cnt h.1 a) h.2.2 with
    | false =>
      have q : (match frq a (ab_cnt h.1 a) h.2.1 && frq a (ab_cnt h.1 a) h.2.2 with | true => f (h.1 ++ [(a, ab_cnt h.1 a)], h.2) | false => none) = some r := q
      rw [h2] at q; cases q
    | true =>
      have q : (match frq a (ab_cnt h.1 a) h.2.1 && frq a (ab_cnt h.1 a) h.2.2 with | true => f (h.1 ++ [(a, ab_cnt h.1 a)], h.2) | false => none) = some r := q
      rw [h2] at q
      rw [Bool.and_eq_true] at h2
      exact ⟨rfl, h2.1, h2.2, q⟩
theorem popd {α β : Type} {F : List ab_V → List ab_V → Option α} {G : List ab_V → List ab_V → Option β} {r : α} {r' : β} : ∀ (n : Nat) (S acc : List ab_V), (∀ as S, F as S = some r → G as S = some r') → ab_pop n S acc F = some r → ab_pop n S acc G = some r'
  | 0, S, acc, hFG, h => hFG acc S h
  | n + 1, [], acc, _, h => by cases h
  | n + 1, v :: S, acc, hFG, h => popd n S (v :: acc) hFG h
theorem hdd {α β : Type} {as : List ab_V} {t : Nat} {f : Option α} {g : Option β} {r : α} {r' : β} (hfg : f = some r → g = some r') (h : ab_hd as t f = some r) : ab_hd as t g = some r' := by
  cases as with
  | nil => cases h
  | cons v as =>
    rcases v with y | y | q | w | u
    · cases h
    · cases h
    · have h : (match Nat.beq q.1 t with | true => f | false => none) = some r := h
      obtain ⟨h1, h2⟩ := beq_some h
      show (match Nat.beq q.1 t with | true => g | false => none) = some r'
      rw [h1]
      exact hfg h2
    · cases h
    · cases h
theorem br_d {c : ClassFile.Cond} {x y : Int} {p q : Option dR} {p' q' : Option ab_R} {r : dR} {r' : ab_R} (hp9 : p = some r → p' = some r') (hq : q = some r → q' = some r') (h : ab_br c x y p q = some r) : ab_br c x y p' q' = some r' := by
  cases c <;> (unfold ab_br at h ⊢; dsimp only at h ⊢; split at h <;> split <;> first | exact hp9 h | exact hq h | (exfalso; contradiction))
theorem stpd_ok {X : Nat × (Nat → Int)} {cal : ab_C} {cald : dC} {k : ab_K} {kd : dK} (hc : ∀ m as hd rd, cald m as hd = some rd → cal m as (ihd hd) = some (rd.1, ihd rd.2)) (hk : ∀ pc L S hd rd, kd pc L S hd = some rd → k pc L S (ihd hd) = some (rd.1, ihd rd.2)) (e : ab_E) (L S : List ab_V) (hd : dH) (rd : dR) (hs : stpd cald e L S hd kd = some rd) : ab_stp ab_tg (ab_tx, X) cal e L S (ihd hd) k = some (rd.1, ihd rd.2) := by
  obtain ⟨op, nx, a, b, x⟩ := e
  cases op <;> first | (exact hk _ _ _ _ _ hs) | (cases hs; done) | skip
  case iload n =>
    have hs : ab_lo L a (fun v => match v with | .inl y => kd nx L (vI y :: S) hd | _ => none) = some rd := hs
    obtain ⟨v, e1, g1⟩ := lo_some hs
    show (match L[a]? with | some v => (match v with | .inl y => k nx L (vI y :: S) (ihd hd) | _ => none) | none => none) = _
    rw [e1]
    rcases v with y | q
    · exact hk _ _ _ _ _ g1
    · cases g1
  case aload n =>
    have hs : ab_lo L a (fun v => match v with | .inr (.inr (.inl q)) => kd nx L (vR q.1 q.2 :: S) hd | _ => none) = some rd := hs
    obtain ⟨v, e1, g1⟩ := lo_some hs
    show (match L[a]? with | some v => (match v with | .inr (.inr (.inl q)) => k nx L (vR q.1 q.2 :: S) (ihd hd) | .inr (.inr (.inr (.inl j))) => k nx L (vS j :: S) (ihd hd) | _ => none) | none => none) = _
    rw [e1]
    rcases v with y | y | q | j | u
    · cases g1
    · cases g1
    · exact hk _ _ _ _ _ g1
    · cases g1
    · cases g1
  case istore n =>
    obtain ⟨y, S', q1, g1⟩ := i1_some (show ab_i1 S (fun y S => match Nat.blt a L.length with | true => kd nx (ab_st L a (vI y)) S hd | false => none) = some rd from hs)
    subst q1
    obtain ⟨h1, g2⟩ := beq_some g1
    show (match Nat.blt a L.length with | true => k nx (ab_st L a (vI y)) S' (ihd hd) | false => none) = _
    rw [h1]
    exact hk _ _ _ _ _ g2
  case astore n =>
    obtain ⟨t, i, S', q1, g1⟩ := r1_some (show ab_r1 S (fun t i S => match Nat.blt a L.length with | true => kd nx (ab_st L a (vR t i)) S hd | false => none) = some rd from hs)
    subst q1
    obtain ⟨h1, g2⟩ := beq_some g1
    show (match Nat.blt a L.length with | true => k nx (ab_st L a (vR t i)) S' (ihd hd) | false => none) = _
    rw [h1]
    exact hk _ _ _ _ _ g2
  case iinc n m =>
    have hs : ab_lo L a (fun v => match v with | .inl y => kd nx (ab_st L a (vI (w32 (y + x)))) S hd | _ => none) = some rd := hs
    obtain ⟨v, e1, g1⟩ := lo_some hs
    show (match L[a]? with | some v => (match v with | .inl y => k nx (ab_st L a (vI (w32 (y + x)))) S (ihd hd) | _ => none) | none => none) = _
    rw [e1]
    rcases v with y | q
    · exact hk _ _ _ _ _ g1
    · cases g1
  case dup =>
    obtain ⟨v, S', q1, g1, hv⟩ := c1_some (show ab_c1 S (fun v S => kd nx L (v :: v :: S) hd) = some rd from hs)
    subst q1
    rcases hv with ⟨y, rfl⟩ | ⟨t, i, rfl⟩
    · exact hk _ _ _ _ _ g1
    · exact hk _ _ _ _ _ g1
  case if_icmp c n =>
    obtain ⟨y, S', q1, g1⟩ := i1_some (show ab_i1 S (fun y S => ab_i1 S fun z S => ab_br c z y (kd a L S hd) (kd nx L S hd)) = some rd from hs)
    subst q1
    obtain ⟨z, S', q2, g2⟩ := i1_some g1
    subst q2
    exact br_d (fun q => hk _ _ _ _ _ q) (fun q => hk _ _ _ _ _ q) g2
  case getfield n =>
    obtain ⟨t, i, S', q1, g1⟩ := r1_some (show ab_r1 S (fun t i S => match Nat.beq t a with | true => (match (generalizing := false) x with | .ofNat 3 => (match zR hd.2.1 t i b with | some q => kd nx L (vR q.1 q.2 :: S) hd | none => none) | _ => none) | false => none) = some rd from hs)
    subst q1
    obtain ⟨h1, g2⟩ := beq_some g1
    show (match Nat.beq t a with | true => (match (generalizing := false) x with | .ofNat 2 => k nx L (vL (zD hd.2.2 t i b) :: S') (ihd hd) | .ofNat 3 => ab_rf (zR hd.2.1 t i b) (fun t' i' => k nx L (vR t' i' :: S') (ihd hd)) | _ => k nx L (vI (zD hd.2.2 t i b) :: S') (ihd hd)) | false => none) = _
    rw [h1]
    split at g2
    · split at g2
      · rename_i q hq
        show ab_rf (zR hd.2.1 t i b) (fun t' i' => k nx L (vR t' i' :: S') (ihd hd)) = _
        rw [hq]
        exact hk _ _ _ _ _ g2
      · cases g2
    · cases g2
  case putfield n =>
    have hs : (match (generalizing := false) x with | .ofNat 0 => ab_i1 S (fun y S => ab_r1 S fun t i S => match Nat.beq t a with | true => kd nx L S (hd.1, hd.2.1, ((t, i, b), y) :: hd.2.2) | false => none) | .ofNat 3 => ab_r1 S (fun t' i' S => ab_r1 S fun t i S => match Nat.beq t a with | true => kd nx L S (hd.1, ((t, i, b), (t', i')) :: hd.2.1, hd.2.2) | false => none) | _ => none) = some rd := hs
    split at hs
    · obtain ⟨y, S', q1, g1⟩ := i1_some hs
      subst q1
      obtain ⟨t, i, S', q2, g2⟩ := r1_some g1
      subst q2
      obtain ⟨h1, g3⟩ := beq_some g2
      show (match Nat.beq t a with | true => k nx L S' (hd.1, zR hd.2.1, u3 (zD hd.2.2) t i b y) | false => none) = _
      rw [h1]
      exact hk _ _ _ _ _ g3
    · obtain ⟨t', i', S', q4, g4⟩ := r1_some hs
      subst q4
      obtain ⟨t, i, S', q5, g5⟩ := r1_some g4
      subst q5
      obtain ⟨h1, g6⟩ := beq_some g5
      show (match Nat.beq t a with | true => k nx L S' (hd.1, u3 (zR hd.2.1) t i b (some (t', i')), zD hd.2.2) | false => none) = _
      rw [h1]
      exact hk _ _ _ _ _ g6
    · cases hs
  case arraylength =>
    obtain ⟨t, i, S', q1, g1⟩ := r1_some (show ab_r1 S (fun t _ S => match Nat.beq (ab_tg t).1 0 with | true => none | false => kd nx L (vI ((ab_tg t).2 : Int) :: S) hd) = some rd from hs)
    subst q1
    show (match Nat.beq (ab_tg t).1 0 with | true => none | false => k nx L (vI ((ab_tg t).2 : Int) :: S') (ihd hd)) = _
    cases h1 : Nat.beq (ab_tg t).1 0 with
    | true => rw [h1] at g1; cases g1
    | false => rw [h1] at g1; exact hk _ _ _ _ _ g1
  case new n =>
    obtain ⟨h1, h2, h3, g1⟩ := mkd_some (show mkd hd a (fun h' => kd nx L (vR a (ab_cnt hd.1 a) :: S) h') = some rd from hs)
    show (match hd.1.elem (a, ab_cnt hd.1 a) with | true => none | false => k nx L (vR a (ab_cnt hd.1 a) :: S) (ab_new (ihd hd) a)) = _
    rw [h1, new_d h2 h3]
    exact hk _ _ _ _ _ g1
  case newarray n =>
    obtain ⟨y, S', q1, g1⟩ := i1_some (show ab_i1 S (fun y S => mkd hd a fun h' => if y = ((ab_tg a).2 : Int) then kd nx L (vR a (ab_cnt hd.1 a) :: S) h' else none) = some rd from hs)
    subst q1
    obtain ⟨h1, h2, h3, g2⟩ := mkd_some g1
    obtain ⟨h4, g3⟩ := ite_some g2
    show (match hd.1.elem (a, ab_cnt hd.1 a) with | true => none | false => if y = ((ab_tg a).2 : Int) then k nx L (vR a (ab_cnt hd.1 a) :: S') (ab_new (ihd hd) a) else none) = _
    rw [h1, new_d h2 h3]
    show (if y = ((ab_tg a).2 : Int) then k nx L (vR a (ab_cnt hd.1 a) :: S') (ihd (hd.1 ++ [(a, ab_cnt hd.1 a)], hd.2)) else none) = _
    rw [if_pos h4]
    exact hk _ _ _ _ _ g3
  case anewarray n =>
    obtain ⟨y, S', q1, g1⟩ := i1_some (show ab_i1 S (fun y S => mkd hd a fun h' => if y = ((ab_tg a).2 : Int) then kd nx L (vR a (ab_cnt hd.1 a) :: S) h' else none) = some rd from hs)
    subst q1
    obtain ⟨h1, h2, h3, g2⟩ := mkd_some g1
    obtain ⟨h4, g3⟩ := ite_some g2
    show (match hd.1.elem (a, ab_cnt hd.1 a) with | true => none | false => if y = ((ab_tg a).2 : Int) then k nx L (vR a (ab_cnt hd.1 a) :: S') (ab_new (ihd hd) a) else none) = _
    rw [h1, new_d h2 h3]
    show (if y = ((ab_tg a).2 : Int) then k nx L (vR a (ab_cnt hd.1 a) :: S') (ihd (hd.1 ++ [(a, ab_cnt hd.1 a)], hd.2)) else none) = _
    rw [if_pos h4]
    exact hk _ _ _ _ _ g3
  case iastore =>
    obtain ⟨z, S', q1, g1⟩ := i1_some (show ab_i1 S (fun z S => ab_i1 S fun y S => ab_r1 S fun t i S => match Nat.beq (ab_tg t).1 1 with | true => if 0 ≤ y ∧ y < ((ab_tg t).2 : Int) then kd nx L S (hd.1, hd.2.1, ((t, i, y.toNat), z) :: hd.2.2) else none | false => none) = some rd from hs)
    subst q1
    obtain ⟨y, S', q2, g2⟩ := i1_some g1
    subst q2
    obtain ⟨t, i, S', q3, g3⟩ := r1_some g2
    subst q3
    obtain ⟨h1, g4⟩ := beq_some g3
    obtain ⟨h2, g5⟩ := ite_some g4
    show (match Nat.beq (ab_tg t).1 1 with | true => if 0 ≤ y ∧ y < ((ab_tg t).2 : Int) then k nx L S' (hd.1, zR hd.2.1, u3 (zD hd.2.2) t i y.toNat z) else none | false => none) = _
    rw [h1]
    show (if 0 ≤ y ∧ y < ((ab_tg t).2 : Int) then k nx L S' (hd.1, zR hd.2.1, u3 (zD hd.2.2) t i y.toNat z) else none) = _
    rw [if_pos h2]
    exact hk _ _ _ _ _ g5
  case aastore =>
    obtain ⟨t', i', S', q1, g1⟩ := r1_some (show ab_r1 S (fun t' i' S => ab_i1 S fun y S => ab_r1 S fun t i S => match Nat.beq t b && Nat.beq t' a with | true => if 0 ≤ y ∧ y < ((ab_tg t).2 : Int) then kd nx L S (hd.1, ((t, i, y.toNat), (t', i')) :: hd.2.1, hd.2.2) else none | false => none) = some rd from hs)
    subst q1
    obtain ⟨y, S', q2, g2⟩ := i1_some g1
    subst q2
    obtain ⟨t, i, S', q3, g3⟩ := r1_some g2
    subst q3
    obtain ⟨h1, g4⟩ := beq_some g3
    obtain ⟨h2, g5⟩ := ite_some g4
    show (match Nat.beq t b && Nat.beq t' a with | true => if 0 ≤ y ∧ y < ((ab_tg t).2 : Int) then k nx L S' (hd.1, u3 (zR hd.2.1) t i y.toNat (some (t', i')), zD hd.2.2) else none | false => none) = _
    rw [h1]
    show (if 0 ≤ y ∧ y < ((ab_tg t).2 : Int) then k nx L S' (hd.1, u3 (zR hd.2.1) t i y.toNat (some (t', i')), zD hd.2.2) else none) = _
    rw [if_pos h2]
    exact hk _ _ _ _ _ g5
  case invokespecial t =>
    refine popd b S [] (fun as S q => hdd (fun q => ?_) q) hs
    obtain ⟨h1, q⟩ := beq_some q
    show ab_ret x (cal a as (ihd hd)) k nx L S = _
    unfold ab_ret
    rw [h1]
    split at q
    · split at q
      · rename_i h' hq
        have := hc _ _ _ _ hq
        show ab_cv (cal a as (ihd hd)) (fun h => k nx L S h) = _
        rw [this]
        exact hk _ _ _ _ _ q
      · cases q
    · cases q
  case d2l =>
    obtain ⟨t, i, S', q1, g1⟩ := r1_some (show ab_r1 S (fun _ _ S => match S with | [] => kd nx L [] hd | _ => none) = some rd from hs)
    subst q1
    cases S' with
    | nil => exact hk _ _ _ _ _ g1
    | cons v S' => cases g1
  case return_ =>
    have hs : (match (generalizing := false) S with | [] => some (none, hd) | _ => none) = some rd := hs
    cases S with
    | nil => cases hs; rfl
    | cons v S => cases hs
theorem itrd_ok {X : Nat × (Nat → Int)} {cal : ab_C} {cald : dC} {cd : Nat → Option (List Nat × ab_E)} (hc : ∀ m as hd rd, cald m as hd = some rd → cal m as (ihd hd) = some (rd.1, ihd rd.2)) : ∀ n pc L S hd rd, itrd cd cald n pc L S hd = some rd → ab_itr ab_tg (ab_tx, X) cd cal n pc L S (ihd hd) = some (rd.1, ihd rd.2) := by
  intro n
  induction n with
  | zero => intro pc L S hd rd h; cases h
  | succ n ih =>
    intro pc L S hd rd h
    have h : (match cd pc with | some e => stpd cald e.2 (ab_kl e.1 L) S hd (itrd cd cald n) | none => none) = some rd := h
    show (match cd pc with | some e => ab_stp ab_tg (ab_tx, X) cal e.2 (ab_kl e.1 L) S (ihd hd) (ab_itr ab_tg (ab_tx, X) cd cal n) | none => none) = _
    cases he : cd pc with
    | none => rw [he] at h; cases h
    | some e =>
      rw [he] at h
      exact stpd_ok hc (fun pc L S hd rd q => ih pc L S hd rd q) e.2 (ab_kl e.1 L) S hd rd h
theorem evd_ok {X : Nat × (Nat → Int)} : ∀ d m as hd rd, evd d m as hd = some rd → ev X d m as (ihd hd) = some (rd.1, ihd rd.2) := by
  intro d
  induction d with
  | zero => intro m as hd rd h; cases h
  | succ d ih =>
    intro m as hd rd h
    have h : (match Nat.ble (ab_ent as).length (ab_nl m) with | true => itrd (ab_lk (ab_cds m)) (evd d) 400 0 (ab_pad (ab_nl m) (ab_ent as)) [] hd | false => none) = some rd := h
    show (match Nat.ble (ab_ent as).length (ab_nl m) with | true => ab_lim ab_tg (ab_tx, X) (ab_lk (ab_cds m)) (ab_ev ab_tg (ab_tx, X) ab_cds ab_nl d) 0 (ab_pad (ab_nl m) (ab_ent as)) [] (ihd hd) | false => none) = _
    cases hb : Nat.ble (ab_ent as).length (ab_nl m) with
    | false => rw [hb] at h; cases h
    | true =>
      rw [hb] at h
      exact ab_lim_of (itrd_ok (fun m as hd rd q => ih m as hd rd q) 400 _ _ _ _ _ h)
end
