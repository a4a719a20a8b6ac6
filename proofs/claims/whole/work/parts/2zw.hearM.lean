/-! the reference's hearings -/
section
/-- a row of things, as the reference holds it -/
def MR (D : DD) (r : Nat) (ts : List Nat) : Prop := D 41 0 r = (ts.length : Int) ∧ ∀ k, k < ts.length → D 42 0 (40 * r + k) = (ts.getD k 0 : Nat)
theorem MR.on {D D' : DD} {r : Nat} {ts : List Nat} (h : MR D r ts) (e : ∀ t k, (t = 41 ∨ t = 42) → D' t 0 k = D t 0 k) : MR D' r ts := ⟨(e _ _ (by omega)).trans h.1, fun k hk => (e _ _ (by omega)).trans (h.2 k hk)⟩
theorem nx_s {ts : List Nat} {i t : Nat} (hi : i < ts.length) (h : ts.getD i 0 ≠ t) : nx ts i t = nx ts (i + 1) t := by
  unfold nx
  obtain ⟨m, hm⟩ : ∃ m, ts.length - i = m + 1 := ⟨ts.length - i - 1, by omega⟩
  have e : ts.length - (i + 1) = m := by omega
  rw [hm, e, ff, decide_eq_false h]
  rfl
theorem s_M_nextAt {X : Nat × (Nat → Int)} {d : Nat} {D : DD} {r i t : Nat} {ts : List Nat} (hd : 1 ≤ d) (hr : r < 4) (h40 : ts.length ≤ 40) (hi : i ≤ ts.length) (h : MR D r ts) : ev X d m_M_nextAt [vR 12 0, vI (r : Int), vI (t : Int), vI (i : Int)] (hp D) = some (some (vI (nx ts i t : Int)), hp D) := by
  obtain ⟨d, rfl⟩ : ∃ e, d = e + 1 := ⟨d - 1, by omega⟩
  obtain ⟨n1, n2⟩ := nx_ge (t := t) hi
  have key : ∀ (m k : Nat) (v3 : ab_V), k + m = ts.length → i ≤ k → k ≤ nx ts i t → at_ X d cd_M_nextAt 3 [vR 12 0, vI (r : Int), vI (t : Int), v3, vI (k : Int)] [] (hp D) = some (some (vI (nx ts i t : Int)), hp D) := by
    intro m
    induction m with
    | zero =>
      intro k v3 hk hik hn
      have e : nx ts i t = k := by omega
      rw [b_M_nextAt_3, if_pos (by omega), Int.toNat_natCast, h.1, if_pos (by omega), e]
    | succ m ih =>
      intro k v3 hk hik hn
      have h4 := nx_at (t := t) hik (by omega) hn
      rw [b_M_nextAt_3, if_pos (by omega), Int.toNat_natCast, h.1, if_neg (by omega), zb_w (n := 40 * (r : Int)) (by omega) (by omega), zb_w (n := 40 * (r : Int) + (k : Int)) (by omega) (by omega), if_pos (by omega), tn (n := 40 * r + k) (by omega), h.2 k (by omega)]
      by_cases e : ts.getD k 0 = t
      · rw [if_pos (cmp_eq.mpr (by omega)), h4.mpr e]
      · have : nx ts i t ≠ k := fun z => e (h4.mp z)
        rw [if_neg (fun z => e (by have := cmp_eq.mp z; omega)), zb_s (by omega)]
        exact ih (k + 1) vU (by omega) (by omega) (by omega)
  rw [e_M_nextAt, b_M_nextAt_0]
  exact key (ts.length - i) i _ (by omega) (Nat.le_refl _) n1
def dvM (f : Nat → Int) (o : Option Nat) : Int := match o with
  | none => 0
  | some w => f w
theorem s_M_driven {X : Nat × (Nat → Int)} {d : Nat} {D : DD} {r k s : Nat} {law : Int} {f : Nat → Int} {ts : List Nat} (hd : 2 ≤ d) (hr : r < 4) (h40 : ts.length ≤ 40) (hk : k ≤ ts.length) (hs : s < 65536) (h : MR D r ts) (hh : D 12 0 21 = (s : Int)) (hf : ∀ t, t < 16 → s.testBit t = true → (-1000 ≤ f t ∧ f t ≤ 1000) ∧ ((law = 0 ∧ f t = 100 - D 28 0 t) ∨ (law = 1 ∧ f t = 100 - D 29 0 t) ∨ (law ≠ 0 ∧ law ≠ 1 ∧ f t = (nx ts k t : Int)))) : ev X d m_M_driven [vR 12 0, vI (r : Int), vI (k : Int), vI law] (hp D) = some (some (vI (goI (dvU s f 16))), hp D) := by
  obtain ⟨d, rfl⟩ : ∃ e, d = e + 1 := ⟨d - 1, by omega⟩
  have key : ∀ (m t : Nat), t + m = 16 → at_ X d cd_M_driven 9 [vR 12 0, vI (r : Int), vI (k : Int), vI law, vI (goI (dvU s f t)), vI (dvM f (dvU s f t)), vI (t : Int), vU] [] (hp D) = some (some (vI (goI (dvU s f 16))), hp D) := by
    intro m
    induction m with
    | zero =>
      intro t ht
      have e : t = 16 := by omega
      subst e
      rw [b_M_driven_9, if_pos (by omega)]
    | succ m ih =>
      intro t ht
      have nxt := ih (t + 1) (by omega)
      rw [b_M_driven_9, if_neg (by omega), hh, zb_bit (by omega) (by omega)]
      by_cases hb : s.testBit t = true
      · obtain ⟨⟨f1, f2⟩, f3⟩ := hf t (by omega) hb
        have go : at_ X d cd_M_driven 74 [vR 12 0, vI (r : Int), vI (k : Int), vI law, vI (goI (dvU s f t)), vI (dvM f (dvU s f t)), vI (t : Int), vU] [vI (f t)] (hp D) = some (some (vI (goI (dvU s f 16))), hp D) := by
          rw [b_M_driven_74]
          rw [dvU, if_pos hb] at nxt
          cases ho : dvU s f t with
          | none =>
            rw [ho] at nxt
            rw [show goI none = -1 from rfl, if_pos rfl, b_M_driven_92, b_M_driven_100, zb_s (by omega)]
            exact nxt
          | some w =>
            rw [ho] at nxt
            rw [show goI (some w) = (w : Int) from rfl, show dvM f (some w) = f w from rfl, if_neg (by omega)]
            by_cases e : f w < f t
            · rw [if_pos e, b_M_driven_92, b_M_driven_100, zb_s (by omega)]
              simp only [if_pos e] at nxt
              exact nxt
            · rw [if_neg e, b_M_driven_100, zb_s (by omega)]
              simp only [if_neg e] at nxt
              exact nxt
        rw [if_pos hb, if_pos (by decide)]
        rcases f3 with ⟨l0, e⟩ | ⟨l1, e⟩ | ⟨l0, l1, e⟩
        · subst l0
          rw [if_neg (by omega), if_pos (by omega), Int.toNat_natCast, zb_w (by omega) (by omega), ← e]
          exact go
        · subst l1
          rw [if_pos (by omega), if_neg (by omega), if_pos (by omega), Int.toNat_natCast, zb_w (by omega) (by omega), ← e]
          exact go
        · rw [if_pos l0, if_pos l1, s_M_nextAt (by omega) hr h40 hk h]
          simp only [ab_ci]
          rw [← e]
          exact go
      · rw [if_neg hb, if_neg (by decide), b_M_driven_100, zb_s (by omega)]
        rw [dvU, if_neg hb] at nxt
        exact nxt
  rw [e_M_driven, b_M_driven_0]
  exact key 16 0 (by omega)
def fQ : Nat → Nat → Nat → Prop := fun t i k => i = 0 ∧ ((t = 12 ∧ k = 21) ∨ t = 28 ∨ t = 29)
theorem MR.fq {D D' : DD} {r : Nat} {ts : List Nat} (h : MR D r ts) (e : fr fQ D D') : MR D' r ts := h.on fun t k ht => e t 0 k (by unfold fQ; omega)
theorem FA_cg {s : Nat} {f g : Nat → Int} {w : Nat} (h : FA s f w) (e : ∀ u, s.testBit u = true → f u = g u) : FA s g w := by
  obtain ⟨h1, h2, h3⟩ := h
  refine ⟨h1, fun u hu => ?_, fun u hlt hu => ?_⟩
  · rw [← e u hu, ← e w h1]; exact h2 u hu
  · rw [← e u hu, ← e w h1]; exact h3 u hlt hu
theorem pc_0 {s : Nat} (h : 1 ≤ pc s) : s ≠ 0 := by
  intro e
  subst e
  exact absurd h (by decide)
/-- the set after a new thing came -/
def frS (s n t : Nat) (f : Nat → Int) : Nat := (if pc s = n then nd s (2 ^ vcN s f) else s) ||| 2 ^ t
theorem s_M_in {X : Nat × (Nat → Int)} {d : Nat} {D : DD} {r k s c n : Nat} {law : Int} {ts : List Nat} (hr : r < 4) (h40 : ts.length ≤ 40) (hts : ∀ t ∈ ts, t < 16) (hk : k < ts.length) (hs : s < 65536) (h : MR D r ts) (hh : D 12 0 21 = (s : Int)) (hb : s.testBit (ts.getD k 0) = true) : at_ X d cd_M_freshOf 11 [vR 12 0, vI (r : Int), vI (n : Int), vI law, vI (c : Int), vI (k : Int), vU] [] (hp D) = at_ X d cd_M_freshOf 11 [vR 12 0, vI (r : Int), vI (n : Int), vI law, vI (c : Int), vI ((k + 1 : Nat) : Int), vU] [] (hp (u3 D 28 0 (ts.getD k 0) (k : Int))) := by
  have ht := hts _ (say_mem (l := ts) (k := k) hk)
  rw [b_M_freshOf_11, if_pos (by omega), Int.toNat_natCast, h.1, if_neg (by omega), zb_w (n := 40 * (r : Int)) (by omega) (by omega), zb_w (n := 40 * (r : Int) + (k : Int)) (by omega) (by omega), if_pos (by omega), tn (n := 40 * r + k) (by omega), h.2 k hk]
  generalize ts.getD k 0 = t at ht hb ⊢
  rw [zb_w (n := (t : Int)) (by omega) (by omega), if_pos (by omega), Int.toNat_natCast, u3_t (by omega), hh, zb_bit (by omega) (by omega), if_pos hb, if_neg (by decide), b_M_freshOf_119, zb_s (by omega)]
theorem s_M_new {X : Nat × (Nat → Int)} {d : Nat} {D : DD} {r k s c n : Nat} {law : Int} {f : Nat → Int} {ts : List Nat} (hd : 3 ≤ d) (h1 : 1 ≤ n) (hr : r < 4) (h40 : ts.length ≤ 40) (hts : ∀ t ∈ ts, t < 16) (hk : k < ts.length) (hc : c ≤ k) (hs : s < 65536) (h : MR D r ts) (hh : D 12 0 21 = (s : Int)) (hb : ¬ s.testBit (ts.getD k 0) = true) (hf : ∀ t, t < 16 → s.testBit t = true → (-1000 ≤ f t ∧ f t ≤ 1000) ∧ ((law = 0 ∧ f t = 100 - D 28 0 t) ∨ (law = 1 ∧ f t = 100 - D 29 0 t) ∨ (law ≠ 0 ∧ law ≠ 1 ∧ f t = (nx ts k t : Int)))) : ∃ D', at_ X d cd_M_freshOf 11 [vR 12 0, vI (r : Int), vI (n : Int), vI law, vI (c : Int), vI (k : Int), vU] [] (hp D) = at_ X d cd_M_freshOf 11 [vR 12 0, vI (r : Int), vI (n : Int), vI law, vI ((c + 1 : Nat) : Int), vI ((k + 1 : Nat) : Int), vU] [] (hp D') ∧ D' 12 0 21 = (frS s n (ts.getD k 0) f : Int) ∧ (∀ u, D' 28 0 u = if u = ts.getD k 0 then (k : Int) else D 28 0 u) ∧ (∀ u, D' 29 0 u = if u = ts.getD k 0 then (k : Int) else D 29 0 u) ∧ fr fQ D D' := by
  have ht := hts _ (say_mem (l := ts) (k := k) hk)
  rw [b_M_freshOf_11, if_pos (by omega), Int.toNat_natCast, h.1, if_neg (by omega), zb_w (n := 40 * (r : Int)) (by omega) (by omega), zb_w (n := 40 * (r : Int) + (k : Int)) (by omega) (by omega), if_pos (by omega), tn (n := 40 * r + k) (by omega), h.2 k hk]
  generalize ts.getD k 0 = t at ht hb ⊢
  have hp9 : 2 ^ t < 2 ^ 16 := zb_p2 ht
  have fr1 : fr fQ D (u3 D 28 0 t (k : Int)) := (fr.rf D).u ⟨rfl, Or.inr (Or.inl rfl)⟩
  rw [zb_w (n := (t : Int)) (by omega) (by omega), if_pos (by omega), Int.toNat_natCast, u3_t (by omega), hh, zb_bit (by omega) (by omega), if_neg hb, if_pos (by decide), s_M_bitsOf (by omega) hs]
  simp only [ab_ci]
  rw [zb_s (by omega), b_M_freshOf_72]
  have last : ∀ (D1 : DD) (s1 : Nat), s1 < 65536 → D1 12 0 21 = (s1 : Int) → s1 ||| 2 ^ t = frS s n t f → (∀ u, D1 28 0 u = if u = t then (k : Int) else D 28 0 u) → (∀ u, D1 29 0 u = D 29 0 u) → fr fQ D D1 → ∃ D', at_ X d cd_M_freshOf 97 [vR 12 0, vI (r : Int), vI (n : Int), vI law, vI ((c + 1 : Nat) : Int), vI (k : Int), vI (t : Int)] [] (hp D1) = at_ X d cd_M_freshOf 11 [vR 12 0, vI (r : Int), vI (n : Int), vI law, vI ((c + 1 : Nat) : Int), vI ((k + 1 : Nat) : Int), vU] [] (hp D') ∧ D' 12 0 21 = (frS s n t f : Int) ∧ (∀ u, D' 28 0 u = if u = t then (k : Int) else D 28 0 u) ∧ (∀ u, D' 29 0 u = if u = t then (k : Int) else D 29 0 u) ∧ fr fQ D D' := by
    intro D1 s1 hs1 hh1 hfr g1 g2 g3
    rw [b_M_freshOf_97, if_pos (by omega), Int.toNat_natCast, hh1, zb_sl (by omega), zb_or (by omega) (by omega), hfr, b_M_freshOf_119, zb_s (by omega)]
    refine ⟨_, rfl, ?_, fun u => ?_, fun u => ?_, (g3.u ⟨rfl, Or.inl ⟨rfl, rfl⟩⟩).u ⟨rfl, Or.inr (Or.inr rfl)⟩⟩
    · rw [u3_t (by omega), u3_eq]
    · rw [u3_t (by omega), u3_t (by omega), g1]
    · rw [u3_a]
      by_cases e : u = t
      · rw [if_pos ⟨rfl, rfl, e⟩, if_pos e]
      · rw [if_neg (fun z => e z.2.2), if_neg e, u3_t (by omega), g2]
  by_cases hn : pc s = n
  · obtain ⟨v1, v2, v3⟩ := vc_FA (f := f) hs (pc_0 (by omega))
    have hp8 : 2 ^ vcN s f < 2 ^ 16 := zb_p2 v2
    have hdr := s_M_driven (X := X) (d := d) (D := u3 D 28 0 t (k : Int)) (r := r) (k := k) (s := s) (law := law) (f := f) (ts := ts) (by omega) hr h40 (by omega) hs (h.fq fr1) (by rw [u3_t (by omega), hh]) (fun u hu hub => by
      obtain ⟨a1, a2⟩ := hf u hu hub
      have hne : u ≠ t := fun z => hb (z ▸ hub)
      rw [u3_k hne, u3_t (by omega)]
      exact ⟨a1, a2⟩)
    rw [if_neg (by omega), hdr, v1]
    simp only [ab_ci, goI]
    rw [b_M_freshOf_90, u3_t (by omega), hh, zb_sl (by omega), zb_nd (by omega) (by omega)]
    refine last _ (nd s (2 ^ vcN s f)) (nd_lt (k := 16) hs) (by rw [u3_eq]) ?_ (fun u => ?_) (fun u => ?_) (fr1.u ⟨rfl, Or.inl ⟨rfl, rfl⟩⟩)
    · unfold frS; rw [if_pos hn]
    · rw [u3_t (by omega), u3_a]
      by_cases e : u = t
      · rw [if_pos ⟨rfl, rfl, e⟩, if_pos e]
      · rw [if_neg (fun z => e z.2.2), if_neg e]
    · rw [u3_t (by omega), u3_t (by omega)]
  · rw [if_pos (by omega)]
    refine last _ s hs (by rw [u3_t (by omega), hh]) ?_ (fun u => ?_) (fun u => ?_) fr1
    · unfold frS; rw [if_neg hn]
    · rw [u3_a]
      by_cases e : u = t
      · rw [if_pos ⟨rfl, rfl, e⟩, if_pos e]
      · rw [if_neg (fun z => e z.2.2), if_neg e]
    · rw [u3_t (by omega)]
/-- the mind in the order of coming -/
def ordL (g : Nat → Int) (k : Nat) (l : List Nat) : Prop := (∀ u ∈ l, 0 ≤ g u ∧ g u < (k : Int)) ∧ l.Pairwise (fun a b => g b < g a)
theorem ordL.hr {g g' : Nat → Int} {k n t : Nat} {l : List Nat} (hl : l.Nodup) (h : ordL g k l) (e : ∀ u, g' u = if u = t then (k : Int) else g u) : ordL g' (k + 1) (hrL n l t) := by
  obtain ⟨h1, h2⟩ := h
  have e0 : g' t = (k : Int) := by rw [e, if_pos rfl]
  have e1 : ∀ u, u ∈ l.erase t → g' u = g u := fun u hu => by rw [e, if_neg ((hl.mem_erase_iff).mp hu).1]
  have m1 : ∀ u, u ∈ l.erase t → 0 ≤ g' u ∧ g' u < (k : Int) := fun u hu => by rw [e1 u hu]; exact h1 u (List.mem_of_mem_erase hu)
  refine ⟨fun u hu => ?_, List.Pairwise.sublist (List.take_sublist _ _) (List.pairwise_cons.mpr ⟨fun u hu => ?_, ?_⟩)⟩
  · rcases List.mem_cons.mp (List.mem_of_mem_take hu) with z | z
    · rw [z, e0]; omega
    · have := m1 u z
      omega
  · have := m1 u hu
    omega
  · have h3 := h2.sublist (List.erase_sublist (a := t) (l := l))
    refine List.Pairwise.imp_of_mem (fun {a b} ha hb hab => ?_) h3
    rw [e1 a ha, e1 b hb]; exact hab
theorem ordL.up {g : Nat → Int} {k : Nat} {l : List Nat} (h : ordL g k l) : ordL g (k + 1) l := ⟨fun u hu => by have := h.1 u hu; omega, h.2⟩
theorem bs_in {n t : Nat} {l : List Nat} (hl : okl n l) (ht : t ∈ l) : bs (hrL n l t) = bs l := by
  have e : hrL n l t = hrM l t := by
    unfold hrL
    rw [List.take_of_length_le]
    rw [hrM_len, if_pos ht]; exact hl.2.2
  rw [e]
  apply Nat.eq_of_testBit_eq
  intro i
  rw [bs_bit, bs_bit]
  have := hrM_mem hl.1 t i
  by_cases h : i ∈ l
  · rw [decide_eq_true h, decide_eq_true (this.mpr (Or.inr h))]
  · rw [decide_eq_false h, decide_eq_false (fun z => ?_)]
    rcases this.mp z with z | z
    · exact h (z ▸ ht)
    · exact h z
theorem bs_cons (l : List Nat) (t : Nat) : bs l ||| 2 ^ t = bs (t :: l) := by
  apply Nat.eq_of_testBit_eq
  intro i
  rw [bs_bit, Nat.testBit_or, bs_bit, Nat.testBit_two_pow]
  by_cases h : t = i
  · rw [decide_eq_true h, decide_eq_true (show i ∈ t :: l from h ▸ List.mem_cons_self), Bool.or_true]
  · rw [decide_eq_false h, Bool.or_false]
    have : (i ∈ t :: l) ↔ i ∈ l := ⟨fun z => (List.mem_cons.mp z).resolve_left (fun w => h w.symm), List.mem_cons_of_mem _⟩
    exact (decide_eq_decide.mpr this).symm
theorem frS_hr {v : Cr} {t : Nat} {g f : Nat → Int} {k : Nat} (hv : okc v) (ht : t ∉ cL v) (ho : ordL g k (cL v)) (hf : ∀ u ∈ cL v, f u = 100 - g u) : frS (bs (cL v)) (cN v) t f = bs (hrL (cN v) (cL v) t) := by
  have h16 := hv.2.2.1
  have hs : bs (cL v) < 65536 := bs_lt (n := 16) h16
  unfold frS
  rw [pc_bs hv.2.1 h16]
  by_cases hl : (cL v).length = cN v
  · obtain ⟨u, _, hu, happ, _⟩ := hrG_full hv ht hl
    rw [if_pos hl]
    have hne : bs (cL v) ≠ 0 := pc_0 (by rw [pc_bs hv.2.1 h16]; have := hv.1.1; omega)
    obtain ⟨_, _, v3⟩ := vc_FA (f := f) hs hne
    cases hr : hrL (cN v) (cL v) t with
    | nil =>
      rw [hr] at happ
      have e1 := congrArg List.length happ
      simp only [List.length_cons, List.nil_append, List.length_nil] at e1
      have := hv.1.1
      omega
    | cons a r =>
      rw [hr, List.cons_append] at happ
      injection happ with ea el
      subst ea
      have hnd := hv.2.1
      have hpw := ho.2
      rw [el] at hnd hpw
      have hur : u ∉ r := by
        intro z
        exact (List.nodup_append.mp hnd).2.2 u z u (List.mem_singleton.mpr rfl) rfl
      have hw : ∀ x ∈ r, g u < g x := fun x hx => (List.pairwise_append.mp hpw).2.2 x hx u (List.mem_singleton.mpr rfl)
      have mm : ∀ x, (bs (cL v)).testBit x = true → x ∈ r ∨ x = u := by
        intro x hx
        rw [bs_bit] at hx
        have := of_decide_eq_true hx
        rw [el] at this
        rcases List.mem_append.mp this with z | z
        · exact Or.inl z
        · exact Or.inr (List.mem_singleton.mp z)
      have mi : ∀ x ∈ r, x ∈ cL v := fun x hx => by rw [el]; exact List.mem_append_left _ hx
      have fa : FA (bs (cL v)) f u := by
        refine ⟨by rw [bs_bit]; exact decide_eq_true hu, fun x hx => ?_, fun x hlt hx => ?_⟩
        · rcases mm x hx with z | z
          · have := hw x z
            rw [hf x (mi x z), hf u hu]; omega
          · rw [z]; exact Int.le_refl _
        · rcases mm x hx with z | z
          · have := hw x z
            rw [hf x (mi x z), hf u hu]; omega
          · omega
      rw [FA_uniq v3 fa, ← bs_cons]
      congr 1
      apply Nat.eq_of_testBit_eq
      intro i
      rw [nd_bit, bs_bit, bs_bit, Nat.testBit_two_pow, el]
      by_cases hi : i ∈ r
      · have hne : ¬ u = i := fun z => hur (z ▸ hi)
        rw [decide_eq_true (List.mem_append_left _ hi), decide_eq_true hi, decide_eq_false hne]; rfl
      · rw [decide_eq_false hi]
        by_cases e : u = i
        · rw [decide_eq_true e, Bool.not_true, Bool.and_false]
        · rw [decide_eq_false (fun z => (List.mem_append.mp z).elim hi (fun w => e (List.mem_singleton.mp w).symm))]; rfl
  · rw [if_neg hl, (hrG_room ht (by have := hv.2.2.2; omega)).2, bs_cons]
theorem s_M_fresh01 {X : Nat × (Nat → Int)} {d : Nat} {D : DD} {r n : Nat} {law : Int} {ts : List Nat} (hd : 4 ≤ d) (hl01 : law = 0 ∨ law = 1) (h1 : 1 ≤ n) (h9 : n ≤ 9) (hr : r < 4) (h40 : ts.length ≤ 40) (hts : ∀ t ∈ ts, t < 16) (h : MR D r ts) : ∃ D', ev X d m_M_freshOf [vR 12 0, vI (r : Int), vI (n : Int), vI law] (hp D) = some (some (vI ((nrV (decide (law = 0)) n ts).2 : Int)), hp D') ∧ D' 12 0 21 = (bs (cL (nrV (decide (law = 0)) n ts).1) : Int) ∧ fr fQ D D' := by
  obtain ⟨d, rfl⟩ : ∃ e, d = e + 1 := ⟨d - 1, by omega⟩
  have key : ∀ (m k : Nat) (D : DD) (z : Cr × Nat), k + m = ts.length → okc z.1 → cN z.1 = n → z.2 ≤ k → MR D r ts → D 12 0 21 = (bs (cL z.1) : Int) → ordL (if law = 0 then D 28 0 else D 29 0) k (cL z.1) → ∃ D', at_ X d cd_M_freshOf 11 [vR 12 0, vI (r : Int), vI (n : Int), vI law, vI (z.2 : Int), vI (k : Int), vU] [] (hp D) = some (some (vI (((ts.drop k).foldl (nrF (decide (law = 0))) z).2 : Int)), hp D') ∧ D' 12 0 21 = (bs (cL ((ts.drop k).foldl (nrF (decide (law = 0))) z).1) : Int) ∧ fr fQ D D' := by
    intro m
    induction m with
    | zero =>
      intro k D z hk hz hn h2 h hh ho
      rw [List.drop_eq_nil_of_le (by omega), b_M_freshOf_11, if_pos (by omega), Int.toNat_natCast, h.1, if_pos (by omega)]
      exact ⟨D, rfl, hh, fr.rf D⟩
    | succ m ih =>
      intro k D z hk hz hn h2 h hh ho
      have ht := hts _ (say_mem (l := ts) (k := k) (by omega))
      obtain ⟨q1, q2⟩ := nrF_ok (say := decide (law = 0)) (z := z) ht hz
      have hs : bs (cL z.1) < 65536 := bs_lt (n := 16) hz.2.2.1
      rw [drop_gN (show k < ts.length by omega), List.foldl_cons]
      by_cases hb : ts.getD k 0 ∈ cL z.1
      · rw [s_M_in hr h40 hts (by omega) hs h hh (by rw [bs_bit]; exact decide_eq_true hb)]
        have fr1 : fr fQ D (u3 D 28 0 (ts.getD k 0) (k : Int)) := (fr.rf D).u ⟨rfl, Or.inr (Or.inl rfl)⟩
        have e2 : (nrF (decide (law = 0)) z (ts.getD k 0)).2 = z.2 := by
          unfold nrF
          rw [if_pos hb]
          split <;> rfl
        have hn2 : cN (nrF (decide (law = 0)) z (ts.getD k 0)).1 = n := by
          unfold nrF
          rw [if_pos hb]
          split
          · exact hn
          · exact hn
        have hb2 : bs (cL (nrF (decide (law = 0)) z (ts.getD k 0)).1) = bs (cL z.1) := by
          unfold nrF
          rw [if_pos hb]
          split
          · exact bs_in hz.2 hb
          · rfl
        obtain ⟨D', g1, g2, g3⟩ := ih (k + 1) (u3 D 28 0 (ts.getD k 0) (k : Int)) (nrF (decide (law = 0)) z (ts.getD k 0)) (by omega) q1 hn2 (by omega) (h.fq fr1) (by rw [u3_t (by omega), hh, hb2]) (by
          rcases hl01 with l0 | l1
          · subst l0
            rw [if_pos rfl] at ho ⊢
            have e : nrF (decide ((0 : Int) = 0)) z (ts.getD k 0) = (hrV z.1 (ts.getD k 0), z.2) := by
              unfold nrF
              rw [if_pos hb, if_pos (by decide)]
            rw [e]
            refine ordL.hr hz.2.1 ho fun u => ?_
            rw [u3_a]
            by_cases e : u = ts.getD k 0
            · rw [if_pos ⟨rfl, rfl, e⟩, if_pos e]
            · rw [if_neg (fun z => e z.2.2), if_neg e]
          · subst l1
            rw [if_neg (by omega)] at ho ⊢
            have e : nrF (decide ((1 : Int) = 0)) z (ts.getD k 0) = z := by
              unfold nrF
              rw [if_pos hb, if_neg (by decide)]
            rw [e]
            have : u3 D 28 0 (ts.getD k 0) (k : Int) 29 0 = D 29 0 := by funext u; rw [u3_t (by omega)]
            rw [this]
            exact ho.up)
        rw [e2] at g1
        exact ⟨D', g1, g2, fr1.tr g3⟩
      · have e : nrF (decide (law = 0)) z (ts.getD k 0) = (hrV z.1 (ts.getD k 0), z.2 + 1) := by
          unfold nrF
          rw [if_neg hb]
        obtain ⟨D1, a1, a2, a3, a4, a5⟩ := s_M_new (X := X) (d := d) (D := D) (r := r) (k := k) (s := bs (cL z.1)) (c := z.2) (n := n) (law := law) (f := fun t => 100 - (if law = 0 then D 28 0 else D 29 0) t) (ts := ts) (by omega) h1 hr h40 hts (by omega) h2 hs h hh (by rw [bs_bit]; intro w; exact hb (of_decide_eq_true w)) (fun t _ htb => by
          rw [bs_bit] at htb
          have := ho.1 t (of_decide_eq_true htb)
          refine ⟨by omega, ?_⟩
          rcases hl01 with l0 | l1
          · subst l0
            exact Or.inl ⟨rfl, by rw [if_pos rfl]⟩
          · subst l1
            exact Or.inr (Or.inl ⟨rfl, by rw [if_neg (by omega)]⟩))
        rw [← hn, frS_hr hz hb ho (fun _ _ => rfl)] at a2
        obtain ⟨D', g1, g2, g3⟩ := ih (k + 1) D1 (hrV z.1 (ts.getD k 0), z.2 + 1) (by omega) (by rw [e] at q1; exact q1) hn (by omega) (h.fq a5) a2 (by
          refine ordL.hr hz.2.1 ho fun u => ?_
          by_cases l0 : law = 0
          · rw [if_pos l0, if_pos l0, a3]
          · rw [if_neg l0, if_neg l0, a4])
        rw [a1, e]
        exact ⟨D', g1, g2, a5.tr g3⟩
  have fr0 : fr fQ D (u3 D 12 0 21 0) := (fr.rf D).u ⟨rfl, Or.inl ⟨rfl, rfl⟩⟩
  rw [e_M_freshOf, b_M_freshOf_0]
  obtain ⟨D', g1, g2, g3⟩ := key ts.length 0 (u3 D 12 0 21 0) (emV n, 0) (by omega) (okc.em h1 h9) rfl (Nat.le_refl _) (h.fq fr0) (by rw [u3_eq]; rfl) ⟨fun u hu => (by cases hu), List.Pairwise.nil⟩
  rw [List.drop_zero] at g1 g2
  exact ⟨D', g1, g2, fr0.tr g3⟩
theorem pc_or {s t : Nat} (hs : s < 65536) (ht : t < 16) : pc (s ||| 2 ^ t) ≤ pc s + 1 := by
  have hp9 : 2 ^ t < 2 ^ 16 := zb_p2 ht
  have : (els (s ||| 2 ^ t)).length ≤ (t :: els s).length := by
    refine List.Nodup.length_le_of_subset (els_nd _) fun x hx => ?_
    have := (els_mem (Nat.or_lt_two_pow (n := 16) hs hp9)).mp hx
    rw [Nat.testBit_or, Nat.testBit_two_pow] at this
    by_cases e : t = x
    · rw [e]; exact List.mem_cons_self
    · rw [decide_eq_false e, Bool.or_false] at this
      exact List.mem_cons_of_mem _ ((els_mem hs).mpr this)
  exact this
theorem pc_nd {s w : Nat} (hs : s < 65536) (hw : s.testBit w = true) : pc (nd s (2 ^ w)) + 1 ≤ pc s := by
  have : pc (nd s (2 ^ w)) < pc s := by
    refine pc_lt hs (fun i hi => ?_) (fun e => ?_)
    · rw [nd_bit] at hi
      exact (Bool.and_eq_true_iff.mp hi).1
    · have h2 := congrArg (fun z => Nat.testBit z w) e
      simp only [nd_bit, hw, Nat.testBit_two_pow_self] at h2
      cases h2
  exact this
theorem s_M_fresh2 {X : Nat × (Nat → Int)} {d : Nat} {D : DD} {r n : Nat} {ts : List Nat} (hd : 4 ≤ d) (h1 : 1 ≤ n) (hr : r < 4) (h40 : ts.length ≤ 40) (hts : ∀ t ∈ ts, t < 16) (h : MR D r ts) : ∃ D', ev X d m_M_freshOf [vR 12 0, vI (r : Int), vI (n : Int), vI 2] (hp D) = some (some (vI ((fsV ts n).2 : Int)), hp D') ∧ fr fQ D D' := by
  obtain ⟨d, rfl⟩ : ∃ e, d = e + 1 := ⟨d - 1, by omega⟩
  have key : ∀ (m k : Nat) (D : DD) (z : Nat × Nat), k + m = ts.length → z.1 < 65536 → pc z.1 ≤ n → z.2 ≤ k → MR D r ts → D 12 0 21 = (z.1 : Int) → ∃ D', at_ X d cd_M_freshOf 11 [vR 12 0, vI (r : Int), vI (n : Int), vI 2, vI (z.2 : Int), vI (k : Int), vU] [] (hp D) = some (some (vI ((fsU ts n m k z).2 : Int)), hp D') ∧ fr fQ D D' := by
    intro m
    induction m with
    | zero =>
      intro k D z hk hz hn h2 h hh
      rw [b_M_freshOf_11, if_pos (by omega), Int.toNat_natCast, h.1, if_pos (by omega)]
      exact ⟨D, rfl, fr.rf D⟩
    | succ m ih =>
      intro k D z hk hz hn h2 h hh
      have ht := hts _ (say_mem (l := ts) (k := k) (by omega))
      obtain ⟨q1, q2⟩ := fsF_lt (n := n) (z := z) ht hz
      rw [fsU]
      by_cases hb : z.1.testBit (ts.getD k 0) = true
      · have e : fsF ts n z k = z := by unfold fsF; rw [if_pos hb]
        have fr1 : fr fQ D (u3 D 28 0 (ts.getD k 0) (k : Int)) := (fr.rf D).u ⟨rfl, Or.inr (Or.inl rfl)⟩
        rw [s_M_in hr h40 hts (by omega) hz h hh hb, e]
        obtain ⟨D', g1, g2⟩ := ih (k + 1) _ z (by omega) hz hn (by omega) (h.fq fr1) (by rw [u3_t (by omega), hh])
        exact ⟨D', g1, fr1.tr g2⟩
      · obtain ⟨D1, a1, a2, a3, a4, a5⟩ := s_M_new (X := X) (d := d) (D := D) (r := r) (k := k) (s := z.1) (c := z.2) (n := n) (law := 2) (f := fun t => (nx ts k t : Int)) (ts := ts) (by omega) h1 hr h40 hts (by omega) h2 hz h hh hb (fun t _ htb => by
          have := nx_ge (ts := ts) (i := k) (t := t) (by omega)
          exact ⟨by omega, Or.inr (Or.inr ⟨by omega, by omega, rfl⟩)⟩)
        have e : fsF ts n z k = (frS z.1 n (ts.getD k 0) (fun t => (nx ts k t : Int)), z.2 + 1) := by
          unfold fsF frS
          rw [if_neg hb]
          by_cases hp1 : pc z.1 = n
          · rw [if_pos (by omega), if_pos hp1]
            obtain ⟨_, _, v3⟩ := vc_FA (f := fun t => (nx ts k t : Int)) hz (pc_0 (by omega))
            obtain ⟨_, _, v4⟩ := vc_FA (f := fun t => (nx ts (k + 1) t : Int)) hz (pc_0 (by omega))
            have v5 := FA_cg (g := fun t => (nx ts (k + 1) t : Int)) v3 (fun u hu => by
              show (nx ts k u : Int) = (nx ts (k + 1) u : Int)
              rw [nx_s (by omega) (fun w => hb (w ▸ hu))])
            rw [FA_uniq v5 v4]
          · rw [if_neg (by omega), if_neg hp1]
        have hn2 : pc (frS z.1 n (ts.getD k 0) (fun t => (nx ts k t : Int))) ≤ n := by
          unfold frS
          by_cases hp1 : pc z.1 = n
          · obtain ⟨_, _, v3⟩ := vc_FA (f := fun t => (nx ts k t : Int)) hz (pc_0 (by omega))
            rw [if_pos hp1]
            have b1 := pc_nd hz v3.1
            have b2 := pc_or (s := nd z.1 (2 ^ vcN z.1 (fun t => (nx ts k t : Int)))) (nd_lt (k := 16) hz) ht
            omega
          · rw [if_neg hp1]
            have b2 := pc_or hz ht
            omega
        rw [e] at q1 ⊢
        obtain ⟨D', g1, g2⟩ := ih (k + 1) D1 (frS z.1 n (ts.getD k 0) (fun t => (nx ts k t : Int)), z.2 + 1) (by omega) q1 hn2 (by omega) (h.fq a5) a2
        rw [a1]
        exact ⟨D', g1, a5.tr g2⟩
  have fr0 : fr fQ D (u3 D 12 0 21 0) := (fr.rf D).u ⟨rfl, Or.inl ⟨rfl, rfl⟩⟩
  rw [e_M_freshOf, b_M_freshOf_0]
  obtain ⟨D', g1, g2⟩ := key ts.length 0 (u3 D 12 0 21 0) (0, 0) (by omega) (by omega) (by show 0 ≤ n; omega) (Nat.le_refl _) (h.fq fr0) (by rw [u3_eq]; rfl)
  exact ⟨D', g1, fr0.tr g2⟩
theorem s_M_freshOf {X : Nat × (Nat → Int)} {d : Nat} {D : DD} {r n : Nat} {law : Int} {ts : List Nat} (hd : 4 ≤ d) (hl : 0 ≤ law ∧ law ≤ 2) (h1 : 1 ≤ n) (h9 : n ≤ 9) (hr : r < 4) (h40 : ts.length ≤ 40) (hts : ∀ t ∈ ts, t < 16) (h : MR D r ts) : ∃ D', ev X d m_M_freshOf [vR 12 0, vI (r : Int), vI (n : Int), vI law] (hp D) = some (some (vI (frN ts n law : Int)), hp D') ∧ (law ≠ 2 → D' 12 0 21 = (bs (cL (nrV (decide (law = 0)) n ts).1) : Int)) ∧ fr fQ D D' := by
  unfold frN
  by_cases e : law = 2
  · subst e
    obtain ⟨D', g1, g2⟩ := s_M_fresh2 (X := X) (D := D) hd h1 hr h40 hts h
    rw [if_pos rfl]
    exact ⟨D', g1, fun z => absurd rfl z, g2⟩
  · obtain ⟨D', g1, g2, g3⟩ := s_M_fresh01 (X := X) (D := D) (law := law) hd (by omega) h1 h9 hr h40 hts h
    rw [if_neg e]
    exact ⟨D', g1, fun _ => g2, g3⟩
-- what comes through
/-- the told ones -/
def TL (D : DD) (ts : List Nat) : Prop := ∀ k, k < ts.length → D 30 0 k = (ts.getD k 0 : Nat)
theorem s_M_tellsRow {X : Nat × (Nat → Int)} {d : Nat} {D : DD} {r : Nat} {ts : List Nat} (hd : 1 ≤ d) (hr : r < 4) (h40 : ts.length ≤ 40) (hts : ∀ t ∈ ts, t < 16) (h : MR D r ts) : ∃ D', ev X d m_M_tellsRow [vR 12 0, vI (r : Int)] (hp D) = some (none, hp D') ∧ TL D' ts ∧ fr (fun t i _ => t = 30 ∧ i = 0) D D' := by
  obtain ⟨d, rfl⟩ : ∃ e, d = e + 1 := ⟨d - 1, by omega⟩
  have key : ∀ (m k : Nat) (D1 : DD), k + m = ts.length → fr (fun t i _ => t = 30 ∧ i = 0) D D1 → (∀ j, j < k → D1 30 0 j = (ts.getD j 0 : Nat)) → ∃ D', at_ X d cd_M_tellsRow 2 [vR 12 0, vI (r : Int), vI (k : Int)] [] (hp D1) = some (none, hp D') ∧ TL D' ts ∧ fr (fun t i _ => t = 30 ∧ i = 0) D D' := by
    intro m
    induction m with
    | zero =>
      intro k D1 hk hf hj
      have h := h.on (D' := D1) fun t k ht => hf t 0 k (by omega)
      rw [b_M_tellsRow_2, if_pos (by omega), Int.toNat_natCast, h.1, if_pos (by omega)]
      exact ⟨D1, rfl, fun j hj' => hj j (by omega), hf⟩
    | succ m ih =>
      intro k D1 hk hf hj
      have h := h.on (D' := D1) fun t k ht => hf t 0 k (by omega)
      have ht := hts _ (say_mem (l := ts) (k := k) (by omega))
      rw [b_M_tellsRow_2, if_pos (by omega), Int.toNat_natCast, h.1, if_neg (by omega), zb_w (n := 40 * (r : Int)) (by omega) (by omega), zb_w (n := 40 * (r : Int) + (k : Int)) (by omega) (by omega), if_pos (by omega), if_pos (by omega), tn (x := 40 * (r : Int) + (k : Int)) (n := 40 * r + k) (by omega), h.2 k (by omega), Int.toNat_natCast, zb_s (by omega)]
      refine ih (k + 1) _ (by omega) (hf.u ⟨rfl, rfl⟩) fun j hj' => ?_
      rw [u3_a]
      by_cases e : j = k
      · rw [if_pos ⟨rfl, rfl, e⟩, e, zb_w (by omega) (by omega)]
      · rw [if_neg (fun z => e z.2.2)]
        exact hj j (by omega)
  rw [e_M_tellsRow, b_M_tellsRow_0]
  exact key ts.length 0 D (by omega) (fr.rf D) (fun j hj => by omega)
def tQ : Nat → Nat → Nat → Prop := fun t i k => mP (mB 6) t i k ∨ t = 26
theorem s_M_throughOf {X : Nat × (Nat → Int)} {d : Nat} {D : DD} {n inn : Nat} {ts : List Nat} {L : Nat → Nat} (hd : 7 ≤ d) (hL : LOK L) (hl : LM D L) (h1 : 1 ≤ n) (h9 : n ≤ 9) (h40 : ts.length ≤ 40) (hts : ∀ t ∈ ts, t < 16) (hi : inn < 10) (h : TL D ts) : ∃ D', ev X d m_M_throughOf [vR 12 0, vI (ts.length : Int), vI (n : Int), vI (inn : Int)] (hp D) = some (some (vI (thV L n ts inn : Int)), hp D') ∧ fr tQ D D' := by
  obtain ⟨d, rfl⟩ : ∃ e, d = e + 1 := ⟨d - 1, by omega⟩
  have key : ∀ (m k : Nat) (D : DD) (v : Cr) (v2 : ab_V), k + m = ts.length → LM D L → okc v → MC D (mB 6) v → TL D ts → ∃ D', at_ X d cd_M_throughOf 10 [vR 12 0, vI (ts.length : Int), v2, vI (inn : Int), vI (k : Int)] [] (hp D) = some (some (vI ((delV L (walkV L (hrs v (ts.drop k)) inn)).2 : Int)), hp D') ∧ fr tQ D D' := by
    intro m
    induction m with
    | zero =>
      intro k D v v2 hk hl hv hm ht
      obtain ⟨D1, a1, a2, a3⟩ := s_M_walk (X := X) (d := d) (D := D) (c := 6) (by omega) (by omega) hL hl hv hm hi
      have hl1 := hl.fm (b := mB 6) (by decide) a3
      have a1 : ev X d m_M_walk [vR 12 0, vI 6, vI (inn : Int)] (hp D) = _ := a1
      obtain ⟨D2, b1, b2, b3⟩ := s_M_deliver (X := X) (d := d) (D := D1) (c := 6) (by omega) (by omega) hL hl1 (hv.walk hL hi) a2
      have b1 : ev X d m_M_deliver [vR 12 0, vI 6] (hp D1) = _ := b1
      rw [List.drop_eq_nil_of_le (by omega), b_M_throughOf_10, if_pos (by omega), a1]
      simp only [ab_ci]
      rw [b_M_throughOf_43, b1]
      simp only [ab_ci]
      rw [b_M_throughOf_50]
      exact ⟨D2, rfl, (a3.mo fun t i k z => Or.inl z).tr b3⟩
    | succ m ih =>
      intro k D v v2 hk hl hv hm ht
      have h16 := hts _ (say_mem (l := ts) (k := k) (by omega))
      obtain ⟨D1, a1, a2, a3⟩ := s_M_hear (X := X) (d := d) (D := D) (c := 6) (t := ts.getD k 0) (by omega) (by omega) hv hm h16
      have a1 : ev X d m_M_hear [vR 12 0, vI 6, vI ((ts.getD k 0 : Nat) : Int)] (hp D) = _ := a1
      rw [drop_gN (show k < ts.length by omega), b_M_throughOf_10, if_neg (by omega), if_pos (by omega), Int.toNat_natCast, ht k (by omega), a1]
      simp only [ab_ci]
      rw [b_M_throughOf_29, zb_s (by omega)]
      obtain ⟨D', g1, g2⟩ := ih (k + 1) D1 (hrV v (ts.getD k 0)) vU (by omega) (hl.fm (b := mB 6) (by decide) a3) (hv.hr h16) a2 (fun j hj => (a3 30 0 j (by unfold mP; omega)).trans (ht j hj))
      exact ⟨D', g1, (a3.mo fun t i k z => Or.inl z).tr g2⟩
  obtain ⟨D1, a1, a2, a3⟩ := s_M_empties (X := X) (d := d) (D := D) (c := 6) (n := n) (by omega) (by omega)
  have a1 : ev X d m_M_empties [vR 12 0, vI 6, vI (n : Int)] (hp D) = _ := a1
  rw [e_M_throughOf, b_M_throughOf_0, a1]
  simp only [ab_cv]
  rw [b_M_throughOf_7]
  obtain ⟨D', g1, g2⟩ := key ts.length 0 D1 (emV n) _ (by omega) (hl.fm (b := mB 6) (by decide) a3) (okc.em h1 h9) a2 (fun j hj => (a3 30 0 j (by unfold mP; omega)).trans (h j hj))
  rw [List.drop_zero] at g1
  exact ⟨D', g1, (a3.mo fun t i k z => Or.inl z).tr g2⟩
end
