/-! the reference's hearings -/
section
/-- a row of things, as the reference holds it -/
def MR (D : DD) (r : Nat) (ts : List Nat) : Prop := D 41 0 r = (ts.length : Int) ∧ ∀ k, k < ts.length → D 42 0 (40 * r + k) = (ts.getD k 0 : Nat)
theorem MR.on {D D' : DD} {r : Nat} {ts : List Nat} (h : MR D r ts) (e : ∀ t k, (t = 41 ∨ t = 42) → D' t 0 k = D t 0 k) : MR D' r ts := ⟨(e _ _ (by omega)).trans h.1, fun k hk => (e _ _ (by omega)).trans (h.2 k hk)⟩
theorem nx_s {ts : List Nat} {i t : Nat} (hi : i < ts.length) (h : ts.getD i 0 ≠ t) : nx ts i t = nx ts (i + 1) t := by
  unfold nx
  obtain ⟨m, hm⟩ : ∃ m, ts.length - i = m + 1 := ⟨ts.length - i - 1, by omega⟩
  have e : ts.length - (i + 1) = m := by omega
  rw [hm, e, ff, decide_eq_false h]
  rfl
theorem s_M_nextAt {X : Nat × (Nat → Int)} {d : Nat} {D : DD} {r i t : Nat} {ts : List Nat} (hd : 1 ≤ d) (hr : r < 4) (h40 : ts.length ≤ 40) (hi : i ≤ ts.length) (h : MR D r ts) : ev X d m_M_nextAt [vR 12 0, vI (r : Int), vI (t : Int), vI (i : Int)] (hp D) = some (some (vI (nx ts i t : Int)), hp D) := by
  obtain ⟨d, rfl⟩ : ∃ e, d = e + 1 := ⟨d - 1, by omega⟩
  obtain ⟨n1, n2⟩ := nx_ge (t := t) hi
  have key : ∀ (m k : Nat) (v3 : ab_V), k + m = ts.length → i ≤ k → k ≤ nx ts i t → at_ X d cd_M_nextAt 3 [vR 12 0, vI (r : Int), vI (t : Int), v3, vI (k : Int)] [] (hp D) = some (some (vI (nx ts i t : Int)), hp D) := by
    intro m
    induction m with
    | zero =>
      intro k v3 hk hik hn
      have e : nx ts i t = k := by omega
      rw [b_M_nextAt_3, if_pos (by omega), Int.toNat_natCast, h.1, if_pos (by omega), e]
    | succ m ih =>
      intro k v3 hk hik hn
      have h4 := nx_at (t := t) hik (by omega) hn
      rw [b_M_nextAt_3, if_pos (by omega), Int.toNat_natCast, h.1, if_neg (by omega), zb_w (n := 40 * (r : Int)) (by omega) (by omega), zb_w (n := 40 * (r : Int) + (k : Int)) (by omega) (by omega), if_pos (by omega), tn (n := 40 * r + k) (by omega), h.2 k (by omega)]
      by_cases e : ts.getD k 0 = t
      · rw [if_pos (cmp_eq.mpr (by omega)), h4.mpr e]
      · have : nx ts i t ≠ k := fun z => e (h4.mp z)
        rw [if_neg (fun z => e (by have := cmp_eq.mp z; omega)), zb_s (by omega)]
        exact ih (k + 1) vU (by omega) (by omega) (by omega)
  rw [e_M_nextAt, b_M_nextAt_0]
  exact key (ts.length - i) i _ (by omega) (Nat.le_refl _) n1
def dvM (f : Nat → Int) (o : Option Nat) : Int := match o with
  | none => 0
  | some w => f w
theorem s_M_driven {X : Nat × (Nat → Int)} {d : Nat} {D : DD} {r k s : Nat} {law : Int} {f : Nat → Int} {ts : List Nat} (hd : 2 ≤ d) (hr : r < 4) (h40 : ts.length ≤ 40) (hk : k ≤ ts.length) (hs : s < 65536) (h : MR D r ts) (hh : D 12 0 21 = (s : Int)) (hf : ∀ t, t < 16 → s.testBit t = true → (-1000 ≤ f t ∧ f t ≤ 1000) ∧ ((law = 0 ∧ f t = 100 - D 28 0 t) ∨ (law = 1 ∧ f t = 100 - D 29 0 t) ∨ (law ≠ 0 ∧ law ≠ 1 ∧ f t = (nx ts k t : Int)))) : ev X d m_M_driven [vR 12 0, vI (r : Int), vI (k : Int), vI law] (hp D) = some (some (vI (goI (dvU s f 16))), hp D) := by
  obtain ⟨d, rfl⟩ : ∃ e, d = e + 1 := ⟨d - 1, by omega⟩
  have key : ∀ (m t : Nat), t + m = 16 → at_ X d cd_M_driven 9 [vR 12 0, vI (r : Int), vI (k : Int), vI law, vI (goI (dvU s f t)), vI (dvM f (dvU s f t)), vI (t : Int), vU] [] (hp D) = some (some (vI (goI (dvU s f 16))), hp D) := by
    intro m
    induction m with
    | zero =>
      intro t ht
      have e : t = 16 := by omega
      subst e
      rw [b_M_driven_9, if_pos (by omega)]
    | succ m ih =>
      intro t ht
      have nxt := ih (t + 1) (by omega)
      rw [b_M_driven_9, if_neg (by omega), hh, zb_bit (by omega) (by omega)]
      by_cases hb : s.testBit t = true
      · obtain ⟨⟨f1, f2⟩, f3⟩ := hf t (by omega) hb
        have go : at_ X d cd_M_driven 74 [vR 12 0, vI (r : Int), vI (k : Int), vI law, vI (goI (dvU s f t)), vI (dvM f (dvU s f t)), vI (t : Int), vU] [vI (f t)] (hp D) = some (some (vI (goI (dvU s f 16))), hp D) := by
          rw [b_M_driven_74]
          rw [dvU, if_pos hb] at nxt
          cases ho : dvU s f t with
          | none =>
            rw [ho] at nxt
            rw [show goI none = -1 from rfl, if_pos rfl, b_M_driven_92, b_M_driven_100, zb_s (by omega)]
            exact nxt
          | some w =>
            rw [ho] at nxt
            rw [show goI (some w) = (w : Int) from rfl, show dvM f (some w) = f w from rfl, if_neg (by omega)]
            by_cases e : f w < f t
            · rw [if_pos e, b_M_driven_92, b_M_driven_100, zb_s (by omega)]
              simp only [if_pos e] at nxt
              exact nxt
            · rw [if_neg e, b_M_driven_100, zb_s (by omega)]
              simp only [if_neg e] at nxt
              exact nxt
        rw [if_pos hb, if_pos (by decide)]
        rcases f3 with ⟨l0, e⟩ | ⟨l1, e⟩ | ⟨l0, l1, e⟩
        · subst l0
          rw [if_neg (by omega), if_pos (by omega), Int.toNat_natCast, zb_w (by omega) (by omega), ← e]
          exact go
        · subst l1
          rw [if_pos (by omega), if_neg (by omega), if_pos (by omega), Int.toNat_natCast, zb_w (by omega) (by omega), ← e]
          exact go
        · rw [if_pos l0, if_pos l1, s_M_nextAt (by omega) hr h40 hk h]
          simp only [ab_ci]
          rw [← e]
          exact go
      · rw [if_neg hb, if_neg (by decide), b_M_driven_100, zb_s (by omega)]
        rw [dvU, if_neg hb] at nxt
        exact nxt
  rw [e_M_driven, b_M_driven_0]
  exact key 16 0 (by omega)
def fQ : Nat → Nat → Nat → Prop := fun t i k => i = 0 ∧ ((t = 12 ∧ k = 21) ∨ t = 28 ∨ t = 29)
theorem MR.fq {D D' : DD} {r : Nat} {ts : List Nat} (h : MR D r ts) (e : fr fQ D D') : MR D' r ts := h.on fun t k ht => e t 0 k (by unfold fQ; omega)
theorem FA_cg {s : Nat} {f g : Nat → Int} {w : Nat} (h : FA s f w) (e : ∀ u, s.testBit u = true → f u = g u) : FA s g w := by
  obtain ⟨h1, h2, h3⟩ := h
  refine ⟨h1, fun u hu => ?_, fun u hlt hu => ?_⟩
  · rw [← e u hu, ← e w h1]; exact h2 u hu
  · rw [← e u hu, ← e w h1]; exact h3 u hlt hu
theorem pc_0 {s : Nat} (h : 1 ≤ pc s) : s ≠ 0 := by
  intro e
  subst e
  exact absurd h (by decide)
/-- the set after a new thing came -/
def frS (s n t : Nat) (f : Nat → Int) : Nat := (if pc s = n then nd s (2 ^ vcN s f) else s) ||| 2 ^ t
theorem s_M_in {X : Nat × (Nat → Int)} {d : Nat} {D : DD} {r k s c n : Nat} {law : Int} {ts : List Nat} (hr : r < 4) (h40 : ts.length ≤ 40) (hts : ∀ t ∈ ts, t < 16) (hk : k < ts.length) (hs : s < 65536) (h : MR D r ts) (hh : D 12 0 21 = (s : Int)) (hb : s.testBit (ts.getD k 0) = true) : at_ X d cd_M_freshOf 11 [vR 12 0, vI (r : Int), vI (n : Int), vI law, vI (c : Int), vI (k : Int), vU] [] (hp D) = at_ X d cd_M_freshOf 11 [vR 12 0, vI (r : Int), vI (n : Int), vI law, vI (c : Int), vI ((k + 1 : Nat) : Int), vU] [] (hp (u3 D 28 0 (ts.getD k 0) (k : Int))) := by
  have ht := hts _ (say_mem (l := ts) (k := k) hk)
  rw [b_M_freshOf_11, if_pos (by omega), Int.toNat_natCast, h.1, if_neg (by omega), zb_w (n := 40 * (r : Int)) (by omega) (by omega), zb_w (n := 40 * (r : Int) + (k : Int)) (by omega) (by omega), if_pos (by omega), tn (n := 40 * r + k) (by omega), h.2 k hk]
  generalize ts.getD k 0 = t at ht hb ⊢
  rw [zb_w (n := (t : Int)) (by omega) (by omega), if_pos (by omega), Int.toNat_natCast, u3_t (by omega), hh, zb_bit (by omega) (by omega), if_pos hb, if_neg (by decide), b_M_freshOf_119, zb_s (by omega)]
theorem s_M_new {X : Nat × (Nat → Int)} {d : Nat} {D : DD} {r k s c n : Nat} {law : Int} {f : Nat → Int} {ts : List Nat} (hd : 3 ≤ d) (h1 : 1 ≤ n) (hr : r < 4) (h40 : ts.length ≤ 40) (hts : ∀ t ∈ ts, t < 16) (hk : k < ts.length) (hc : c ≤ k) (hs : s < 65536) (h : MR D r ts) (hh : D 12 0 21 = (s : Int)) (hb : ¬ s.testBit (ts.getD k 0) = true) (hf : ∀ t, t < 16 → s.testBit t = true → (-1000 ≤ f t ∧ f t ≤ 1000) ∧ ((law = 0 ∧ f t = 100 - D 28 0 t) ∨ (law = 1 ∧ f t = 100 - D 29 0 t) ∨ (law ≠ 0 ∧ law ≠ 1 ∧ f t = (nx ts k t : Int)))) : ∃ D', at_ X d cd_M_freshOf 11 [vR 12 0, vI (r : Int), vI (n : Int), vI law, vI (c : Int), vI (k : Int), vU] [] (hp D) = at_ X d cd_M_freshOf 11 [vR 12 0, vI (r : Int), vI (n : Int), vI law, vI ((c + 1 : Nat) : Int), vI ((k + 1 : Nat) : Int), vU] [] (hp D') ∧ D' 12 0 21 = (frS s n (ts.getD k 0) f : Int) ∧ (∀ u, D' 28 0 u = if u = ts.getD k 0 then (k : Int) else D 28 0 u) ∧ (∀ u, D' 29 0 u = if u = ts.getD k 0 then (k : Int) else D 29 0 u) ∧ fr fQ D D' := by
  have ht := hts _ (say_mem (l := ts) (k := k) hk)
  rw [b_M_freshOf_11, if_pos (by omega), Int.toNat_natCast, h.1, if_neg (by omega), zb_w (n := 40 * (r : Int)) (by omega) (by omega), zb_w (n := 40 * (r : Int) + (k : Int)) (by omega) (by omega), if_pos (by omega), tn (n := 40 * r + k) (by omega), h.2 k hk]
  generalize ts.getD k 0 = t at ht hb ⊢
  have hp9 : 2 ^ t < 2 ^ 16 := zb_p2 ht
  have fr1 : fr fQ D (u3 D 28 0 t (k : Int)) := (fr.rf D).u ⟨rfl, Or.inr (Or.inl rfl)⟩
  rw [zb_w (n := (t : Int)) (by omega) (by omega), if_pos (by omega), Int.toNat_natCast, u3_t (by omega), hh, zb_bit (by omega) (by omega), if_neg hb, if_pos (by decide), s_M_bitsOf (by omega) hs]
  simp only [ab_ci]
  rw [zb_s (by omega), b_M_freshOf_72]
  have last : ∀ (D1 : DD) (s1 : Nat), s1 < 65536 → D1 12 0 21 = (s1 : Int) → s1 ||| 2 ^ t = frS s n t f → (∀ u, D1 28 0 u = if u = t then (k : Int) else D 28 0 u) → (∀ u, D1 29 0 u = D 29 0 u) → fr fQ D D1 → ∃ D', at_ X d cd_M_freshOf 97 [vR 12 0, vI (r : Int), vI (n : Int), vI law, vI ((c + 1 : Nat) : Int), vI (k : Int), vI (t : Int)] [] (hp D1) = at_ X d cd_M_freshOf 11 [vR 12 0, vI (r : Int), vI (n : Int), vI law, vI ((c + 1 : Nat) : Int), vI ((k + 1 : Nat) : Int), vU] [] (hp D') ∧ D' 12 0 21 = (frS s n t f : Int) ∧ (∀ u, D' 28 0 u = if u = t then (k : Int) else D 28 0 u) ∧ (∀ u, D' 29 0 u = if u = t then (k : Int) else D 29 0 u) ∧ fr fQ D D' := by
    intro D1 s1 hs1 hh1 hfr g1 g2 g3
    rw [b_M_freshOf_97, if_pos (by omega), Int.toNat_natCast, hh1, zb_sl (by omega), zb_or (by omega) (by omega), hfr, b_M_freshOf_119, zb_s (by omega)]
    refine ⟨_, rfl, ?_, fun u => ?_, fun u => ?_, (g3.u ⟨rfl, Or.inl ⟨rfl, rfl⟩⟩).u ⟨rfl, Or.inr (Or.inr rfl)⟩⟩
    · rw [u3_t (by omega), u3_eq]
    · rw [u3_t (by omega), u3_t (by omega), g1]
    · rw [u3_a]
      by_cases e : u = t
      · rw [if_pos ⟨rfl, rfl, e⟩, if_pos e]
      · rw [if_neg (fun z => e z.2.2), if_neg e, u3_t (by omega), g2]
  by_cases hn : pc s = n
  · obtain ⟨v1, v2, v3⟩ := vc_FA (f := f) hs (pc_0 (by omega))
    have hp8 : 2 ^ vcN s f < 2 ^ 16 := zb_p2 v2
    have hdr := s_M_driven (X := X) (d := d) (D := u3 D 28 0 t (k : Int)) (r := r) (k := k) (s := s) (law := law) (f := f) (ts := ts) (by omega) hr h40 (by omega) hs (h.fq fr1) (by rw [u3_t (by omega), hh]) (fun u hu hub => by
      obtain ⟨a1, a2⟩ := hf u hu hub
      have hne : u ≠ t := fun z => hb (z ▸ hub)
      rw [u3_k hne, u3_t (by omega)]
      exact ⟨a1, a2⟩)
    rw [if_neg (by omega), hdr, v1]
    simp only [ab_ci, goI]
    rw [b_M_freshOf_90, u3_t (by omega), hh, zb_sl (by omega), zb_nd (by omega) (by omega)]
    refine last _ (nd s (2 ^ vcN s f)) (nd_lt (k := 16) hs) (by rw [u3_eq]) ?_ (fun u => ?_) (fun u => ?_) (fr1.u ⟨rfl, Or.inl ⟨rfl, rfl⟩⟩)
    · unfold frS; rw [if_pos hn]
    · rw [u3_t (by omega), u3_a]
      by_cases e : u = t
      · rw [if_pos ⟨rfl, rfl, e⟩, if_pos e]
      · rw [if_neg (fun z => e z.2.2), if_neg e]
    · rw [u3_t (by omega), u3_t (by omega)]
  · rw [if_pos (by omega)]
    refine last _ s hs (by rw [u3_t (by omega), hh]) ?_ (fun u => ?_) (fun u => ?_) fr1
    · unfold frS; rw [if_neg hn]
    · rw [u3_a]
      by_cases e : u = t
      · rw [if_pos ⟨rfl, rfl, e⟩, if_pos e]
      · rw [if_neg (fun z => e z.2.2), if_neg e]
    · rw [u3_t (by omega)]
end
