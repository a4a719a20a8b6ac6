/-! a way is heard as its latest -/
section
def hrN (n : Nat) (l : List Nat) (ts : List Nat) : List Nat := ts.foldl (hrL n) l
def mtf (l : List Nat) (ts : List Nat) : List Nat := ts.foldl hrM l
theorem mtf_nd {l : List Nat} (h : l.Nodup) (ts : List Nat) : (mtf l ts).Nodup := by
  induction ts generalizing l with
  | nil => exact h
  | cons t ts ih => exact ih (hrM_nd h t)
theorem erase_take {Y : List Nat} (n t : Nat) : ((Y.take (n + 1)).erase t).take n = (Y.erase t).take n := by
  induction Y generalizing n with
  | nil => rfl
  | cons y Y ih =>
    rw [List.take_succ_cons]
    by_cases e : y = t
    · subst e
      rw [List.erase_cons_head, List.erase_cons_head, List.take_take, Nat.min_self]
    · rw [List.erase_cons_tail (by simpa using e), List.erase_cons_tail (by simpa using e)]
      cases n with
      | zero => rfl
      | succ n => rw [List.take_succ_cons, List.take_succ_cons, ih n]
theorem hrL_take {Y : List Nat} {n t : Nat} : hrL n (Y.take n) t = (hrM Y t).take n := by
  unfold hrL
  cases n with
  | zero => rfl
  | succ n =>
    show (t :: (Y.take (n + 1)).erase t).take (n + 1) = (t :: Y.erase t).take (n + 1)
    rw [List.take_succ_cons, List.take_succ_cons, erase_take]
theorem hrN_take {n : Nat} (ts : List Nat) : ∀ Y : List Nat, hrN n (Y.take n) ts = (mtf Y ts).take n := by
  induction ts with
  | nil => exact fun Y => rfl
  | cons t ts ih =>
    intro Y
    show hrN n (hrL n (Y.take n) t) ts = (mtf (hrM Y t) ts).take n
    rw [hrL_take]
    exact ih (hrM Y t)
theorem flt_erase {l : List Nat} (hl : l.Nodup) (p : Nat → Bool) (t : Nat) : (l.filter p).erase t = l.filter (fun u => p u && decide (u ≠ t)) := by
  rw [(hl.sublist List.filter_sublist).erase_eq_filter, List.filter_filter]
  congr 1
  funext u
  rw [Bool.and_comm]
  congr 1
  by_cases e : u = t
  · rw [e]; simp
  · simp [e]
theorem hrM_app {Y l : List Nat} (hY : Y.Nodup) (hl : l.Nodup) (t : Nat) : hrM (Y ++ l.filter (fun u => decide (u ∉ Y))) t = hrM Y t ++ l.filter (fun u => decide (u ∉ hrM Y t)) := by
  show t :: (Y ++ l.filter (fun u => decide (u ∉ Y))).erase t = t :: (Y.erase t ++ l.filter (fun u => decide (u ∉ hrM Y t)))
  congr 1
  by_cases ht : t ∈ Y
  · rw [List.erase_append_left _ ht]
    congr 1
    apply List.filter_congr
    intro u _
    have := hrM_mem hY t u
    apply decide_eq_decide.mpr
    constructor
    · intro h z
      rcases this.mp z with w | w
      · exact h (w ▸ ht)
      · exact h w
    · exact fun h z => h (this.mpr (Or.inr z))
  · rw [List.erase_append_right _ ht, List.erase_of_not_mem ht, flt_erase hl]
    congr 1
    apply List.filter_congr
    intro u _
    have := hrM_mem hY t u
    by_cases e : u = t
    · have h1 : u ∈ hrM Y t := this.mpr (Or.inl e)
      rw [decide_eq_false (show ¬ u ≠ t from fun z => z e), Bool.and_false, decide_eq_false (fun z => z h1)]
    · rw [decide_eq_true e, Bool.and_true]
      apply decide_eq_decide.mpr
      constructor
      · intro h z
        rcases this.mp z with w | w
        · exact e w
        · exact h w
      · exact fun h z => h (this.mpr (Or.inr z))
theorem mtf_app {l : List Nat} (hl : l.Nodup) (ts : List Nat) : ∀ Y : List Nat, Y.Nodup → mtf (Y ++ l.filter (fun u => decide (u ∉ Y))) ts = mtf Y ts ++ l.filter (fun u => decide (u ∉ mtf Y ts)) := by
  induction ts with
  | nil => exact fun Y _ => rfl
  | cons t ts ih =>
    intro Y hY
    show mtf (hrM (Y ++ l.filter (fun u => decide (u ∉ Y))) t) ts = mtf (hrM Y t) ts ++ l.filter (fun u => decide (u ∉ mtf (hrM Y t) ts))
    rw [hrM_app hY hl t]
    exact ih (hrM Y t) (hrM_nd hY t)
theorem mtf_l {l : List Nat} (hl : l.Nodup) (ts : List Nat) : mtf l ts = mtf [] ts ++ l.filter (fun u => decide (u ∉ mtf [] ts)) := by
  have h := mtf_app hl ts [] List.nodup_nil
  have e : l.filter (fun u => decide (u ∉ ([] : List Nat))) = l := by
    apply List.filter_eq_self.mpr
    intro a _
    simp
  rw [List.nil_append, e] at h
  exact h
theorem mtf_rev {Y : List Nat} (h : Y.Nodup) : mtf [] Y.reverse = Y := by
  induction Y with
  | nil => rfl
  | cons y Y ih =>
    obtain ⟨h1, h2⟩ := List.nodup_cons.mp h
    unfold mtf at ih ⊢
    rw [List.reverse_cons, List.foldl_append, ih h2]
    show y :: Y.erase y = y :: Y
    rw [List.erase_of_not_mem h1]
theorem lru {n : Nat} {l : List Nat} (hl : l.Nodup) (hn : l.length ≤ n) (ns : List Nat) : hrN n l ns = hrN n l (hrN n [] ns).reverse := by
  have e0 : l.take n = l := List.take_of_length_le hn
  have e1 : hrN n [] ns = (mtf [] ns).take n := by
    have := hrN_take (n := n) ns []
    rw [List.take_nil] at this
    exact this
  have e2 : ∀ ts, hrN n l ts = (mtf l ts).take n := fun ts => by
    have := hrN_take (n := n) ts l
    rw [e0] at this
    exact this
  have hnd := mtf_nd (l := []) List.nodup_nil ns
  rw [e2 ns, e2, e1, mtf_l hl ns, mtf_l hl ((mtf [] ns).take n).reverse, mtf_rev (hnd.sublist (List.take_sublist _ _))]
  generalize mtf [] ns = Y
  by_cases h : n ≤ Y.length
  · rw [List.take_append_of_le_length h, List.take_append_of_le_length (by rw [List.length_take]; omega), List.take_take, Nat.min_self]
  · rw [List.take_of_length_le (l := Y) (by omega)]
-- minds alike
def mLk (v w : Cr) : Prop := cN v = cN w ∧ cL v = cL w
theorem mLk.hr {v w : Cr} (h : mLk v w) (t : Nat) : mLk (hrV v t) (hrV w t) := by
  refine ⟨h.1, ?_⟩
  show hrL (cN v) (cL v) t = hrL (cN w) (cL w) t
  rw [h.1, h.2]
theorem mLk.hs {v w : Cr} (h : mLk v w) (ts : List Nat) : mLk (hrs v ts) (hrs w ts) := by
  induction ts generalizing v w with
  | nil => exact h
  | cons t ts ih => exact ih (h.hr t)
theorem mLk.say {v w : Cr} (h : mLk v w) (L : Nat → Nat) (t : Nat) : mLk (sayV L v t) (sayV L w t) := (h.hr t).hs _
theorem mLk.dl {L : Nat → Nat} (l : List Nat) : ∀ {z y : Cr × Nat}, mLk z.1 y.1 → z.2 = y.2 → mLk (l.foldl (dlF L) z).1 (l.foldl (dlF L) y).1 ∧ (l.foldl (dlF L) z).2 = (l.foldl (dlF L) y).2 := by
  induction l with
  | nil => exact fun h1 h2 => ⟨h1, h2⟩
  | cons t l ih =>
    intro z y h1 h2
    rw [List.foldl_cons, List.foldl_cons]
    refine ih ?_ ?_
    · unfold dlF
      rw [h1.2]
      split
      · exact h1.say L t
      · exact h1
    · unfold dlF
      rw [h1.2]
      split
      · show z.2 ||| _ = y.2 ||| _
        rw [h2]
      · exact h2
theorem mLk.del {v w : Cr} (h : mLk v w) (L : Nat → Nat) : (delV L v).2 = (delV L w).2 := by
  unfold delV
  rw [h.2]
  exact (mLk.dl (L := L) (cL w).reverse (z := (v, 0)) (y := (w, 0)) h rfl).2
theorem hrs_L (ts : List Nat) : ∀ v : Cr, cL (hrs v ts) = hrN (cN v) (cL v) ts := by
  induction ts with
  | nil => exact fun v => rfl
  | cons t ts ih => exact fun v => ih (hrV v t)
def wns (L : Nat → Nat) (to : Nat) : Nat → Nat → List Nat
  | 0, _ => []
  | m + 1, s => nws L (nxI s to) ++ wns L to m (nxI s to)
theorem hrN_app (n : Nat) (l a b : List Nat) : hrN n l (a ++ b) = hrN n (hrN n l a) b := List.foldl_append ..
theorem wkV_L {L : Nat → Nat} {to : Nat} (m : Nat) : ∀ v : Cr, cN (wkV L to m v) = cN v ∧ cL (wkV L to m v) = hrN (cN v) (cL v) (wns L to m (cS v)) := by
  induction m with
  | zero => exact fun v => ⟨rfl, rfl⟩
  | succ m ih =>
    intro v
    obtain ⟨h1, h2⟩ := ih (goV L v (nxI (cS v) to))
    have e1 : cN (goV L v (nxI (cS v) to)) = cN v := (hrs_S _ _).2
    have e2 : cS (goV L v (nxI (cS v) to)) = nxI (cS v) to := goV_S ..
    have e3 : cL (goV L v (nxI (cS v) to)) = hrN (cN v) (cL v) (nws L (nxI (cS v) to)) := hrs_L _ (atV v (nxI (cS v) to))
    rw [wkV]
    refine ⟨h1.trans e1, ?_⟩
    rw [h2, e1, e2, e3, wns, hrN_app]
/-- a walk leaves the mind that the way's latest leave -/
theorem walk_lru {L : Nat → Nat} {v w : Cr} {to : Nat} (hv : okc v) (hS : cS w = cS v) (hN : cN w = cN v) (hL : cL w = []) : mLk (walkV L v to) (hrs v (cL (walkV L w to)).reverse) := by
  obtain ⟨h1, h2⟩ := wkV_L (L := L) (to := to) (dst (cS v) to) v
  obtain ⟨g1, g2⟩ := wkV_L (L := L) (to := to) (dst (cS w) to) w
  unfold walkV
  refine ⟨h1.trans ((hrs_S v _).2).symm, ?_⟩
  rw [h2, hrs_L, g2, hN, hL, hS]
  exact lru hv.2.1 hv.2.2.2 _
end
