/-! by index; the ring as it is kept -/
theorem ig_fl_ix (f : Nat → PT) (m s : Nat) : ig_fl (f s) ((List.range m).map (fun i => f (s + 1 + i))) (f (s + m + 1)) = (List.range m).filterMap (fun i => if ig_turn (f (s + i)) (f (s + i + 1)) (f (s + i + 2)) = 0 then none else some (f (s + i + 1))) := by
  induction m generalizing s with
  | zero => rfl
  | succ m ih =>
    rw [List.range_succ_eq_map, List.map_cons, List.map_map, List.filterMap_cons, List.filterMap_map]
    have e1 : ((fun i => f (s + 1 + i)) ∘ Nat.succ) = fun i => f (s + 1 + 1 + i) := by
      funext i; show f (s + 1 + (i + 1)) = _; congr 1; omega
    have e2 : ((fun i => if ig_turn (f (s + i)) (f (s + i + 1)) (f (s + i + 2)) = 0 then none else some (f (s + i + 1))) ∘ Nat.succ) = fun i => if ig_turn (f (s + 1 + i)) (f (s + 1 + i + 1)) (f (s + 1 + i + 2)) = 0 then none else some (f (s + 1 + i + 1)) := by
      funext i
      show (if ig_turn (f (s + (i + 1))) (f (s + (i + 1) + 1)) (f (s + (i + 1) + 2)) = 0 then none else some (f (s + (i + 1) + 1))) = _
      have a1 : s + (i + 1) = s + 1 + i := by omega
      rw [a1]
    rw [e1, e2]
    have e3 : s + (m + 1) + 1 = s + 1 + m + 1 := by omega
    rw [e3]
    have hh : ((List.range m).map (fun i => f (s + 1 + 1 + i))).headD (f (s + 1 + m + 1)) = f (s + 2) := by
      cases m with
      | zero => rfl
      | succ m => rw [List.range_succ_eq_map]; rfl
    show (if ig_turn (f s) (f (s + 1 + 0)) (((List.range m).map (fun i => f (s + 1 + 1 + i))).headD (f (s + 1 + m + 1))) = 0 then [] else [f (s + 1 + 0)]) ++ ig_fl (f (s + 1 + 0)) ((List.range m).map (fun i => f (s + 1 + 1 + i))) (f (s + 1 + m + 1)) = _
    rw [hh, Nat.add_zero, ih (s + 1)]
    simp only [Nat.add_zero]
    by_cases c : ig_turn (f s) (f (s + 1)) (f (s + 2)) = 0
    · rw [if_pos c, if_pos c]; rfl
    · rw [if_neg c, if_neg c]; rfl
abbrev ig_cst (l : List PT) (i : Nat) : Prop := ig_turn (ig_at l (i + l.length - 1)) (ig_at l i) (ig_at l (i + 1)) = 0
theorem list_range (l : List PT) : (List.range l.length).map (ig_at l) = l := by
  apply List.ext_getElem
  · simp
  · intro i h1 h2
    simp [ig_at_lt h2]
theorem ig_flt_ix (l : List PT) : ig_flt l = (List.range l.length).filterMap (fun i => if ig_cst l i then none else some (ig_at l i)) := by
  cases l with
  | nil => rfl
  | cons a r =>
    have h := ig_fl_ix (fun j => ig_at (a :: r) (j + (a :: r).length - 1)) (a :: r).length 0
    have e1 : (List.range (a :: r).length).map (fun i => (fun j => ig_at (a :: r) (j + (a :: r).length - 1)) (0 + 1 + i)) = a :: r := by
      refine Eq.trans ?_ (list_range (a :: r))
      apply List.map_congr_left
      intro i _
      show ig_at (a :: r) (0 + 1 + i + (a :: r).length - 1) = ig_at (a :: r) i
      have : 0 + 1 + i + (a :: r).length - 1 = i + (a :: r).length := by omega
      rw [this, ig_at_len]
    rw [e1] at h
    have e2 : ig_at (a :: r) (0 + (a :: r).length - 1) = (a :: r).getLastD (0, 0) := by
      rw [ig_at_lt (by simp)]
      rw [List.getLastD_eq_getLast?, List.getLast?_eq_getElem?]
      simp
    have e3 : ig_at (a :: r) (0 + (a :: r).length + 1 + (a :: r).length - 1) = (a :: r).headD (0, 0) := by
      have : 0 + (a :: r).length + 1 + (a :: r).length - 1 = 0 + (a :: r).length + (a :: r).length := by omega
      rw [this, ig_at_len, ig_at_len]
      simp [ig_at]
    rw [e2, e3] at h
    unfold ig_flt
    rw [h]
    congr 1
    funext i
    have a1 : 0 + i + (a :: r).length - 1 = i + (a :: r).length - 1 := by omega
    have a2 : 0 + i + 1 + (a :: r).length - 1 = i + (a :: r).length := by omega
    have a3 : 0 + i + 2 + (a :: r).length - 1 = i + 1 + (a :: r).length := by omega
    simp only [a1, a2, a3, ig_at_len]
theorem ig_flt_id {l : List PT} (h : ∀ i, i < l.length → ¬ ig_cst l i) : ig_flt l = l := by
  rw [ig_flt_ix]
  have : ∀ x : List Nat, (∀ i ∈ x, i < l.length) → x.filterMap (fun i => if ig_cst l i then none else some (ig_at l i)) = x.map (ig_at l) := by
    intro x
    induction x with
    | nil => intro _; rfl
    | cons i x ih =>
      intro hx
      rw [List.filterMap_cons, if_neg (h i (hx i (by simp))), List.map_cons, ih (fun j hj => hx j (by simp [hj]))]
  rw [this _ (fun i hi => List.mem_range.mp hi), list_range]
theorem headD_at (b : PT) (r : List PT) : r.headD b = ig_at (b :: r) 1 := by
  cases r with
  | nil => simp [ig_at]
  | cons c r => simp [ig_at]
theorem lastD_at (b : PT) (r : List PT) : r.getLastD b = ig_at (b :: r) r.length := by
  rw [ig_at_lt (by simp)]
  rw [List.getLastD_eq_getLast?, List.getLast?_eq_getElem?]
  cases r with
  | nil => rfl
  | cons c r => simp
theorem ig_cst_split {A B : List PT} {b : PT} : ig_cst (A ++ b :: B) A.length ↔ ig_turn ((B ++ A).getLastD b) b ((B ++ A).headD b) = 0 := by
  have h := ig_at_rot A (b :: B)
  have e0 := h 0
  rw [headD_at, lastD_at]
  have e1 := h 1
  have e2 := h (B ++ A).length
  have e3 : ig_at (b :: B ++ A) 0 = b := by simp [ig_at]
  rw [e3] at e0
  have e4 : A.length + (B ++ A).length = A.length + (A ++ b :: B).length - 1 := by simp; omega
  rw [e4] at e2
  unfold ig_cst
  rw [show b :: (B ++ A) = b :: B ++ A from rfl, e1, e2, ← Nat.add_zero A.length, ← e0, Nat.add_zero]
theorem ig_split_at {l : List PT} {i : Nat} (h : i < l.length) : l = l.take i ++ ig_at l i :: l.drop (i + 1) ∧ (l.take i).length = i := by
  rw [ig_at_lt h]
  refine ⟨?_, by simp; omega⟩
  rw [List.getElem_cons_drop, List.take_append_drop]
theorem rgn_drop_ix {l : List PT} {i : Nat} (hi : i < l.length) (h : gx_simple (rgn l)) (hs : ig_cst l i) :
    gx_simple (rgn (l.take i ++ l.drop (i + 1))) ∧ (∀ z, gx_wn (rgn (l.take i ++ l.drop (i + 1))) z = gx_wn (rgn l) z) ∧ rote (ig_flt l) (ig_flt (l.take i ++ l.drop (i + 1))) := by
  obtain ⟨e, el⟩ := ig_split_at hi
  generalize l.take i = A at e el ⊢
  generalize l.drop (i + 1) = B at e ⊢
  generalize ig_at l i = b at e
  subst e
  rw [← el] at hs
  exact rgn_drop_at h (ig_cst_split.mp hs)
theorem rgn_flt {l : List PT} (h : gx_simple (rgn l)) : gx_simple (rgn (ig_flt l)) ∧ (∀ z, gx_wn (rgn (ig_flt l)) z = gx_wn (rgn l) z) := by
  generalize hn : l.length = n
  induction n generalizing l with
  | zero =>
    have : l = [] := List.length_eq_zero_iff.mp hn
    subst this; exact ⟨h, fun _ => rfl⟩
  | succ n ih =>
    by_cases c : ∃ i, i < l.length ∧ ig_cst l i
    · obtain ⟨i, hi, hs⟩ := c
      obtain ⟨g1, g2, g3⟩ := rgn_drop_ix hi h hs
      obtain ⟨k1, k2⟩ := ih g1 (by simp; omega)
      exact ⟨rote_simple (rote_symm g3) k1, fun z => by rw [rote_wn (rote_symm g3), k2, g2]⟩
    · rw [ig_flt_id (fun i hi hs => c ⟨i, hi, hs⟩)]
      exact ⟨h, fun _ => rfl⟩
def ig_or (l : List PT) : List PT := if 0 < ig_area l then l else l.reverse
def ig_kept (l K : List PT) : Prop := rote (ig_flt (ig_or l)) K ∧ ∀ p ∈ K, ig_pk (ig_at K 0) ≤ ig_pk p
theorem ig_or_mem {l : List PT} (p : PT) : p ∈ ig_or l ↔ p ∈ l := by
  unfold ig_or; split
  · exact Iff.rfl
  · exact List.mem_reverse
theorem ig_or_len {l : List PT} : (ig_or l).length = l.length := by
  unfold ig_or; split
  · rfl
  · exact List.length_reverse
theorem ig_kept_mem {l K : List PT} (h : ig_kept l K) {p : PT} (hp : p ∈ K) : p ∈ l := (ig_or_mem p).mp ((ig_flt_sub _).subset ((rote_mem h.1 p).mp hp))
theorem ig_kept_len {l K : List PT} (h : ig_kept l K) : K.length ≤ l.length := by
  rw [← h.1.1, ← ig_or_len (l := l)]
  exact (ig_flt_sub _).length_le
theorem ig_or_nodup {l : List PT} (h : l.Nodup) : (ig_or l).Nodup := by
  unfold ig_or; split
  · exact h
  · unfold List.Nodup at h ⊢
    rw [List.pairwise_reverse]
    exact h.imp (fun hab => hab.symm)
theorem ig_kept_uniq {l K K' : List PT} (hl : ∀ p ∈ l, ig_ok p) (hn : l.Nodup) (h : ig_kept l K) (g : ig_kept l K') : K = K' := by
  have hr : rote K K' := rote_trans (rote_symm h.1) g.1
  by_cases c : K = []
  · subst c
    exact (List.length_eq_zero_iff.mp hr.1.symm).symm
  · have c' : K' ≠ [] := by
      intro f; subst f
      exact c (List.length_eq_zero_iff.mp hr.1)
    have m1 := ig_at_mem c 0
    have m2 := ig_at_mem c' 0
    have nd : K.Nodup := by
      have : (ig_flt (ig_or l)).Nodup := List.Nodup.sublist (ig_flt_sub _) (ig_or_nodup hn)
      obtain ⟨A, B, e1, e2⟩ := rote_out h.1
      rw [e1] at this
      rw [e2]
      rw [List.nodup_append] at this ⊢
      exact ⟨this.2.1, this.1, fun a ha b hb e => this.2.2 b hb a ha e.symm⟩
    refine rote_head hr nd ?_
    have l1 := h.2 _ ((rote_mem hr _).mp m2)
    have l2 := g.2 _ ((rote_mem hr _).mpr m1)
    exact (ig_pk_inj (hl _ (ig_kept_mem h m1)) (hl _ (ig_kept_mem g m2))).mp (by omega)
/-- what is kept of a simple ring: simple, counterclockwise, the same land -/
theorem ig_kept_good {l K : List PT} (hl : ∀ p ∈ l, ig_ok p) (hs : gx_simple (rgn l)) (h0 : l ≠ []) (h : ig_kept l K) : gx_simple (rgn K) ∧ (∀ z, 0 ≤ gx_wn (rgn K) z) ∧ (0 < ig_area l → ∀ z, gx_wn (rgn K) z = gx_wn (rgn l) z) ∧ 3 ≤ K.length := by
  have hor : gx_simple (rgn (ig_or l)) := by
    unfold ig_or; split
    · exact hs
    · exact rgn_rev.1 hs
  obtain ⟨f1, f2⟩ := rgn_flt hor
  have k1 := rote_simple h.1 f1
  have k2 : ∀ z, gx_wn (rgn K) z = gx_wn (rgn (ig_or l)) z := fun z => by rw [rote_wn h.1, f2]
  refine ⟨k1, fun z => ?_, fun ha z => ?_, ?_⟩
  · rw [k2]
    unfold ig_or
    rcases rgn_sense hl hs h0 with ⟨a1, a2⟩ | ⟨a1, a2⟩
    · rw [if_pos a1]; exact a2 z
    · rw [if_neg (by omega), rgn_rev.2]; have := a2 z; omega
  · rw [k2]
    unfold ig_or
    rw [if_pos ha]
  · have n0 : rgn K ≠ [] := by
      intro k
      have hk : K.length = 0 := by rw [← rgn_len, k]; rfl
      have hf : (ig_flt (ig_or l)).length = 0 := by rw [h.1.1]; exact hk
      have hw : ∀ z, gx_wn (rgn (ig_or l)) z = 0 := by
        intro z
        rw [← f2, List.length_eq_zero_iff.mp hf]; rfl
      have m0 : rgn (ig_or l) ≠ [] := by
        intro f
        have := rgn_len (ig_or l)
        rw [f, ig_or_len] at this
        exact h0 (List.length_eq_zero_iff.mp this.symm)
      rcases gx_sense hor m0 with r | r
      · have := gx_right (gx_simple_rev hor) (by intro f; rw [← List.length_eq_zero_iff] at f; simp [gx_rev] at f; exact m0 f)
        obtain ⟨z, hz⟩ := this
        rw [gx_wn_rev, hw, gx_rr_rev hor m0, r] at hz
        omega
      · obtain ⟨z, hz⟩ := gx_right hor m0
        rw [hw, r] at hz
        omega
    have := gx_simple3 k1 n0
    rwa [rgn_len] at this
