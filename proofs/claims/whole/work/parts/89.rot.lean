/-! rotation, reversal, area, and the list without its straight corners -/
theorem rgn_rot {A B : List PT} : (gx_simple (rgn (A ++ B)) → gx_simple (rgn (B ++ A))) ∧ ∀ z, gx_wn (rgn (B ++ A)) z = gx_wn (rgn (A ++ B)) z := by
  cases A with
  | nil => rw [List.nil_append, List.append_nil]; exact ⟨id, fun _ => rfl⟩
  | cons a A =>
    cases B with
    | nil => rw [List.nil_append, List.append_nil]; exact ⟨id, fun _ => rfl⟩
    | cons b B =>
      have e1 : rgn (a :: A ++ b :: B) = gx_sd (ig_c a) (A.map ig_c) (ig_c b) ++ gx_sd (ig_c b) (B.map ig_c) (ig_c a) := by
        unfold rgn; rw [List.map_append]; exact gx_ringOf_app _ _ _ _
      have e2 : rgn (b :: B ++ a :: A) = gx_sd (ig_c b) (B.map ig_c) (ig_c a) ++ gx_sd (ig_c a) (A.map ig_c) (ig_c b) := by
        unfold rgn; rw [List.map_append]; exact gx_ringOf_app _ _ _ _
      rw [e1, e2]
      refine ⟨gx_simple_rot, fun z => ?_⟩
      rw [gx_wn_app, gx_wn_app]; omega
theorem rgn_rev {l : List PT} : (gx_simple (rgn l) → gx_simple (rgn l.reverse)) ∧ ∀ z, gx_wn (rgn l.reverse) z = - gx_wn (rgn l) z := by
  cases l with
  | nil => exact ⟨id, fun _ => rfl⟩
  | cons a r =>
    have h1 : gx_rev (rgn (a :: r)) = rgn (a :: r.reverse) := by
      show gx_rev (gx_sd (ig_c a) (r.map ig_c) (ig_c a)) = gx_sd (ig_c a) (r.reverse.map ig_c) (ig_c a)
      rw [gx_sd_rev, List.map_reverse]
    have h2 := rgn_rot (A := [a]) (B := r.reverse)
    rw [List.reverse_cons]
    refine ⟨fun h => h2.1 ?_, fun z => ?_⟩
    · have := gx_simple_rev h
      rw [h1] at this
      exact this
    · rw [h2.2]
      show gx_wn (rgn (a :: r.reverse)) z = _
      rw [← h1, gx_wn_rev]
theorem rgn_nodup {l : List PT} (h : gx_simple (rgn l)) : l.Nodup := by
  have hp := rgn_pw.mp h.1
  unfold List.Nodup
  rw [List.pairwise_iff_getElem]
  intro i j hi hj hij e
  have := hp i j hij hj 0 0 (by grind) (by grind) (by grind) (by grind)
  rw [gx_at0, gx_at0, ig_at_lt hi, ig_at_lt hj, e] at this
  exact this rfl
def ig_ar (p q : PT) : Int := p.1 * q.2 - q.1 * p.2
def ig_area (l : List PT) : Int := gx_S (fun k => ig_ar (ig_at l k) (ig_at l (k + 1))) l.length
theorem gx_area_range (f : Nat → PT) (n : Nat) : gx_area ((List.range n).map (fun i => (ig_c (f i), ig_c (f (i + 1))))) = ((gx_S (fun k => ig_ar (f k) (f (k + 1))) n : Int) : Rat) := by
  induction n with
  | zero => simp [gx_area, gx_S]
  | succ n ih =>
    rw [List.range_succ, List.map_append, gx_area_app, ih]
    simp only [List.map_cons, List.map_nil, gx_area, gx_S, ig_c, ig_ar]
    rw [Rat.intCast_add, Rat.intCast_sub, Rat.intCast_mul, Rat.intCast_mul]
    grind
theorem ig_area_c (l : List PT) : gx_area (rgn l) = ((ig_area l : Int) : Rat) := by
  rw [rgn_ix]; exact gx_area_range _ _
theorem ig_natc {x : Int} (h : 0 ≤ x) : ((x : Int) : Rat) = ((x.toNat : Nat) : Rat) := by
  obtain ⟨m, hm⟩ := Int.eq_ofNat_of_zero_le h
  subst hm
  first | rfl | exact Rat.intCast_natCast m
theorem nodup_ix {l : List PT} (h : l.Nodup) {i j : Nat} (hi : i < l.length) (hj : j < l.length) (e : l[i] = l[j]) : i = j := by
  unfold List.Nodup at h
  rw [List.pairwise_iff_getElem] at h
  rcases Nat.lt_trichotomy i j with c | c | c
  · exact absurd e (h i j hi hj c)
  · exact c
  · exact absurd e.symm (h j i hj hi c)
theorem rgn_nat {l : List PT} (hl : ∀ p ∈ l, ig_ok p) : gx_nat 20000 (rgn l) := by
  intro s hs
  have hn : l ≠ [] := by intro k; subst k; simp [rgn, gx_ringOf] at hs
  obtain ⟨i, hi, e⟩ := rgn_mem.mp hs
  have o1 := ig_at_ok hl hn i
  have o2 := ig_at_ok hl hn (i + 1)
  unfold ig_ok at o1 o2
  rw [e]
  refine ⟨?_, ?_, (ig_at l i).2.toNat, (ig_at l (i + 1)).2.toNat, ?_, ?_, by omega, by omega⟩
  · exact (ig_le 0 _).mpr o1.1
  · exact (ig_le 0 _).mpr o2.1
  · exact ig_natc o1.2.2.1
  · exact ig_natc o2.2.2.1
/-- the sense of a simple ring -/
theorem rgn_sense {l : List PT} (hl : ∀ p ∈ l, ig_ok p) (h : gx_simple (rgn l)) (h0 : l ≠ []) : (0 < ig_area l ∧ ∀ z, 0 ≤ gx_wn (rgn l) z) ∨ (ig_area l < 0 ∧ ∀ z, gx_wn (rgn l) z ≤ 0) := by
  have n0 : rgn l ≠ [] := by
    intro k
    have := rgn_len l
    rw [k] at this
    exact h0 (List.length_eq_zero_iff.mp this.symm)
  rcases gx_sense h n0 with r | r
  · left
    have := gx_area_pos h n0 r (rgn_nat hl)
    rw [ig_area_c] at this
    refine ⟨Rat.intCast_pos.mp this, fun z => ?_⟩
    rcases gx_01 h r z with k | k <;> omega
  · right
    have := gx_area_neg h n0 r (rgn_nat hl)
    rw [ig_area_c] at this
    refine ⟨(ig_ltc _ 0).mp this, fun z => ?_⟩
    rcases gx_two h z with k | k <;> omega
/-- l and m are one ring, begun elsewhere -/
def rote (l m : List PT) : Prop := l.length = m.length ∧ ∃ s, ∀ k, ig_at m k = ig_at l (s + k)
theorem rote_refl (l : List PT) : rote l l := ⟨rfl, 0, fun k => by rw [Nat.zero_add]⟩
theorem rote_trans {l m n : List PT} (h : rote l m) (g : rote m n) : rote l n := by
  obtain ⟨e1, s, h⟩ := h
  obtain ⟨e2, t, g⟩ := g
  exact ⟨e1.trans e2, s + t, fun k => by rw [g, h, Nat.add_assoc]⟩
theorem ig_at_mul (l : List PT) (k i : Nat) : ig_at l (k * l.length + i) = ig_at l i := by
  unfold ig_at; rw [Nat.mul_add_mod_self_right]
theorem rote_symm {l m : List PT} (h : rote l m) : rote m l := by
  obtain ⟨e1, s, h⟩ := h
  refine ⟨e1.symm, s * l.length - s, fun k => ?_⟩
  rw [h]
  by_cases c : l.length = 0
  · have : l = [] := List.length_eq_zero_iff.mp c
    subst this; rfl
  · have : s + (s * l.length - s + k) = s * l.length + k := by
      have : s * 1 ≤ s * l.length := Nat.mul_le_mul_left s (by omega)
      omega
    rw [this, ig_at_mul]
theorem ig_at_rot (A B : List PT) (k : Nat) : ig_at (B ++ A) k = ig_at (A ++ B) (A.length + k) := by
  by_cases c : (A ++ B).length = 0
  · have h : A ++ B = [] := List.length_eq_zero_iff.mp c
    have h1 := (List.append_eq_nil_iff.mp h).1
    have h2 := (List.append_eq_nil_iff.mp h).2
    subst h1; subst h2; rfl
  · unfold ig_at
    have hl : (B ++ A).length = (A ++ B).length := by simp [Nat.add_comm]
    rw [hl]
    have hk : k % (A ++ B).length < (A ++ B).length := Nat.mod_lt _ (by omega)
    have e : (A.length + k) % (A ++ B).length = (A.length + k % (A ++ B).length) % (A ++ B).length := by
      rw [Nat.add_mod_mod]
    rw [e]
    generalize k % (A ++ B).length = j at hk
    rw [List.length_append] at hk ⊢
    by_cases c2 : j < B.length
    · rw [Nat.mod_eq_of_lt (by omega)]
      rw [List.getD_eq_getElem?_getD, List.getD_eq_getElem?_getD, List.getElem?_append_left c2, List.getElem?_append_right (by omega), Nat.add_sub_cancel_left]
    · have : (A.length + j) % (A.length + B.length) = j - B.length := by
        have e3 : A.length + j = (j - B.length) + (A.length + B.length) := by omega
        rw [e3, Nat.add_mod_right, Nat.mod_eq_of_lt (by omega)]
      rw [this]
      rw [List.getD_eq_getElem?_getD, List.getD_eq_getElem?_getD, List.getElem?_append_right (by omega), List.getElem?_append_left (by omega)]
theorem rote_app (A B : List PT) : rote (A ++ B) (B ++ A) := ⟨by simp [Nat.add_comm], A.length, ig_at_rot A B⟩
theorem list_eq_at {l m : List PT} (e : l.length = m.length) (h : ∀ k, k < l.length → ig_at m k = ig_at l k) : l = m := by
  apply List.ext_getElem e
  intro i h1 h2
  have := h i h1
  rw [ig_at_lt h1, ig_at_lt h2] at this
  exact this.symm
theorem rote_out {l m : List PT} (h : rote l m) : ∃ A B, l = A ++ B ∧ m = B ++ A := by
  obtain ⟨e, s, h⟩ := h
  by_cases c : l.length = 0
  · have h1 : l = [] := List.length_eq_zero_iff.mp c
    have h2 : m = [] := List.length_eq_zero_iff.mp (by omega)
    exact ⟨[], [], by rw [h1]; rfl, by rw [h2]; rfl⟩
  · have hs : s % l.length < l.length := Nat.mod_lt _ (by omega)
    refine ⟨l.take (s % l.length), l.drop (s % l.length), (List.take_append_drop _ _).symm, ?_⟩
    have r := rote_app (l.take (s % l.length)) (l.drop (s % l.length))
    refine (list_eq_at ?_ (fun k hk => ?_)).symm
    · simp; omega
    · have q : ∀ k, ig_at (l.drop (s % l.length) ++ l.take (s % l.length)) k = ig_at l (s % l.length + k) := by
        intro k
        have hl : l.length = (l.drop (s % l.length) ++ l.take (s % l.length)).length := by simp; omega
        by_cases ck : True
        · have hA : (l.take (s % l.length)).length = s % l.length := by simp; omega
          have := r
          unfold ig_at
          rw [← hl]
          have hk : k % l.length < l.length := Nat.mod_lt _ (by omega)
          have e2 : (s % l.length + k) % l.length = (s % l.length + k % l.length) % l.length := by rw [Nat.add_mod_mod]
          rw [e2]
          generalize k % l.length = j at hk
          generalize s % l.length = x at hs hA
          have hd : (l.drop x).length = l.length - x := by simp
          by_cases c2 : j < l.length - x
          · rw [Nat.mod_eq_of_lt (by omega), List.getD_eq_getElem?_getD, List.getD_eq_getElem?_getD, List.getElem?_append_left (by omega), List.getElem?_drop]
          · have : (x + j) % l.length = j - (l.length - x) := by
              have e3 : x + j = (j - (l.length - x)) + l.length := by omega
              rw [e3, Nat.add_mod_right, Nat.mod_eq_of_lt (by omega)]
            rw [this, List.getD_eq_getElem?_getD, List.getD_eq_getElem?_getD, List.getElem?_append_right (by omega), hd, List.getElem?_take_of_lt (by omega)]
        · exact absurd trivial ck
      rw [h, q, ← ig_at_mod l (s + k), ← ig_at_mod l (s % l.length + k), Nat.mod_add_mod]
theorem rote_simple {l m : List PT} (h : rote l m) (g : gx_simple (rgn l)) : gx_simple (rgn m) := by
  obtain ⟨A, B, e1, e2⟩ := rote_out h
  rw [e1] at g; rw [e2]; exact rgn_rot.1 g
theorem rote_wn {l m : List PT} (h : rote l m) (z : Rat × Rat) : gx_wn (rgn m) z = gx_wn (rgn l) z := by
  obtain ⟨A, B, e1, e2⟩ := rote_out h
  rw [e1, e2]; exact rgn_rot.2 z
theorem rote_mem {l m : List PT} (h : rote l m) (p : PT) : p ∈ m ↔ p ∈ l := by
  obtain ⟨A, B, e1, e2⟩ := rote_out h
  rw [e1, e2, List.mem_append, List.mem_append, or_comm]
theorem rote_head {l m : List PT} (h : rote l m) (hn : l.Nodup) (e : ig_at l 0 = ig_at m 0) : l = m := by
  obtain ⟨e1, s, h⟩ := h
  by_cases c : l.length = 0
  · have h1 : l = [] := List.length_eq_zero_iff.mp c
    have h2 : m = [] := List.length_eq_zero_iff.mp (by omega)
    rw [h1, h2]
  · have hs : s % l.length < l.length := Nat.mod_lt _ (by omega)
    have e2 : ig_at l 0 = ig_at l (s % l.length) := by rw [e, h, ig_at_mod]; rfl
    rw [ig_at_lt (show 0 < l.length by omega), ig_at_lt hs] at e2
    have e3 : 0 = s % l.length := nodup_ix hn (by omega) hs e2
    refine list_eq_at e1 (fun k hk => ?_)
    rw [h, ← ig_at_mod l (s + k), Nat.add_mod, ← e3, Nat.zero_add, Nat.mod_mod, ig_at_mod]
