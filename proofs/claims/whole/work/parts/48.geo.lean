/-! lots that don't overlap: no crossing; joining along a line -/
theorem gx_local {S1 S2 : List ((Rat × Rat) × (Rat × Rat))} {s : (Rat × Rat) × (Rat × Rat)} {t : Rat} (h : gx_simple (S1 ++ s :: S2)) (t0 : 0 < t) (t1 : t < 1) :
    ∃ d : Rat, 0 < d ∧ ∀ z, gx_near (gx_at s.1 s.2 t) z d → gx_turn s.1 s.2 z ≠ 0 → gx_wn (S1 ++ s :: S2) z = gx_rr (S1 ++ s :: S2) + (if 0 < gx_turn s.1 s.2 z then 1 else 0) := by
  have h2 : gx_simple (s :: (S2 ++ S1)) := by have := gx_simple_rot h; simpa using this
  have e2 : gx_rr (S1 ++ s :: S2) = gx_rr (s :: (S2 ++ S1)) := by have := gx_rot h; simpa using this
  obtain ⟨d, d0, hd⟩ := gx_ball (gx_inner h2 t0 t1)
  refine ⟨d, d0, ?_⟩
  intro z hz hne
  have e1 : gx_wn (S1 ++ s :: S2) z = gx_wn (s :: (S2 ++ S1)) z := by rw [gx_wn_app]; simp only [gx_wn, gx_wn_app]; omega
  have hn : gx_near (gx_at s.1 s.2 t) (gx_at s.1 s.2 t) d := by unfold gx_near; grind
  have hsee := gx_see (a := s.1) (b := s.2) (z := z) (Q := S2 ++ S1) t0 t1 rfl (gx_path_head h2) (gx_near_free hd hz hn) hne
  rw [e1, e2]
  have ha := gx_along h2 (t := 1/2) (u := t) (by grind) (by grind) t0 t1
  simp only [gx_rr, gx_r]
  rw [ha]
  exact hsee
theorem gx_local' {S : List ((Rat × Rat) × (Rat × Rat))} {s : (Rat × Rat) × (Rat × Rat)} {t : Rat} (h : gx_simple S) (hs : s ∈ S) (t0 : 0 < t) (t1 : t < 1) :
    ∃ d : Rat, 0 < d ∧ ∀ z, gx_near (gx_at s.1 s.2 t) z d → gx_turn s.1 s.2 z ≠ 0 → gx_wn S z = gx_rr S + (if 0 < gx_turn s.1 s.2 z then 1 else 0) := by
  obtain ⟨S1, S2, rfl⟩ := gx_split_mem hs
  exact gx_local h t0 t1
/-- two rings that nowhere wind both: their sides have no inner point in common with a direction left of both -/
theorem gx_apart {A B : List ((Rat × Rat) × (Rat × Rat))} {s q : (Rat × Rat) × (Rat × Rat)} {t u : Rat} {n : Rat × Rat} (hA : gx_simple A) (hB : gx_simple B) (rA : gx_rr A = 0) (rB : gx_rr B = 0)
    (hI : ∀ z, gx_wn A z + gx_wn B z ≤ 1) (hs : s ∈ A) (hq : q ∈ B) (t0 : 0 < t) (t1 : t < 1) (u0 : 0 < u) (u1 : u < 1) (k : gx_at s.1 s.2 t = gx_at q.1 q.2 u)
    (n1 : 0 < (s.2.1 - s.1.1) * n.2 - (s.2.2 - s.1.2) * n.1) (n2 : 0 < (q.2.1 - q.1.1) * n.2 - (q.2.2 - q.1.2) * n.1) : False := by
  obtain ⟨d, d0, hd⟩ := gx_local' hA hs t0 t1
  obtain ⟨j, j0, hj⟩ := gx_local' hB hq u0 u1
  obtain ⟨m, m0, m1, m2⟩ := gx_min2 d0 j0
  obtain ⟨x, x0, x1, hx⟩ := gx_near_ev (gx_at s.1 s.2 t) ((gx_at s.1 s.2 t).1 + n.1, (gx_at s.1 s.2 t).2 + n.2) m0
  have hz := hx x (by grind) (by grind)
  generalize hzz : gx_at (gx_at s.1 s.2 t) ((gx_at s.1 s.2 t).1 + n.1, (gx_at s.1 s.2 t).2 + n.2) x = z at hz
  have e1 : gx_turn s.1 s.2 z = x * ((s.2.1 - s.1.1) * n.2 - (s.2.2 - s.1.2) * n.1) := by rw [← hzz]; simp only [gx_turn, gx_at]; grind
  have e2 : gx_turn q.1 q.2 z = x * ((q.2.1 - q.1.1) * n.2 - (q.2.2 - q.1.2) * n.1) := by rw [← hzz, k]; simp only [gx_turn, gx_at]; grind
  have p1 := Rat.mul_pos x0 n1
  have p2 := Rat.mul_pos x0 n2
  rw [← e1] at p1
  rw [← e2] at p2
  have w1 := hd z (by unfold gx_near at *; grind) (by grind)
  have w2 := hj z (by rw [← k]; unfold gx_near at *; grind) (by grind)
  rw [if_pos p1, rA] at w1
  rw [if_pos p2, rB] at w2
  have := hI z
  omega
theorem gx_sq {x : Rat} (h : x ≠ 0) : 0 < x * x := by
  rcases gx_tri x 0 with e | e | e
  · have := Rat.mul_pos (a := -x) (b := -x) (by grind) (by grind); grind
  · exact absurd e h
  · exact Rat.mul_pos e e
theorem gx_sq2 {a b : Rat × Rat} (h : a ≠ b) : 0 < (b.1 - a.1) * (b.1 - a.1) + (b.2 - a.2) * (b.2 - a.2) := by
  have h' : ¬ (a.1 = b.1 ∧ a.2 = b.2) := fun k => h (Prod.ext k.1 k.2)
  by_cases e : a.1 = b.1
  · have := gx_sq (x := b.2 - a.2) (by grind); rw [e]; grind
  · have h1 := gx_sq (x := b.1 - a.1) (by grind)
    by_cases e2 : b.2 - a.2 = 0
    · rw [e2]; grind
    · have h2 := gx_sq (x := b.2 - a.2) e2; grind
/-- sides with an inner point in common lie on one line, and run against each other -/
theorem gx_against {A B : List ((Rat × Rat) × (Rat × Rat))} {s q : (Rat × Rat) × (Rat × Rat)} {t u : Rat} (hA : gx_simple A) (hB : gx_simple B) (rA : gx_rr A = 0) (rB : gx_rr B = 0)
    (hI : ∀ z, gx_wn A z + gx_wn B z ≤ 1) (hs : s ∈ A) (hq : q ∈ B) (t0 : 0 < t) (t1 : t < 1) (u0 : 0 < u) (u1 : u < 1) (k : gx_at s.1 s.2 t = gx_at q.1 q.2 u) :
    ∃ m : Rat, 0 < m ∧ q.2.1 - q.1.1 = -(m * (s.2.1 - s.1.1)) ∧ q.2.2 - q.1.2 = -(m * (s.2.2 - s.1.2)) := by
  have hsn := hA.2.1 s hs
  have hqn := hB.2.1 q hq
  have hap := fun n => gx_apart (n := n) hA hB rA rB hI hs hq t0 t1 u0 u1 k
  have sq1 := gx_sq2 hsn
  have sq2 := gx_sq2 hqn
  have hqn' : ¬ (q.2.1 - q.1.1 = 0 ∧ q.2.2 - q.1.2 = 0) := fun k => hqn (Prod.ext (by grind) (by grind))
  generalize s.2.1 - s.1.1 = a1 at *
  generalize s.2.2 - s.1.2 = a2 at *
  generalize q.2.1 - q.1.1 = b1 at *
  generalize q.2.2 - q.1.2 = b2 at *
  rcases gx_tri (a1 * b2 - a2 * b1) 0 with e | e | e
  · exact (hap (a1 - b1, a2 - b2) (by simp only; grind) (by simp only; grind)).elim
  · have hex : ∃ c : Rat, b1 = c * a1 ∧ b2 = c * a2 := by
      by_cases f : a1 = 0
      · subst f
        have : a2 ≠ 0 := by intro f2; subst f2; grind
        exact ⟨b2 / a2, by grind, by grind⟩
      · exact ⟨b1 / a1, by grind, by grind⟩
    obtain ⟨c, rfl, rfl⟩ := hex
    rcases gx_tri c 0 with f | f | f
    · exact ⟨-c, by grind, by grind, by grind⟩
    · subst f; exact (hqn' ⟨by grind, by grind⟩).elim
    · have := Rat.mul_pos f sq1
      exact (hap (-a2, a1) (by simp only; grind) (by simp only; grind)).elim
  · exact (hap (b1 - a1, b2 - a2) (by simp only; grind) (by simp only; grind)).elim
theorem gx_right {S : List ((Rat × Rat) × (Rat × Rat))} (h : gx_simple S) (h0 : S ≠ []) : ∃ z, gx_wn S z = gx_rr S := by
  cases S with
  | nil => exact absurd rfl h0
  | cons s S =>
    have hn := h.2.1 s List.mem_cons_self
    obtain ⟨d, d0, hd⟩ := gx_local' h (s := s) List.mem_cons_self (t := 1/2) (by grind) (by grind)
    obtain ⟨x, x0, x1, hx⟩ := gx_near_ev (gx_at s.1 s.2 (1/2)) ((gx_at s.1 s.2 (1/2)).1 + (s.2.2 - s.1.2), (gx_at s.1 s.2 (1/2)).2 - (s.2.1 - s.1.1)) d0
    have hz := hx x (by grind) (by grind)
    generalize hzz : gx_at (gx_at s.1 s.2 (1/2)) ((gx_at s.1 s.2 (1/2)).1 + (s.2.2 - s.1.2), (gx_at s.1 s.2 (1/2)).2 - (s.2.1 - s.1.1)) x = z at hz
    have e1 : gx_turn s.1 s.2 z = -(x * ((s.2.1 - s.1.1) * (s.2.1 - s.1.1) + (s.2.2 - s.1.2) * (s.2.2 - s.1.2))) := by rw [← hzz]; simp only [gx_turn, gx_at]; grind
    have p1 := Rat.mul_pos x0 (gx_sq2 hn)
    have hneg : gx_turn s.1 s.2 z < 0 := by rw [e1]; grind
    have := hd z hz (by grind)
    rw [if_neg (by grind)] at this
    exact ⟨z, by omega⟩
theorem gx_join_wn (P1 P2 K : List ((Rat × Rat) × (Rat × Rat))) (z : Rat × Rat) : gx_wn (P1 ++ P2) z = gx_wn (P1 ++ K) z + gx_wn (P2 ++ gx_rev K) z := by
  simp only [gx_wn_app, gx_wn_rev]; omega
/-- a simple ring that winds nowhere less than 0 times runs counterclockwise -/
theorem gx_ccw {S : List ((Rat × Rat) × (Rat × Rat))} (h : gx_simple S) (h0 : S ≠ []) (hw : ∀ z, 0 ≤ gx_wn S z) : gx_rr S = 0 := by
  obtain ⟨z, hz⟩ := gx_right h h0
  have := hw z
  rcases gx_sense h h0 with e | e
  · exact e
  · omega
theorem gx_01 {S : List ((Rat × Rat) × (Rat × Rat))} (h : gx_simple S) (r : gx_rr S = 0) (z : Rat × Rat) : gx_wn S z = 0 ∨ gx_wn S z = 1 := by
  have := gx_two h z; rw [r] at this; exact this
