/-! rings the other way round -/
theorem gx_open_of {s : (Rat × Rat) × (Rat × Rat)} {Q : List ((Rat × Rat) × (Rat × Rat))} (h : gx_simple (s :: Q)) : gx_open Q s.2 s.1 := by
  have hw := List.pairwise_cons.mp h.1
  refine ⟨hw.2, fun q hq => h.2.1 q (List.mem_cons_of_mem _ hq), gx_path_head h, ?_⟩
  intro q hq t t0 t1 k
  exact hw.1 q hq 0 t (by grind) (by grind) t0 t1 (by rw [gx_at0]; exact k.symm)
theorem gx_simple_rev {S : List ((Rat × Rat) × (Rat × Rat))} (h : gx_simple S) : gx_simple (gx_rev S) := by
  cases S with
  | nil => exact h
  | cons s Q =>
    have hn := h.2.1 s List.mem_cons_self
    have ho := gx_open_rev (gx_open_of h)
    rw [gx_rev_cons]
    refine gx_close ho ⟨List.pairwise_singleton _ _, ?_, ⟨rfl, rfl⟩, ?_⟩ hn ?_
    · intro q hq; rw [List.mem_singleton] at hq; subst hq; exact fun k => hn k.symm
    · intro q hq t t0 t1 k
      rw [List.mem_singleton] at hq; subst hq
      simp only at k
      rw [gx_at_rev s.1 s.2] at k
      have := gx_at_inj hn (k.trans (gx_at0 s.1 s.2).symm); grind
    · intro q hq p hp t u t0 t1 u0 u1 k
      rw [List.mem_singleton] at hp; subst hp
      have hq' := gx_mem_rev hq
      simp only at k
      rw [gx_at_rev q.2 q.1, gx_at_rev s.1 s.2] at k
      rw [gx_at_rev q.2 q.1]
      by_cases e0 : u = 0
      · right; rw [k, e0]; simp only [gx_at]; grind
      · by_cases e1 : u = 1
        · left; rw [k, e1]; simp only [gx_at]; grind
        · exact absurd ⟨1 - t, by grind, by grind, k⟩ (gx_inner h (t := 1 - u) (by grind) (by grind) _ hq')
theorem gx_rr_rev {S : List ((Rat × Rat) × (Rat × Rat))} (h : gx_simple S) (h0 : S ≠ []) : gx_rr (gx_rev S) = -1 - gx_rr S := by
  have h1 := gx_simple_rev h
  have n1 : gx_rev S ≠ [] := by simp [gx_rev, h0]
  obtain ⟨z, hz⟩ := gx_right h h0
  obtain ⟨w, hw⟩ := gx_right h1 n1
  rw [gx_wn_rev] at hw
  have a1 := gx_two h w
  have a2 := gx_two h1 z
  rw [gx_wn_rev] at a2
  rcases gx_sense h h0 with e | e <;> rcases gx_sense h1 n1 with f | f <;> try omega
  · -- both 0: wn is never 1 for either; the left-hand value is
    exfalso
    obtain ⟨s, Q, rfl⟩ : ∃ s Q, S = s :: Q := by cases S with
      | nil => exact absurd rfl h0
      | cons s Q => exact ⟨s, Q, rfl⟩
    have hs : (s.2, s.1) ∈ gx_rev (s :: Q) := by rw [gx_rev_cons]; simp
    have hn := h.2.1 s List.mem_cons_self
    obtain ⟨d, d0, hd⟩ := gx_local' h (s := s) List.mem_cons_self (t := 1/2) (by grind) (by grind)
    obtain ⟨x, x0, x1, hx⟩ := gx_near_ev (gx_at s.1 s.2 (1/2)) ((gx_at s.1 s.2 (1/2)).1 - (s.2.2 - s.1.2), (gx_at s.1 s.2 (1/2)).2 + (s.2.1 - s.1.1)) d0
    have hz := hx x (by grind) (by grind)
    generalize hzz : gx_at (gx_at s.1 s.2 (1/2)) ((gx_at s.1 s.2 (1/2)).1 - (s.2.2 - s.1.2), (gx_at s.1 s.2 (1/2)).2 + (s.2.1 - s.1.1)) x = v at hz
    have e1 : gx_turn s.1 s.2 v = x * ((s.2.1 - s.1.1) * (s.2.1 - s.1.1) + (s.2.2 - s.1.2) * (s.2.2 - s.1.2)) := by rw [← hzz]; simp only [gx_turn, gx_at]; grind
    have p1 := Rat.mul_pos x0 (gx_sq2 hn)
    rw [← e1] at p1
    have := hd v hz (by grind)
    rw [if_pos p1, e] at this
    have b1 := gx_two h1 v
    rw [gx_wn_rev, f] at b1
    omega
theorem gx_area_app (S T : List ((Rat × Rat) × (Rat × Rat))) : gx_area (S ++ T) = gx_area S + gx_area T := by
  induction S with
  | nil => simp only [List.nil_append, gx_area]; grind
  | cons s S ih => simp only [List.cons_append, gx_area, ih]; grind
theorem gx_area_rev (S : List ((Rat × Rat) × (Rat × Rat))) : gx_area (gx_rev S) = - gx_area S := by
  induction S with
  | nil => simp only [gx_rev, gx_area, List.map_nil, List.reverse_nil]; grind
  | cons s S ih => rw [gx_rev_cons, gx_area_app, ih]; simp only [gx_area]; grind
theorem gx_nat_rev {S : List ((Rat × Rat) × (Rat × Rat))} {n : Nat} (h : gx_nat n S) : gx_nat n (gx_rev S) := by
  intro s hs
  obtain ⟨h1, h2, A, B, hA, hB, hAn, hBn⟩ := h _ (gx_mem_rev hs)
  exact ⟨h2, h1, B, A, hB, hA, hBn, hAn⟩
theorem gx_area_neg {S : List ((Rat × Rat) × (Rat × Rat))} {n : Nat} (h : gx_simple S) (h0 : S ≠ []) (hr : gx_rr S = -1) (hn : gx_nat n S) : gx_area S < 0 := by
  have := gx_area_pos (gx_simple_rev h) (by simp [gx_rev, h0]) (by rw [gx_rr_rev h h0, hr]; rfl) (gx_nat_rev hn)
  rw [gx_area_rev] at this; grind
