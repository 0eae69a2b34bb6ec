/-! the refined ring is the ring -/
theorem ig_refine_k {A O : List PT} (h : gx_simple (rgn A)) (h0 : A ≠ []) : ∀ k, k ≤ A.length → ∃ X : List ((Rat × Rat) × (Rat × Rat)),
    (0 < k → ∃ r, (List.range k).flatMap (fun i => ig_rs O (O.length + 1) (ig_at A i) (ig_at A (i + 1))) = ig_at A 0 :: r ∧ X = gx_sd (ig_c (ig_at A 0)) (r.map ig_c) (ig_c (ig_at A k))) ∧ (k = 0 → X = []) ∧
    gx_simple (X ++ (List.range' k (A.length - k)).map (fun i => (ig_c (ig_at A i), ig_c (ig_at A (i + 1))))) ∧ (∀ z, gx_wn (X ++ (List.range' k (A.length - k)).map (fun i => (ig_c (ig_at A i), ig_c (ig_at A (i + 1))))) z = gx_wn (rgn A) z) ∧
    (∀ s ∈ X, ∀ z, gx_on s.1 s.2 z → rgn_pt A z) ∧ (∀ p ∈ (List.range k).flatMap (fun i => ig_rs O (O.length + 1) (ig_at A i) (ig_at A (i + 1))), p ∈ A ∨ p ∈ O) ∧
    (∀ i, i < k → ig_at A i ∈ (List.range k).flatMap (fun i => ig_rs O (O.length + 1) (ig_at A i) (ig_at A (i + 1)))) ∧
    ∀ p ∈ O, (∃ i, i < k ∧ ig_ins (ig_at A i) (ig_at A (i + 1)) p) → p ∈ (List.range k).flatMap (fun i => ig_rs O (O.length + 1) (ig_at A i) (ig_at A (i + 1))) := by
  intro k
  induction k with
  | zero =>
    intro _
    refine ⟨[], fun f => by omega, fun _ => rfl, ?_, ?_, by simp, by simp, fun i hi => by omega, ?_⟩
    · rw [List.nil_append, Nat.sub_zero, ← List.range_eq_range', ← rgn_ix]; exact h
    · intro z
      rw [List.nil_append, Nat.sub_zero, ← List.range_eq_range', ← rgn_ix]
    · rintro p _ ⟨i, hi, _⟩; omega
  | succ k ih =>
    intro hk
    obtain ⟨X, g1, g2, g3, g4, g5, g6, g7, g8⟩ := ih (by omega)
    have e0 : (List.range' k (A.length - k)).map (fun i => (ig_c (ig_at A i), ig_c (ig_at A (i + 1)))) = (ig_c (ig_at A k), ig_c (ig_at A (k + 1))) :: (List.range' (k + 1) (A.length - (k + 1))).map (fun i => (ig_c (ig_at A i), ig_c (ig_at A (i + 1)))) := by
      rw [show A.length - k = (A.length - (k + 1)) + 1 by omega, List.range'_succ]; rfl
    rw [e0] at g3 g4
    obtain ⟨r, r1, r2, r3, r4, r5, r6⟩ := ig_rs_spec (O := O) (O.length + 1) (ig_at A k) (ig_at A (k + 1)) (rgn_ne h h0 k) (by have := ig_cnt_le O (ig_at A k) (ig_at A (k + 1)); omega) _ _ g3
    have ef : (List.range (k + 1)).flatMap (fun i => ig_rs O (O.length + 1) (ig_at A i) (ig_at A (i + 1))) = (List.range k).flatMap (fun i => ig_rs O (O.length + 1) (ig_at A i) (ig_at A (i + 1))) ++ (ig_at A k :: r) := by
      rw [List.range_succ, List.flatMap_append]
      congr 1
      rw [List.flatMap_singleton, r1]
    rw [ef]
    refine ⟨X ++ gx_sd (ig_c (ig_at A k)) (r.map ig_c) (ig_c (ig_at A (k + 1))), fun _ => ?_, fun f => by omega, ?_, ?_, ?_, ?_, ?_, ?_⟩
    · by_cases c : k = 0
      · subst c
        refine ⟨r, by simp, ?_⟩
        rw [g2 rfl, List.nil_append]
      · obtain ⟨r', q1, q2⟩ := g1 (by omega)
        refine ⟨r' ++ ig_at A k :: r, by rw [q1]; simp, ?_⟩
        rw [q2, List.map_append, List.map_cons, gx_sd_app]
    · rw [List.append_assoc]; exact r2
    · intro z
      rw [List.append_assoc, r3, g4]
    · intro s hs z hz
      rcases List.mem_append.mp hs with f | f
      · exact g5 s f z hz
      · exact ⟨_, rgn_mem.mpr ⟨k, by omega, rfl⟩, r4 s f z hz⟩
    · intro p hp
      rcases List.mem_append.mp hp with f | f
      · exact g6 p f
      · rcases List.mem_cons.mp f with f | f
        · rw [f]; exact Or.inl (ig_at_mem h0 k)
        · exact Or.inr (r5 p f)
    · intro i hi
      by_cases c : i = k
      · rw [c]; simp
      · exact List.mem_append_left _ (g7 i (by omega))
    · rintro p hp ⟨i, hi, f⟩
      by_cases c : i = k
      · rw [c] at f
        exact List.mem_append_right _ (List.mem_cons_of_mem _ (r6 p hp f))
      · exact List.mem_append_left _ (g8 p hp ⟨i, by omega, f⟩)
/-- the refined ring: one ring with A; its corners; every corner of the other that lies on it -/
theorem ig_refine_spec {A O : List PT} (h : gx_simple (rgn A)) (h0 : A ≠ []) : same A (ig_refine A O) ∧ (∀ p ∈ ig_refine A O, p ∈ A ∨ p ∈ O) ∧ (∀ p ∈ A, p ∈ ig_refine A O) ∧ ∀ p ∈ O, rgn_pt A (ig_c p) → p ∈ ig_refine A O := by
  have hn : 0 < A.length := List.length_pos_iff.mpr h0
  obtain ⟨X, g1, _, g3, g4, g5, g6, g7, g8⟩ := ig_refine_k (O := O) h h0 A.length (by omega)
  obtain ⟨r, q1, q2⟩ := g1 hn
  rw [Nat.sub_self] at g3 g4
  have e0 : ig_at A A.length = ig_at A 0 := by have := ig_at_len A 0; simpa using this
  rw [e0] at q2
  have er : rgn (ig_refine A O) = X := by
    rw [q2]
    unfold ig_refine
    rw [q1]; rfl
  have ap : ∀ Y : List ((Rat × Rat) × (Rat × Rat)), Y ++ (List.range' A.length 0).map (fun i => (ig_c (ig_at A i), ig_c (ig_at A (i + 1)))) = Y := fun Y => by simp
  rw [ap] at g3
  refine ⟨⟨by rw [er]; exact g3, fun z => ?_, ?_⟩, g6, ?_, ?_⟩
  · rw [er, ← g4 z, ap]
  · rintro z ⟨s, hs, hz⟩
    rw [er] at hs
    exact g5 s hs z hz
  · intro p hp
    obtain ⟨i, hi, e⟩ := ig_mem_at hp
    rw [← e]; exact g7 i hi
  · rintro p hp ⟨s, hs, hz⟩
    obtain ⟨i, hi, e⟩ := rgn_mem.mp hs
    rw [e] at hz
    obtain ⟨i, hi, hh⟩ := ig_half_on h ⟨i, hi, (im_on_iff _ _ _).mpr hz⟩
    obtain ⟨t, t0, t1, et⟩ := ig_half_t hh
    by_cases c : t = 0
    · rw [c, gx_at0] at et
      rw [← ig_c_inj.mp et]; exact g7 i hi
    · exact g8 p hp ⟨i, hi, t, by grind, t1, et.symm⟩
theorem ig_refine_len {A O : List PT} (h : gx_simple (rgn A)) (h0 : A ≠ []) : (ig_refine A O).length ≤ A.length + O.length := by
  obtain ⟨⟨h1, _⟩, h2, _⟩ := ig_refine_spec (O := O) h h0
  have := nodup_len (m := A ++ O) (rgn_nodup h1) (fun x hx => by simpa using h2 x hx)
  simpa using this
/-- no corner of the one lies strictly within a side of the other -/
theorem ig_refine_no {A B : List PT} (hA : gx_simple (rgn A)) (hB : gx_simple (rgn B)) (a0 : A ≠ []) (b0 : B ≠ []) {p : PT} (hp : p ∈ ig_refine A B) {j : Nat} {u : Rat} (u0 : 0 < u) (u1 : u < 1) (e : gx_at (ig_c (ig_at (ig_refine B A) j)) (ig_c (ig_at (ig_refine B A) (j + 1))) u = ig_c p) : False := by
  obtain ⟨s1, a2, a3, a4⟩ := ig_refine_spec (O := B) hA a0
  obtain ⟨s2, b2, b3, b4⟩ := ig_refine_spec (O := A) hB b0
  have n0 : ig_refine B A ≠ [] := by
    intro f
    have := b3 _ (ig_at_mem b0 0)
    rw [f] at this; simp at this
  have hn : 0 < (ig_refine B A).length := List.length_pos_iff.mpr n0
  generalize hR : ig_refine B A = R at *
  have e' : gx_at (ig_c (ig_at R (j % R.length))) (ig_c (ig_at R (j % R.length + 1))) u = ig_c p := by
    rw [ig_at_mod, ← ig_at_mod R (j % R.length + 1), Nat.mod_add_mod, ig_at_mod]; exact e
  have hpt : rgn_pt R (ig_c p) := ⟨_, rgn_mem.mpr ⟨j % R.length, Nat.mod_lt _ hn, rfl⟩, u, Rat.le_of_lt u0, Rat.le_of_lt u1, e'⟩
  have hpR : p ∈ R := by
    rcases a2 p hp with f | f
    · exact b4 p f (s2.2.2 _ hpt)
    · exact b3 p f
  obtain ⟨k, hk, ek⟩ := ig_mem_at hpR
  have := rgn_inj s2.1 hk (Nat.mod_lt j hn) (t := 0) (by grind) (by grind) (Rat.le_of_lt u0) u1 (by rw [gx_at0, ek]; exact e'.symm)
  subst this
  have := gx_at_inj (ig_ne (rgn_ne s2.1 n0 _)) ((gx_at0 _ _).trans ((congrArg ig_c ek).trans e'.symm))
  grind
