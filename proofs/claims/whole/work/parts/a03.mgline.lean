theorem mod_eq_of {a b n : Nat} (h : a % n = b % n) (hab : a ≤ b) (hlt : b < a + n) : a = b := by
  have e := Nat.sub_mod_eq_zero_of_mod_eq h.symm
  rcases Nat.lt_or_ge (b - a) n with c | c
  · rw [Nat.mod_eq_of_lt c] at e; omega
  · omega
/-- one line: what the counts say -/
theorem mg_line_of {L R : List PT} (nL : L.Nodup) (nR : R.Nodup) (l0 : L ≠ []) (r0 : R ≠ []) {st s m : Nat} (hst : st < L.length) (h1 : cntN (fun k => mg_cs L R k && !mg_cs L R (k + L.length - 1)) L.length = 1) (h2 : (mg_cs L R st && !mg_cs L R (st + L.length - 1)) = true) (hs : s = cntN (mg_cs L R) L.length) (hc : cntN (mg_cp L R) L.length = s + 1) (hm : ig_at R m = ig_at L st) : mg_line L R st s (m + (s + 1) * R.length) := by
  have hn : 0 < L.length := List.length_pos_iff.mpr l0
  have hr : 0 < R.length := List.length_pos_iff.mpr r0
  obtain ⟨a1, a2, a3, a4⟩ := cntN_run1 (mg_cs_per L R) hst h1 h2 hs
  have hM : s + 1 ≤ m + (s + 1) * R.length := by
    have := Nat.mul_le_mul_left (s + 1) hr
    omega
  have h5 : ∀ k, k ≤ s → ig_at R (m + (s + 1) * R.length - k) = ig_at L (st + k) := by
    intro k
    induction k with
    | zero =>
      intro _
      rw [Nat.sub_zero, Nat.add_comm, ig_at_mul, hm]; rfl
    | succ k ih =>
      intro hk
      have ih := ih (by omega)
      obtain ⟨j, hj, j1, j2⟩ := mg_cs_iff.mp (a3 k (by omega))
      have e := ig_at_inj nR r0 (j2.trans ih.symm)
      have e2 : j % R.length = (m + (s + 1) * R.length - (k + 1)) % R.length := by
        generalize m + (s + 1) * R.length = M at *
        have e3 : (j + 1 + (R.length - 1)) % R.length = (M - k + (R.length - 1)) % R.length := by
          rw [Nat.add_mod, e, ← Nat.add_mod]
        rw [show j + 1 + (R.length - 1) = j + R.length by omega, Nat.add_mod_right, show M - k + (R.length - 1) = (M - (k + 1)) + R.length by omega, Nat.add_mod_right] at e3
        exact e3
      rw [← ig_at_mod R (m + (s + 1) * R.length - (k + 1)), ← e2, ig_at_mod, j1]; rfl
  have inj : ∀ x y, x ≤ s → y ≤ s → (st + x) % L.length = (st + y) % L.length → x = y := by
    intro x y hx hy e
    rcases Nat.le_total x y with c | c
    · have := mod_eq_of e (by omega) (by omega); omega
    · have := mod_eq_of e.symm (by omega) (by omega); omega
  refine ⟨a1, a2, ?_, by omega, h5, a4, ?_⟩
  · have : ((List.range (s + 1)).map (fun k => ig_at L (st + k))).length ≤ R.length := by
      refine nodup_len ?_ ?_
      · unfold List.Nodup
        rw [List.pairwise_map]
        refine List.Pairwise.imp_of_mem ?_ (List.nodup_range)
        intro x y hx hy hxy e
        have hx := List.mem_range.mp hx
        have hy := List.mem_range.mp hy
        exact hxy (inj x y (by omega) (by omega) (ig_at_inj nL l0 e))
      · intro p hp
        obtain ⟨k, hk, e⟩ := List.mem_map.mp hp
        have hk := List.mem_range.mp hk
        rw [← e, ← h5 k (by omega)]
        exact ig_at_mem r0 _
    simp at this; omega
  · intro i hi hcp
    refine Classical.byContradiction (fun hno => ?_)
    have : (i :: (List.range (s + 1)).map (fun k => (st + k) % L.length)).length ≤ ((List.range L.length).filter (mg_cp L R)).length := by
      refine nodup_len ?_ ?_
      · rw [List.nodup_cons]
        constructor
        · intro f
          obtain ⟨k, hk, e⟩ := List.mem_map.mp f
          have hk := List.mem_range.mp hk
          exact hno ⟨k, by omega, by rw [Nat.mod_eq_of_lt hi, e]⟩
        · unfold List.Nodup
          rw [List.pairwise_map]
          refine List.Pairwise.imp_of_mem ?_ (List.nodup_range)
          intro x y hx hy hxy e
          have hx := List.mem_range.mp hx
          have hy := List.mem_range.mp hy
          exact hxy (inj x y (by omega) (by omega) e)
      · intro x hx
        rw [List.mem_filter, List.mem_range]
        rcases List.mem_cons.mp hx with f | f
        · subst f; exact ⟨hi, hcp⟩
        · obtain ⟨k, hk, e⟩ := List.mem_map.mp f
          have hk := List.mem_range.mp hk
          rw [← e]
          refine ⟨Nat.mod_lt _ hn, ?_⟩
          unfold mg_cp
          rw [ig_at_mod, ← h5 k (by omega)]
          exact decide_eq_true (ig_at_mem r0 _)
    rw [cntN_filter, hc] at this
    simp at this
    omega
