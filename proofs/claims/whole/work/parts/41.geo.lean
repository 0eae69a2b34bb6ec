/-! what a side adds along a segment that it doesn't meet -/
theorem gx_K0 {a b z w : Rat × Rat} {t : Rat} (hzw : z.2 = w.2) (h0 : 0 ≤ t) (h1 : t ≤ 1) (ht : (gx_at a b t).2 = z.2)
    (hs : (z.1 ≤ (gx_at a b t).1 ∧ (gx_at a b t).1 ≤ w.1) ∨ (w.1 ≤ (gx_at a b t).1 ∧ (gx_at a b t).1 ≤ z.1)) : ¬ gx_free a b z w := by
  intro hf
  generalize hq : gx_at a b t = q at *
  obtain ⟨q1, q2⟩ := q
  by_cases he : z.1 = w.1
  · refine hf t 0 h0 h1 (by grind) (by grind) ?_
    rw [hq]; simp only [gx_at, Prod.mk.injEq] at *; grind
  · rcases hs with ⟨h2, h3⟩ | ⟨h2, h3⟩
    · have hs := gx_divle (a := q1 - z.1) (b := w.1 - z.1) (by grind) (by grind) (by grind)
      refine hf t ((q1 - z.1) / (w.1 - z.1)) h0 h1 hs.1 hs.2 ?_
      rw [hq]; simp only [gx_at, Prod.mk.injEq] at *
      have hd : w.1 - z.1 ≠ 0 := by grind
      constructor
      · grind
      · grind
    · have hs := gx_divle (a := z.1 - q1) (b := z.1 - w.1) (by grind) (by grind) (by grind)
      refine hf t ((z.1 - q1) / (z.1 - w.1)) h0 h1 hs.1 hs.2 ?_
      rw [hq]; simp only [gx_at, Prod.mk.injEq] at *
      have hd : z.1 - w.1 ≠ 0 := by grind
      constructor
      · grind
      · grind
/-- the point of a side at a height -/
theorem gx_hgt {a b : Rat × Rat} {y : Rat} (h1 : a.2 ≤ y) (h2 : y ≤ b.2) (h3 : a.2 < b.2) :
    ∃ t, 0 ≤ t ∧ t ≤ 1 ∧ (gx_at a b t).2 = y ∧ ∀ z : Rat × Rat, z.2 = y → gx_turn a b z = (b.2 - a.2) * ((gx_at a b t).1 - z.1) := by
  have hs := gx_divle (a := y - a.2) (b := b.2 - a.2) (by grind) (by grind) (by grind)
  refine ⟨(y - a.2) / (b.2 - a.2), hs.1, hs.2, ?_, ?_⟩
  · simp only [gx_at]; grind
  · intro z hz
    have hd : b.2 - a.2 ≠ 0 := by grind
    generalize hm : (y - a.2) / (b.2 - a.2) = m
    have hm2 : m * (b.2 - a.2) = y - a.2 := by grind
    simp only [gx_turn, gx_at]; grind
theorem gx_sgn {k v : Rat} (hk : 0 < k) : (0 < k * v ↔ 0 < v) ∧ (k * v < 0 ↔ v < 0) := by
  constructor
  · constructor
    · intro h
      by_cases hv : 0 < v
      · exact hv
      · have := Rat.mul_nonneg (a := k) (b := -v) (by grind) (by grind)
        grind
    · intro h; exact Rat.mul_pos hk h
  · constructor
    · intro h
      by_cases hv : v < 0
      · exact hv
      · have := Rat.mul_nonneg (a := k) (b := v) (by grind) (by grind)
        grind
    · intro h
      have := Rat.mul_pos (a := k) (b := -v) hk (by grind)
      grind
/-- the upward half: a is not higher than b -/
theorem gx_up {a b z w : Rat × Rat} (hab : a.2 ≤ b.2) (hzw : z.2 ≤ w.2) (hf : gx_free a b z w) : gx_cr a b z - gx_cr a b w = gx_U z w b - gx_U z w a := by
  have z0 : gx_at a b 0 = a := by simp only [gx_at]; grind
  have z1 : gx_at a b 1 = b := by simp only [gx_at]; grind
  have n0 : (0 : Rat) ≤ 0 := by grind
  have n1 : (0 : Rat) ≤ 1 := by grind
  have n2 : (1 : Rat) ≤ 1 := by grind
  unfold gx_cr gx_U
  by_cases e1 : z.2 < a.2
  · by_cases e2 : b.2 ≤ w.2
    · -- both within
      have hlt : z.2 < w.2 := by grind
      have k1 : ¬ (gx_turn z w a < 0 ∧ ¬ gx_turn z w b < 0) := fun h => gx_K (a := a) (b := b) (t := 0) (u := 1) hlt n0 n1 n1 n2 (by rw [z0]; grind) (by rw [z0]; grind) (by rw [z1]; grind) (by rw [z1]; grind) (by rw [z0]; grind) (by rw [z1]; grind) hf
      have k2 : ¬ (gx_turn z w b < 0 ∧ ¬ gx_turn z w a < 0) := fun h => gx_K (a := a) (b := b) (t := 1) (u := 0) hlt n1 n2 n0 n1 (by rw [z1]; grind) (by rw [z1]; grind) (by rw [z0]; grind) (by rw [z0]; grind) (by rw [z1]; grind) (by rw [z0]; grind) hf
      grind
    · by_cases e3 : a.2 ≤ w.2
      · -- within, above
        have hlt : z.2 < w.2 := by grind
        obtain ⟨t, t0, t1, th, tz⟩ := gx_hgt (a := a) (b := b) (y := w.2) e3 (by grind) (by grind)
        have hw := tz w rfl
        have hw2 : gx_turn z w (gx_at a b t) = (w.2 - z.2) * (w.1 - (gx_at a b t).1) := by
          generalize gx_at a b t = q at *; simp only [gx_turn]; grind
        have s1 := gx_sgn (k := b.2 - a.2) (v := (gx_at a b t).1 - w.1) (by grind)
        have s2 := gx_sgn (k := w.2 - z.2) (v := w.1 - (gx_at a b t).1) (by grind)
        have hne : (gx_at a b t).1 ≠ w.1 := by
          intro h
          refine hf t 1 t0 t1 n1 n2 ?_
          generalize gx_at a b t = q at *; obtain ⟨q1, q2⟩ := q; simp only [gx_at, Prod.mk.injEq] at *; grind
        have k1 : ¬ (gx_turn z w a < 0 ∧ (gx_at a b t).1 < w.1) := fun h => gx_K (a := a) (b := b) (t := 0) (u := t) hlt n0 n1 t0 t1 (by rw [z0]; grind) (by rw [z0]; grind) (by grind) (by grind) (by rw [z0]; grind) (by grind) hf
        have k2 : ¬ (¬ gx_turn z w a < 0 ∧ w.1 < (gx_at a b t).1) := fun h => gx_K (a := a) (b := b) (t := t) (u := 0) hlt t0 t1 n0 n1 (by grind) (by grind) (by rw [z0]; grind) (by rw [z0]; grind) (by grind) (by rw [z0]; grind) hf
        grind
      · grind
  · by_cases e2 : b.2 ≤ z.2
    · grind
    · by_cases e3 : b.2 ≤ w.2
      · -- below, within
        have hlt : z.2 < w.2 := by grind
        obtain ⟨t, t0, t1, th, tz⟩ := gx_hgt (a := a) (b := b) (y := z.2) (by grind) (by grind) (by grind)
        have hw := tz z rfl
        have hw2 : gx_turn z w (gx_at a b t) = (w.2 - z.2) * (z.1 - (gx_at a b t).1) := by
          generalize gx_at a b t = q at *; simp only [gx_turn]; grind
        have s1 := gx_sgn (k := b.2 - a.2) (v := (gx_at a b t).1 - z.1) (by grind)
        have s2 := gx_sgn (k := w.2 - z.2) (v := z.1 - (gx_at a b t).1) (by grind)
        have hne : (gx_at a b t).1 ≠ z.1 := by
          intro h
          refine hf t 0 t0 t1 n0 n1 ?_
          generalize gx_at a b t = q at *; obtain ⟨q1, q2⟩ := q; simp only [gx_at, Prod.mk.injEq] at *; grind
        have k1 : ¬ (gx_turn z w b < 0 ∧ (gx_at a b t).1 < z.1) := fun h => gx_K (a := a) (b := b) (t := 1) (u := t) hlt n1 n2 t0 t1 (by rw [z1]; grind) (by rw [z1]; grind) (by grind) (by grind) (by rw [z1]; grind) (by grind) hf
        have k2 : ¬ (¬ gx_turn z w b < 0 ∧ z.1 < (gx_at a b t).1) := fun h => gx_K (a := a) (b := b) (t := t) (u := 1) hlt t0 t1 n1 n2 (by grind) (by grind) (by rw [z1]; grind) (by rw [z1]; grind) (by grind) (by rw [z1]; grind) hf
        grind
      · -- below, above
        obtain ⟨t, t0, t1, th, tz⟩ := gx_hgt (a := a) (b := b) (y := z.2) (by grind) (by grind) (by grind)
        obtain ⟨u, u0, u1, uh, uz⟩ := gx_hgt (a := a) (b := b) (y := w.2) (by grind) (by grind) (by grind)
        have hz := tz z rfl
        have hw := uz w rfl
        have s1 := gx_sgn (k := b.2 - a.2) (v := (gx_at a b t).1 - z.1) (by grind)
        have s2 := gx_sgn (k := b.2 - a.2) (v := (gx_at a b u).1 - w.1) (by grind)
        by_cases hlt : z.2 < w.2
        · have hw1 : gx_turn z w (gx_at a b t) = (w.2 - z.2) * (z.1 - (gx_at a b t).1) := by
            generalize gx_at a b t = q at *; simp only [gx_turn]; grind
          have hw2 : gx_turn z w (gx_at a b u) = (w.2 - z.2) * (w.1 - (gx_at a b u).1) := by
            generalize gx_at a b u = q at *; simp only [gx_turn]; grind
          have s3 := gx_sgn (k := w.2 - z.2) (v := z.1 - (gx_at a b t).1) (by grind)
          have s4 := gx_sgn (k := w.2 - z.2) (v := w.1 - (gx_at a b u).1) (by grind)
          have k1 : ¬ (z.1 ≤ (gx_at a b t).1 ∧ (gx_at a b u).1 ≤ w.1) := fun h => gx_K (a := a) (b := b) (t := t) (u := u) hlt t0 t1 u0 u1 (by grind) (by grind) (by grind) (by grind) (by grind) (by grind) hf
          have k2 : ¬ ((gx_at a b t).1 ≤ z.1 ∧ w.1 ≤ (gx_at a b u).1) := fun h => gx_K (a := a) (b := b) (t := u) (u := t) hlt u0 u1 t0 t1 (by grind) (by grind) (by grind) (by grind) (by grind) (by grind) hf
          grind
        · have heq : z.2 = w.2 := by grind
          have hz2 := tz w heq.symm
          have s5 := gx_sgn (k := b.2 - a.2) (v := (gx_at a b t).1 - w.1) (by grind)
          have k1 : ¬ (z.1 ≤ (gx_at a b t).1 ∧ (gx_at a b t).1 ≤ w.1) := fun h => gx_K0 heq t0 t1 (by grind) (Or.inl h) hf
          have k2 : ¬ (w.1 ≤ (gx_at a b t).1 ∧ (gx_at a b t).1 ≤ z.1) := fun h => gx_K0 heq t0 t1 (by grind) (Or.inr h) hf
          grind
