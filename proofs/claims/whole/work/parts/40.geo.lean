/-! plane geometry over the rationals: a side, a point, the ray to the right -/
def gx_turn (a b c : Rat × Rat) : Rat := (b.1 - a.1) * (c.2 - a.2) - (b.2 - a.2) * (c.1 - a.1)
def gx_at (a b : Rat × Rat) (t : Rat) : Rat × Rat := (a.1 + t * (b.1 - a.1), a.2 + t * (b.2 - a.2))
def gx_cr (a b z : Rat × Rat) : Int := if a.2 ≤ z.2 ∧ z.2 < b.2 ∧ 0 < gx_turn a b z then 1 else if b.2 ≤ z.2 ∧ z.2 < a.2 ∧ gx_turn a b z < 0 then -1 else 0
def gx_free (a b z w : Rat × Rat) : Prop := ∀ t s : Rat, 0 ≤ t → t ≤ 1 → 0 ≤ s → s ≤ 1 → gx_at a b t ≠ gx_at z w s
def gx_U (z w v : Rat × Rat) : Int := if z.2 < v.2 ∧ v.2 ≤ w.2 ∧ gx_turn z w v < 0 then 1 else 0
theorem gx_divle {a b : Rat} (h0 : 0 ≤ a) (h1 : a ≤ b) (hb : 0 < b) : 0 ≤ a / b ∧ a / b ≤ 1 := by
  have hi : 0 < b⁻¹ := Rat.inv_pos.mpr hb
  have h2 : 0 ≤ a * b⁻¹ := Rat.mul_nonneg h0 (by grind)
  have h3 : 0 ≤ (b - a) * b⁻¹ := Rat.mul_nonneg (by grind) (by grind)
  have h4 : b * b⁻¹ = 1 := by grind
  constructor
  · grind
  · grind
theorem gx_M2 {a b z w : Rat × Rat} {t : Rat} (hzw : z.2 < w.2) (h0 : 0 ≤ t) (h1 : t ≤ 1) (ht : gx_turn z w (gx_at a b t) = 0)
    (hl : z.2 ≤ (gx_at a b t).2) (hu : (gx_at a b t).2 ≤ w.2) : ¬ gx_free a b z w := by
  intro hf
  have hs := gx_divle (a := (gx_at a b t).2 - z.2) (b := w.2 - z.2) (by grind) (by grind) (by grind)
  refine hf t (((gx_at a b t).2 - z.2) / (w.2 - z.2)) h0 h1 hs.1 hs.2 ?_
  have hd : w.2 - z.2 ≠ 0 := by grind
  generalize gx_at a b t = q at *
  obtain ⟨q1, q2⟩ := q
  simp only [gx_turn, gx_at, Prod.mk.injEq] at *
  constructor
  · grind
  · grind
theorem gx_K {a b z w : Rat × Rat} {t u : Rat} (hzw : z.2 < w.2) (h0 : 0 ≤ t) (h1 : t ≤ 1) (k0 : 0 ≤ u) (k1 : u ≤ 1)
    (hl : z.2 ≤ (gx_at a b t).2) (hu : (gx_at a b t).2 ≤ w.2) (kl : z.2 ≤ (gx_at a b u).2) (ku : (gx_at a b u).2 ≤ w.2)
    (ht : gx_turn z w (gx_at a b t) ≤ 0) (hv : 0 ≤ gx_turn z w (gx_at a b u)) : ¬ gx_free a b z w := by
  by_cases hq : gx_turn z w (gx_at a b t) = 0
  · exact gx_M2 hzw h0 h1 hq hl hu
  have hs := gx_divle (a := - gx_turn z w (gx_at a b t)) (b := gx_turn z w (gx_at a b u) - gx_turn z w (gx_at a b t)) (by grind) (by grind) (by grind)
  have hd : gx_turn z w (gx_at a b u) - gx_turn z w (gx_at a b t) ≠ 0 := by grind
  generalize hm : (- gx_turn z w (gx_at a b t)) / (gx_turn z w (gx_at a b u) - gx_turn z w (gx_at a b t)) = m at hs
  have hm2 : m * (gx_turn z w (gx_at a b u) - gx_turn z w (gx_at a b t)) = - gx_turn z w (gx_at a b t) := by grind
  have e1 : 0 ≤ m * u := Rat.mul_nonneg hs.1 k0
  have e2 : 0 ≤ (1 - m) * t := Rat.mul_nonneg (by grind) h0
  have e3 : 0 ≤ m * (1 - u) := Rat.mul_nonneg hs.1 (by grind)
  have e4 : 0 ≤ (1 - m) * (1 - t) := Rat.mul_nonneg (by grind) (by grind)
  have f1 : 0 ≤ m * ((gx_at a b u).2 - z.2) := Rat.mul_nonneg hs.1 (by grind)
  have f2 : 0 ≤ (1 - m) * ((gx_at a b t).2 - z.2) := Rat.mul_nonneg (by grind) (by grind)
  have f3 : 0 ≤ m * (w.2 - (gx_at a b u).2) := Rat.mul_nonneg hs.1 (by grind)
  have f4 : 0 ≤ (1 - m) * (w.2 - (gx_at a b t).2) := Rat.mul_nonneg (by grind) (by grind)
  refine gx_M2 (t := t + m * (u - t)) hzw (by grind) (by grind) ?_ ?_ ?_
  · simp only [gx_turn, gx_at] at *; grind
  · simp only [gx_turn, gx_at] at *; grind
  · simp only [gx_turn, gx_at] at *; grind
