/-! a point near a side; small balls; simple rings -/
/-- a point that sees an inner point of a side -/
theorem gx_see {a b z h : Rat × Rat} {t : Rat} {Q : List ((Rat × Rat) × (Rat × Rat))} (t0 : 0 < t) (t1 : t < 1) (hh : h = gx_at a b t)
    (hp : gx_path Q b a) (hf : ∀ s ∈ Q, gx_free s.1 s.2 z h) (hz : gx_turn a b z ≠ 0) :
    gx_wn ((a, b) :: Q) z = gx_wn Q h - gx_off a b + (if 0 < gx_turn a b z then 1 else 0) := by
  obtain ⟨a1, a2⟩ := a
  obtain ⟨b1, b2⟩ := b
  have hd2 : ∃ p1 p2 : Rat, b1 = a1 + p1 ∧ b2 = a2 + p2 := ⟨b1 - a1, b2 - a2, by grind, by grind⟩
  obtain ⟨p1, p2, rfl, rfl⟩ := hd2
  have hz2 : ∃ q1 q2 : Rat, z = (a1 + t * p1 + q1, a2 + t * p2 + q2) := ⟨z.1 - a1 - t * p1, z.2 - a2 - t * p2, by grind⟩
  obtain ⟨q1, q2, rfl⟩ := hz2
  have hh' : h = (a1 + t * p1, a2 + t * p2) := by rw [hh]; simp only [gx_at, Prod.mk.injEq]; grind
  subst hh'
  have e1 : gx_turn (a1, a2) (a1 + p1, a2 + p2) (a1 + t * p1 + q1, a2 + t * p2 + q2) = p1 * q2 - p2 * q1 := by simp only [gx_turn]; grind
  have e2 : gx_turn (a1 + t * p1 + q1, a2 + t * p2 + q2) (a1 + t * p1, a2 + t * p2) (a1, a2) = -(t * (p1 * q2 - p2 * q1)) := by simp only [gx_turn]; grind
  have e3 : gx_turn (a1 + t * p1 + q1, a2 + t * p2 + q2) (a1 + t * p1, a2 + t * p2) (a1 + p1, a2 + p2) = (1 - t) * (p1 * q2 - p2 * q1) := by simp only [gx_turn]; grind
  have e4 : gx_turn (a1 + t * p1, a2 + t * p2) (a1 + t * p1 + q1, a2 + t * p2 + q2) (a1, a2) = t * (p1 * q2 - p2 * q1) := by simp only [gx_turn]; grind
  have e5 : gx_turn (a1 + t * p1, a2 + t * p2) (a1 + t * p1 + q1, a2 + t * p2 + q2) (a1 + p1, a2 + p2) = -((1 - t) * (p1 * q2 - p2 * q1)) := by simp only [gx_turn]; grind
  rw [e1] at hz ⊢
  have s1 := gx_sgn (k := t) (v := p1 * q2 - p2 * q1) t0
  have s2 := gx_sgn (k := 1 - t) (v := p1 * q2 - p2 * q1) (by grind)
  have c1 := gx_scale (p := p2) t0 t1
  have m1 : p2 = 0 → p1 * q2 - p2 * q1 = q2 * p1 := by intro h; rw [h]; grind
  have m3 : 0 < q2 → (0 < q2 * p1 ↔ 0 < p1) ∧ (q2 * p1 < 0 ↔ p1 < 0) := fun h => gx_sgn h
  have m4 : q2 < 0 → (0 < (-q2) * p1 ↔ 0 < p1) ∧ ((-q2) * p1 < 0 ↔ p1 < 0) := fun h => gx_sgn (by grind)
  have key : (q2 ≤ 0 → gx_cr (a1, a2) (a1 + p1, a2 + p2) (a1 + t * p1 + q1, a2 + t * p2 + q2) + (gx_U (a1 + t * p1 + q1, a2 + t * p2 + q2) (a1 + t * p1, a2 + t * p2) (a1, a2) - gx_U (a1 + t * p1 + q1, a2 + t * p2 + q2) (a1 + t * p1, a2 + t * p2) (a1 + p1, a2 + p2)) = - gx_off (a1, a2) (a1 + p1, a2 + p2) + (if 0 < p1 * q2 - p2 * q1 then 1 else 0)) ∧
      (0 ≤ q2 → gx_cr (a1, a2) (a1 + p1, a2 + p2) (a1 + t * p1 + q1, a2 + t * p2 + q2) - (gx_U (a1 + t * p1, a2 + t * p2) (a1 + t * p1 + q1, a2 + t * p2 + q2) (a1, a2) - gx_U (a1 + t * p1, a2 + t * p2) (a1 + t * p1 + q1, a2 + t * p2 + q2) (a1 + p1, a2 + p2)) = - gx_off (a1, a2) (a1 + p1, a2 + p2) + (if 0 < p1 * q2 - p2 * q1 then 1 else 0)) := by
    simp only [gx_cr, gx_U, gx_off, e1, e2, e3, e4, e5]
    clear e1 e2 e3 e4 e5 hh hp hf
    generalize t * p2 = P at *
    generalize t * p1 = W at *
    generalize t * (p1 * q2 - p2 * q1) = K1 at *
    generalize (1 - t) * (p1 * q2 - p2 * q1) = K2 at *
    generalize hK : p1 * q2 - p2 * q1 = K at *
    rcases gx_tri p2 0 with a1 | a1 | a1 <;> rcases gx_tri q2 0 with a2 | a2 | a2 <;> rcases gx_tri K 0 with a3 | a3 | a3 <;> first | (constructor <;> intro a4 <;> grind) | skip
  simp only [gx_wn]
  by_cases ho : q2 ≤ 0
  · have := gx_tele hp (z := (a1 + t * p1 + q1, a2 + t * p2 + q2)) (w := (a1 + t * p1, a2 + t * p2)) (by simp only; grind) hf
    have := key.1 ho; omega
  · have := gx_tele (z := (a1 + t * p1, a2 + t * p2)) (w := (a1 + t * p1 + q1, a2 + t * p2 + q2)) hp (by simp only; grind) (fun s hs => gx_free_rev' (hf s hs))
    have := key.2 (by grind); omega
def gx_on (a b q : Rat × Rat) : Prop := ∃ t : Rat, 0 ≤ t ∧ t ≤ 1 ∧ gx_at a b t = q
def gx_near (v q : Rat × Rat) (d : Rat) : Prop := v.1 - d ≤ q.1 ∧ q.1 ≤ v.1 + d ∧ v.2 - d ≤ q.2 ∧ q.2 ≤ v.2 + d
theorem gx_mulabs {x y d m : Rat} (h1 : -d ≤ x) (h2 : x ≤ d) (h3 : -m ≤ y) (h4 : y ≤ m) : -(d * m) ≤ x * y ∧ x * y ≤ d * m := by
  have a1 := Rat.mul_nonneg (a := d - x) (b := m - y) (by grind) (by grind)
  have a2 := Rat.mul_nonneg (a := d + x) (b := m + y) (by grind) (by grind)
  have a3 := Rat.mul_nonneg (a := d - x) (b := m + y) (by grind) (by grind)
  have a4 := Rat.mul_nonneg (a := d + x) (b := m - y) (by grind) (by grind)
  constructor <;> grind
theorem gx_bd (x : Rat) : ∃ m : Rat, 1 ≤ m ∧ -m ≤ x ∧ x ≤ m := by
  by_cases h : 0 ≤ x
  · exact ⟨1 + x, by grind, by grind, by grind⟩
  · exact ⟨1 - x, by grind, by grind, by grind⟩
theorem gx_conv {a b t k : Rat} (t0 : 0 ≤ t) (t1 : t ≤ 1) : (k < a → k < b → k < a + t * (b - a)) ∧ (a < k → b < k → a + t * (b - a) < k) := by
  constructor
  · intro h1 h2
    by_cases ht : t = 1
    · subst ht; grind
    · have e1 := Rat.mul_nonneg (a := t) (b := b - k) t0 (by grind)
      have e2 := Rat.mul_pos (a := 1 - t) (b := a - k) (by grind) (by grind)
      grind
  · intro h1 h2
    by_cases ht : t = 1
    · subst ht; grind
    · have e1 := Rat.mul_nonneg (a := t) (b := k - b) t0 (by grind)
      have e2 := Rat.mul_pos (a := 1 - t) (b := k - a) (by grind) (by grind)
      grind
/-- a point that isn't on a side has a ball that the side doesn't meet -/
theorem gx_ball1 {a b v : Rat × Rat} (h : ¬ gx_on a b v) : ∃ d : Rat, 0 < d ∧ ∀ q, gx_near v q d → ¬ gx_on a b q := by
  by_cases ht : gx_turn a b v = 0
  · by_cases hbox : (a.1 ≤ v.1 ∨ b.1 ≤ v.1) ∧ (v.1 ≤ a.1 ∨ v.1 ≤ b.1) ∧ (a.2 ≤ v.2 ∨ b.2 ≤ v.2) ∧ (v.2 ≤ a.2 ∨ v.2 ≤ b.2)
    · exfalso; apply h
      obtain ⟨b1, b2, b3, b4⟩ := hbox
      obtain ⟨a1, a2⟩ := a
      obtain ⟨c1, c2⟩ := b
      obtain ⟨v1, v2⟩ := v
      simp only [gx_turn, gx_on, gx_at, Prod.mk.injEq] at *
      by_cases x1 : a1 < c1
      · have hs := gx_divle (a := v1 - a1) (b := c1 - a1) (by grind) (by grind) (by grind)
        exact ⟨(v1 - a1) / (c1 - a1), hs.1, hs.2, by grind, by grind⟩
      · by_cases x2 : c1 < a1
        · have hs := gx_divle (a := a1 - v1) (b := a1 - c1) (by grind) (by grind) (by grind)
          exact ⟨(a1 - v1) / (a1 - c1), hs.1, hs.2, by grind, by grind⟩
        · have x3 : a1 = c1 := by grind
          subst x3
          by_cases y1 : a2 < c2
          · have hs := gx_divle (a := v2 - a2) (b := c2 - a2) (by grind) (by grind) (by grind)
            exact ⟨(v2 - a2) / (c2 - a2), hs.1, hs.2, by grind, by grind⟩
          · by_cases y2 : c2 < a2
            · have hs := gx_divle (a := a2 - v2) (b := a2 - c2) (by grind) (by grind) (by grind)
              exact ⟨(a2 - v2) / (a2 - c2), hs.1, hs.2, by grind, by grind⟩
            · exact ⟨0, by grind, by grind, by grind, by grind⟩
    · have hgap : ∃ d : Rat, 0 < d ∧ ((v.1 + d < a.1 ∧ v.1 + d < b.1) ∨ (a.1 < v.1 - d ∧ b.1 < v.1 - d) ∨ (v.2 + d < a.2 ∧ v.2 + d < b.2) ∨ (a.2 < v.2 - d ∧ b.2 < v.2 - d)) := by
        have hmin : ∀ x y : Rat, 0 < x → 0 < y → ∃ d : Rat, 0 < d ∧ d < x ∧ d < y := by
          intro x y hx hy
          by_cases hxy : x ≤ y
          · exact ⟨x / 2, by grind, by grind, by grind⟩
          · exact ⟨y / 2, by grind, by grind, by grind⟩
        by_cases c1 : a.1 ≤ v.1 ∨ b.1 ≤ v.1
        · by_cases c2 : v.1 ≤ a.1 ∨ v.1 ≤ b.1
          · by_cases c3 : a.2 ≤ v.2 ∨ b.2 ≤ v.2
            · obtain ⟨d, h0, h1, h2⟩ := hmin (v.2 - a.2) (v.2 - b.2) (by grind) (by grind)
              exact ⟨d, h0, by grind⟩
            · obtain ⟨d, h0, h1, h2⟩ := hmin (a.2 - v.2) (b.2 - v.2) (by grind) (by grind)
              exact ⟨d, h0, by grind⟩
          · obtain ⟨d, h0, h1, h2⟩ := hmin (v.1 - a.1) (v.1 - b.1) (by grind) (by grind)
            exact ⟨d, h0, by grind⟩
        · obtain ⟨d, h0, h1, h2⟩ := hmin (a.1 - v.1) (b.1 - v.1) (by grind) (by grind)
          exact ⟨d, h0, by grind⟩
      obtain ⟨d, h0, hg⟩ := hgap
      refine ⟨d, h0, ?_⟩
      rintro q ⟨n1, n2, n3, n4⟩ ⟨t, t0, t1, tq⟩
      subst tq
      simp only [gx_at] at *
      clear h ht hbox
      rcases hg with hg | hg | hg | hg
      · have := (gx_conv (k := v.1 + d) t0 t1).1 hg.1 hg.2; grind
      · have := (gx_conv (k := v.1 - d) t0 t1).2 hg.1 hg.2; grind
      · have := (gx_conv (k := v.2 + d) t0 t1).1 hg.1 hg.2; grind
      · have := (gx_conv (k := v.2 - d) t0 t1).2 hg.1 hg.2; grind
  · obtain ⟨m, m0, m1, m2⟩ := gx_bd (b.1 - a.1)
    obtain ⟨n, n0, n1, n2⟩ := gx_bd (b.2 - a.2)
    have hex : ∃ k : Rat, 0 < k ∧ (k ≤ gx_turn a b v ∨ gx_turn a b v ≤ -k) := by
      by_cases hs : 0 < gx_turn a b v
      · exact ⟨_, hs, Or.inl (by grind)⟩
      · exact ⟨- gx_turn a b v, by grind, Or.inr (by grind)⟩
    obtain ⟨k, k0, k1⟩ := hex
    have hi : 0 < (2 * (m + n))⁻¹ := Rat.inv_pos.mpr (by grind)
    have hd0 : 0 < k * (2 * (m + n))⁻¹ := Rat.mul_pos k0 hi
    have hd1 : k * (2 * (m + n))⁻¹ * (m + n) = k / 2 := by
      have : 2 * (m + n) ≠ 0 := by grind
      grind
    generalize k * (2 * (m + n))⁻¹ = d at hd0 hd1
    refine ⟨d, hd0, ?_⟩
    rintro q ⟨p1, p2, p3, p4⟩ ⟨t, t0, t1, tq⟩
    have hq0 : gx_turn a b q = 0 := by rw [← tq]; simp only [gx_turn, gx_at]; grind
    have w1 := gx_mulabs (x := q.2 - v.2) (y := b.1 - a.1) (d := d) (m := m) (by grind) (by grind) m1 m2
    have w2 := gx_mulabs (x := q.1 - v.1) (y := b.2 - a.2) (d := d) (m := n) (by grind) (by grind) n1 n2
    have hdiff : gx_turn a b v = gx_turn a b q - ((q.2 - v.2) * (b.1 - a.1) - (q.1 - v.1) * (b.2 - a.2)) := by simp only [gx_turn]; grind
    rw [hq0] at hdiff
    generalize gx_turn a b v = T at *
    generalize (q.2 - v.2) * (b.1 - a.1) = X at *
    generalize (q.1 - v.1) * (b.2 - a.2) = Y at *
    rcases k1 with k1 | k1 <;> grind
