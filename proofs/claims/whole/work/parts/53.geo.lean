/-! the tests of sides: on, meet, overlap -/
theorem gx_on_iff (a b v : Rat × Rat) : gx_on a b v ↔ gx_turn a b v = 0 ∧ (a.1 ≤ v.1 ∨ b.1 ≤ v.1) ∧ (v.1 ≤ a.1 ∨ v.1 ≤ b.1) ∧ (a.2 ≤ v.2 ∨ b.2 ≤ v.2) ∧ (v.2 ≤ a.2 ∨ v.2 ≤ b.2) := by
  constructor
  · rintro ⟨t, t0, t1, rfl⟩
    have hb : ∀ x y : Rat, (x ≤ x + t * (y - x) ∨ y ≤ x + t * (y - x)) ∧ (x + t * (y - x) ≤ x ∨ x + t * (y - x) ≤ y) := by
      intro x y
      by_cases h : x ≤ y
      · have := Rat.mul_nonneg (a := t) (b := y - x) t0 (by grind)
        have := Rat.mul_nonneg (a := 1 - t) (b := y - x) (by grind) (by grind)
        constructor <;> grind
      · have := Rat.mul_nonneg (a := t) (b := x - y) t0 (by grind)
        have := Rat.mul_nonneg (a := 1 - t) (b := x - y) (by grind) (by grind)
        constructor <;> grind
    exact ⟨by simp only [gx_turn, gx_at]; grind, (hb a.1 b.1).1, (hb a.1 b.1).2, (hb a.2 b.2).1, (hb a.2 b.2).2⟩
  · rintro ⟨ht, b1, b2, b3, b4⟩
    obtain ⟨a1, a2⟩ := a
    obtain ⟨c1, c2⟩ := b
    obtain ⟨v1, v2⟩ := v
    simp only [gx_turn, gx_on, gx_at, Prod.mk.injEq] at *
    by_cases x1 : a1 < c1
    · have hs := gx_divle (a := v1 - a1) (b := c1 - a1) (by grind) (by grind) (by grind)
      exact ⟨(v1 - a1) / (c1 - a1), hs.1, hs.2, by grind, by grind⟩
    · by_cases x2 : c1 < a1
      · have hs := gx_divle (a := a1 - v1) (b := a1 - c1) (by grind) (by grind) (by grind)
        exact ⟨(a1 - v1) / (a1 - c1), hs.1, hs.2, by grind, by grind⟩
      · have x3 : a1 = c1 := by grind
        subst x3
        by_cases y1 : a2 < c2
        · have hs := gx_divle (a := v2 - a2) (b := c2 - a2) (by grind) (by grind) (by grind)
          exact ⟨(v2 - a2) / (c2 - a2), hs.1, hs.2, by grind, by grind⟩
        · by_cases y2 : c2 < a2
          · have hs := gx_divle (a := a2 - v2) (b := a2 - c2) (by grind) (by grind) (by grind)
            exact ⟨(a2 - v2) / (a2 - c2), hs.1, hs.2, by grind, by grind⟩
          · exact ⟨0, by grind, by grind, by grind, by grind⟩
def gx_lt (p q : Rat × Rat) : Prop := p.1 < q.1 ∨ (p.1 = q.1 ∧ p.2 < q.2)
theorem gx_lt_tri (p q : Rat × Rat) : gx_lt p q ∨ p = q ∨ gx_lt q p := by
  unfold gx_lt
  rcases gx_tri p.1 q.1 with e | e | e
  · exact Or.inl (Or.inl e)
  · rcases gx_tri p.2 q.2 with f | f | f
    · exact Or.inl (Or.inr ⟨e, f⟩)
    · exact Or.inr (Or.inl (Prod.ext e f))
    · exact Or.inr (Or.inr (Or.inr ⟨e.symm, f⟩))
  · exact Or.inr (Or.inr (Or.inl e))
/-- along a line the order is the order of the points -/
theorem gx_lt_at {a b : Rat × Rat} (h : gx_lt a b) (x y : Rat) : gx_lt (gx_at a b x) (gx_at a b y) ↔ x < y := by
  unfold gx_lt at *
  simp only [gx_at]
  rcases h with h | ⟨h, k⟩
  · have := gx_sgn (k := b.1 - a.1) (v := y - x) (by grind)
    constructor
    · rintro (h | ⟨h, _⟩)
      · grind
      · exfalso
        have : (y - x) * (b.1 - a.1) = 0 := by grind
        have hne : b.1 - a.1 ≠ 0 := by grind
        have : y = x := by grind
        subst this; grind
    · intro h; left; grind
  · have := gx_sgn (k := b.2 - a.2) (v := y - x) (by grind)
    rw [h]
    constructor
    · rintro (h | ⟨_, h⟩)
      · grind
      · grind
    · intro h; right; constructor <;> grind
theorem gx_par {a b p : Rat × Rat} (hab : a ≠ b) (h : gx_turn a b p = 0) : ∃ x, p = gx_at a b x := by
  obtain ⟨a1, a2⟩ := a
  obtain ⟨b1, b2⟩ := b
  obtain ⟨p1, p2⟩ := p
  have n1 : ¬ (a1 = b1 ∧ a2 = b2) := by intro h; apply hab; simp only [Prod.mk.injEq]; exact h
  simp only [gx_turn, gx_at, Prod.mk.injEq] at *
  by_cases e : a1 = b1
  · have : b2 - a2 ≠ 0 := by grind
    exact ⟨(p2 - a2) / (b2 - a2), by grind, by grind⟩
  · have : b1 - a1 ≠ 0 := by grind
    exact ⟨(p1 - a1) / (b1 - a1), by grind, by grind⟩
theorem gx_on_at {a b : Rat × Rat} (hab : a ≠ b) (x : Rat) : gx_on a b (gx_at a b x) ↔ 0 ≤ x ∧ x ≤ 1 := by
  constructor
  · rintro ⟨t, t0, t1, h⟩
    have := gx_at_inj hab h
    subst this; exact ⟨t0, t1⟩
  · intro h; exact ⟨x, h.1, h.2, rfl⟩
/-- two sides on one line -/
theorem gx_col {a b : Rat × Rat} {x y : Rat} (hab : a ≠ b) : ¬ gx_free a b (gx_at a b x) (gx_at a b y) ↔ ((0 ≤ x ∨ 0 ≤ y) ∧ (x ≤ 1 ∨ y ≤ 1)) := by
  have hc : ∀ s, gx_at (gx_at a b x) (gx_at a b y) s = gx_at a b (x + s * (y - x)) := by intro s; simp only [gx_at, Prod.mk.injEq]; constructor <;> grind
  constructor
  · intro h
    refine Classical.byContradiction (fun hn => h ?_)
    intro t s t0 t1 s0 s1 k
    rw [hc] at k
    have k1 := gx_at_inj hab k
    have c1 := (gx_conv (a := x) (b := y) (k := 0) s0 s1).2
    have c2 := (gx_conv (a := x) (b := y) (k := 1) s0 s1).1
    grind
  · intro h hf
    -- a point of both
    have hp : ∃ t s : Rat, 0 ≤ t ∧ t ≤ 1 ∧ 0 ≤ s ∧ s ≤ 1 ∧ t = x + s * (y - x) := by
      by_cases e1 : 0 ≤ x ∧ x ≤ 1
      · exact ⟨x, 0, e1.1, e1.2, by grind, by grind, by grind⟩
      · by_cases e2 : 0 ≤ y ∧ y ≤ 1
        · exact ⟨y, 1, e2.1, e2.2, by grind, by grind, by grind⟩
        · -- x and y on both sides of all
          by_cases e3 : x < y
          · have hs := gx_divle (a := - x) (b := y - x) (by grind) (by grind) (by grind)
            have hd : y - x ≠ 0 := by grind
            exact ⟨0, - x / (y - x), by grind, by grind, hs.1, hs.2, by grind⟩
          · have hs := gx_divle (a := x) (b := x - y) (by grind) (by grind) (by grind)
            have hd : x - y ≠ 0 := by grind
            exact ⟨0, x / (x - y), by grind, by grind, hs.1, hs.2, by grind⟩
    obtain ⟨t, s, t0, t1, s0, s1, k⟩ := hp
    exact hf t s t0 t1 s0 s1 (by rw [hc, k])
def gx_opp (x y : Rat) : Prop := (x ≤ 0 ∧ 0 ≤ y) ∨ (y ≤ 0 ∧ 0 ≤ x)
/-- sides not on one line: they meet just where each has ends on both sides of the other -/
theorem gx_meet_opp {a b p q : Rat × Rat} (hab : a ≠ b) (hpq : p ≠ q) (hn : ¬ (gx_turn a b p = 0 ∧ gx_turn a b q = 0)) :
    ¬ gx_free a b p q ↔ gx_opp (gx_turn a b p) (gx_turn a b q) ∧ gx_opp (gx_turn p q a) (gx_turn p q b) := by
  have i1 : gx_turn p q a - gx_turn p q b = gx_turn a b q - gx_turn a b p := by simp only [gx_turn]; grind
  constructor
  · intro h
    have hex : ∃ t s : Rat, 0 ≤ t ∧ t ≤ 1 ∧ 0 ≤ s ∧ s ≤ 1 ∧ gx_at a b t = gx_at p q s := by
      refine Classical.byContradiction (fun hn => h ?_)
      intro t s t0 t1 s0 s1 k
      exact hn ⟨t, s, t0, t1, s0, s1, k⟩
    obtain ⟨t, s, t0, t1, s0, s1, k⟩ := hex
    have k1 : a.1 + t * (b.1 - a.1) = p.1 + s * (q.1 - p.1) := congrArg Prod.fst k
    have k2 : a.2 + t * (b.2 - a.2) = p.2 + s * (q.2 - p.2) := congrArg Prod.snd k
    have j1 : gx_turn a b p + s * (gx_turn a b q - gx_turn a b p) = 0 := by simp only [gx_turn]; grind
    have j2 : gx_turn p q a + t * (gx_turn p q b - gx_turn p q a) = 0 := by simp only [gx_turn]; grind
    have c1 := fun k => (gx_conv (a := gx_turn a b p) (b := gx_turn a b q) (k := k) s0 s1)
    have c2 := fun k => (gx_conv (a := gx_turn p q a) (b := gx_turn p q b) (k := k) t0 t1)
    unfold gx_opp
    constructor
    · have := c1 0; grind
    · have := c2 0; grind
  · rintro ⟨h1, h2⟩ hf
    have hne : gx_turn a b p - gx_turn a b q ≠ 0 := by
      intro k; apply hn; unfold gx_opp at h1; grind
    have hne2 : gx_turn p q a - gx_turn p q b ≠ 0 := by grind
    have hfr : ∀ x y : Rat, gx_opp x y → x - y ≠ 0 → 0 ≤ x / (x - y) ∧ x / (x - y) ≤ 1 := by
      intro x y h hd
      rcases h with h | h
      · have := gx_divle (a := -x) (b := y - x) (by grind) (by grind) (by grind)
        have hd2 : y - x ≠ 0 := by grind
        have e : x / (x - y) = -x / (y - x) := by grind
        rw [e]; exact this
      · exact gx_divle (a := x) (b := x - y) h.2 (by grind) (by grind)
    have f1 := hfr _ _ h1 hne
    have f2 := hfr _ _ h2 hne2
    refine hf (gx_turn p q a / (gx_turn p q a - gx_turn p q b)) (gx_turn a b p / (gx_turn a b p - gx_turn a b q)) f2.1 f2.2 f1.1 f1.2 ?_
    generalize hT : gx_turn p q a / (gx_turn p q a - gx_turn p q b) = T
    generalize hU : gx_turn a b p / (gx_turn a b p - gx_turn a b q) = U
    have hT2 : T * (gx_turn p q a - gx_turn p q b) = gx_turn p q a := by rw [← hT]; grind
    have hU2 : U * (gx_turn a b p - gx_turn a b q) = gx_turn a b p := by rw [← hU]; grind
    rw [i1] at hT2
    have hne3 : gx_turn a b q - gx_turn a b p ≠ 0 := by grind
    clear hT hU f1 f2 hfr h1 h2 hf hn hne hne2 i1
    have e1 : (gx_turn a b q - gx_turn a b p) * (a.1 + T * (b.1 - a.1) - (p.1 + U * (q.1 - p.1))) = 0 := by
      simp only [gx_turn] at *; grind
    have e2 : (gx_turn a b q - gx_turn a b p) * (a.2 + T * (b.2 - a.2) - (p.2 + U * (q.2 - p.2))) = 0 := by
      simp only [gx_turn] at *; grind
    simp only [gx_at, Prod.mk.injEq]
    constructor
    · rcases Rat.mul_eq_zero.mp e1 with k | k
      · exact absurd k hne3
      · grind
    · rcases Rat.mul_eq_zero.mp e2 with k | k
      · exact absurd k hne3
      · grind
