/-! meeting, as the class and as the reference test it -/
theorem gx_common {a b p q : Rat × Rat} (h : ¬ gx_free a b p q) : ∃ t s : Rat, 0 ≤ t ∧ t ≤ 1 ∧ 0 ≤ s ∧ s ≤ 1 ∧ gx_at a b t = gx_at p q s := by
  refine Classical.byContradiction (fun hn => h ?_)
  intro t s t0 t1 s0 s1 k
  exact hn ⟨t, s, t0, t1, s0, s1, k⟩
theorem gx_meet_cases {a b p q : Rat × Rat} (hab : a ≠ b) : ¬ gx_free a b p q ↔
    (((gx_turn a b p < 0 ∧ 0 < gx_turn a b q) ∨ (gx_turn a b q < 0 ∧ 0 < gx_turn a b p)) ∧ ((gx_turn p q a < 0 ∧ 0 < gx_turn p q b) ∨ (gx_turn p q b < 0 ∧ 0 < gx_turn p q a))) ∨
    gx_on a b p ∨ gx_on a b q ∨ gx_on p q a ∨ gx_on p q b := by
  constructor
  · intro h
    obtain ⟨t, s, t0, t1, s0, s1, k⟩ := gx_common h
    by_cases e1 : t = 0
    · subst e1; rw [gx_at0] at k; exact Or.inr (Or.inr (Or.inr (Or.inl ⟨s, s0, s1, k.symm⟩)))
    by_cases e2 : t = 1
    · subst e2; rw [gx_at1] at k; exact Or.inr (Or.inr (Or.inr (Or.inr ⟨s, s0, s1, k.symm⟩)))
    by_cases e3 : s = 0
    · subst e3; rw [gx_at0] at k; exact Or.inr (Or.inl ⟨t, t0, t1, k⟩)
    by_cases e4 : s = 1
    · subst e4; rw [gx_at1] at k; exact Or.inr (Or.inr (Or.inl ⟨t, t0, t1, k⟩))
    have k1 : a.1 + t * (b.1 - a.1) = p.1 + s * (q.1 - p.1) := congrArg Prod.fst k
    have k2 : a.2 + t * (b.2 - a.2) = p.2 + s * (q.2 - p.2) := congrArg Prod.snd k
    have j1 : gx_turn a b p = -(s * (gx_turn a b q - gx_turn a b p)) := by simp only [gx_turn]; grind
    have j2 : gx_turn p q a = t * (gx_turn a b q - gx_turn a b p) := by simp only [gx_turn]; grind
    have j3 : gx_turn p q b = -((1 - t) * (gx_turn a b q - gx_turn a b p)) := by simp only [gx_turn]; grind
    have j4 : gx_turn a b q = (1 - s) * (gx_turn a b q - gx_turn a b p) := by grind
    generalize gx_turn a b q - gx_turn a b p = D at j1 j2 j3 j4
    have g1 := gx_sgn (k := s) (v := D) (by grind)
    have g2 := gx_sgn (k := t) (v := D) (by grind)
    have g3 := gx_sgn (k := 1 - t) (v := D) (by grind)
    have g4 := gx_sgn (k := 1 - s) (v := D) (by grind)
    rcases gx_tri D 0 with e | e | e
    · left; constructor
      · right; constructor <;> grind
      · left; constructor <;> grind
    · right
      have z1 : gx_turn a b p = 0 := by rw [j1, e]; grind
      have z2 : gx_turn a b q = 0 := by rw [j4, e]; grind
      obtain ⟨x, rfl⟩ := gx_par hab z1
      obtain ⟨y, rfl⟩ := gx_par hab z2
      have hc := (gx_col (x := x) (y := y) hab).mp h
      rw [gx_on_at hab, gx_on_at hab]
      by_cases f1 : 0 ≤ x ∧ x ≤ 1
      · exact Or.inl f1
      · by_cases f2 : 0 ≤ y ∧ y ≤ 1
        · exact Or.inr (Or.inl f2)
        · right; right; left
          by_cases f3 : x < y
          · have hs := gx_divle (a := - x) (b := y - x) (by grind) (by grind) (by grind)
            have hd : y - x ≠ 0 := by grind
            refine ⟨- x / (y - x), hs.1, hs.2, ?_⟩
            have hm : (- x / (y - x)) * (y - x) = - x := by grind
            generalize - x / (y - x) = m at hm
            simp only [gx_at, Prod.ext_iff]; constructor <;> grind
          · have hs := gx_divle (a := x) (b := x - y) (by grind) (by grind) (by grind)
            have hd : x - y ≠ 0 := by grind
            refine ⟨x / (x - y), hs.1, hs.2, ?_⟩
            have hm : (x / (x - y)) * (x - y) = x := by grind
            generalize x / (x - y) = m at hm
            simp only [gx_at, Prod.ext_iff]; constructor <;> grind
    · left; constructor
      · left; constructor <;> grind
      · right; constructor <;> grind
  · rintro (⟨h1, h2⟩ | ⟨t, t0, t1, k⟩ | ⟨t, t0, t1, k⟩ | ⟨t, t0, t1, k⟩ | ⟨t, t0, t1, k⟩)
    · have hpq : p ≠ q := by
        intro e; subst e
        rcases h1 with h1 | h1 <;> grind
      refine (gx_meet_opp hab hpq (by grind)).mpr ⟨?_, ?_⟩ <;> unfold gx_opp <;> grind
    · intro hf; exact hf t 0 t0 t1 (by grind) (by grind) (by rw [gx_at0]; exact k)
    · intro hf; exact hf t 1 t0 t1 (by grind) (by grind) (by rw [gx_at1]; exact k)
    · intro hf; exact hf 0 t (by grind) (by grind) t0 t1 (by rw [gx_at0]; exact k.symm)
    · intro hf; exact hf 1 t (by grind) (by grind) t0 t1 (by rw [gx_at1]; exact k.symm)
theorem gx_lt_trans {p q r : Rat × Rat} (h : gx_lt p q) (k : gx_lt q r) : gx_lt p r := by unfold gx_lt at *; grind
theorem gx_lt_irr {p : Rat × Rat} : ¬ gx_lt p p := by unfold gx_lt; grind
/-- points of a side lie between its ends, by the order -/
theorem gx_lt_on {a b z : Rat × Rat} (h : gx_on a b z) : ¬ (gx_lt z a ∧ gx_lt z b) ∧ ¬ (gx_lt a z ∧ gx_lt b z) := by
  obtain ⟨t, t0, t1, rfl⟩ := h
  rcases gx_lt_tri a b with e | e | e
  · have h1 := gx_lt_at e t 0
    have h2 := gx_lt_at e 1 t
    rw [gx_at0] at h1
    rw [gx_at1] at h2
    constructor
    · rintro ⟨k, _⟩; have := h1.mp k; grind
    · rintro ⟨_, k⟩; have := h2.mp k; grind
  · subst e
    have : gx_at a a t = a := by simp only [gx_at]; grind
    rw [this]
    exact ⟨fun k => gx_lt_irr k.1, fun k => gx_lt_irr k.1⟩
  · have h1 := gx_lt_at e (1 - t) 0
    have h2 := gx_lt_at e 1 (1 - t)
    rw [gx_at0, ← gx_at_rev] at h1
    rw [gx_at1, ← gx_at_rev] at h2
    constructor
    · rintro ⟨_, k⟩; have := h1.mp k; grind
    · rintro ⟨k, _⟩; have := h2.mp k; grind
/-- on one line: meeting by the order -/
theorem gx_col_lt {a b p q : Rat × Rat} (hab : a ≠ b) (hp : gx_turn a b p = 0) (hq : gx_turn a b q = 0) :
    ¬ gx_free a b p q ↔ ¬ (gx_lt p a ∧ gx_lt p b ∧ gx_lt q a ∧ gx_lt q b) ∧ ¬ (gx_lt a p ∧ gx_lt b p ∧ gx_lt a q ∧ gx_lt b q) := by
  obtain ⟨x, rfl⟩ := gx_par hab hp
  obtain ⟨y, rfl⟩ := gx_par hab hq
  rw [gx_col hab]
  rcases gx_lt_tri a b with e | e | e
  · have h1 := gx_lt_at e x 0
    have h2 := gx_lt_at e x 1
    have h3 := gx_lt_at e y 0
    have h4 := gx_lt_at e y 1
    have h5 := gx_lt_at e 0 x
    have h6 := gx_lt_at e 1 x
    have h7 := gx_lt_at e 0 y
    have h8 := gx_lt_at e 1 y
    rw [gx_at0] at h1 h3 h5 h7
    rw [gx_at1] at h2 h4 h6 h8
    rw [h1, h2, h3, h4, h5, h6, h7, h8]
    clear h1 h2 h3 h4 h5 h6 h7 h8 hp hq
    constructor
    · intro h; constructor <;> grind
    · rintro ⟨h, k⟩; constructor <;> grind
  · exact absurd e hab
  · have h1 := gx_lt_at e (1 - x) 0
    have h2 := gx_lt_at e (1 - x) 1
    have h3 := gx_lt_at e (1 - y) 0
    have h4 := gx_lt_at e (1 - y) 1
    have h5 := gx_lt_at e 0 (1 - x)
    have h6 := gx_lt_at e 1 (1 - x)
    have h7 := gx_lt_at e 0 (1 - y)
    have h8 := gx_lt_at e 1 (1 - y)
    rw [gx_at0, ← gx_at_rev] at h1 h3 h5 h7
    rw [gx_at1, ← gx_at_rev] at h2 h4 h6 h8
    rw [h1, h2, h3, h4, h5, h6, h7, h8]
    clear h1 h2 h3 h4 h5 h6 h7 h8 hp hq
    constructor
    · intro h; constructor <;> grind
    · rintro ⟨h, k⟩; constructor <;> grind
/-- sides that meet overlap by the order -/
theorem gx_meet_lt {a b p q : Rat × Rat} (h : ¬ gx_free a b p q) : ¬ (gx_lt p a ∧ gx_lt p b ∧ gx_lt q a ∧ gx_lt q b) ∧ ¬ (gx_lt a p ∧ gx_lt b p ∧ gx_lt a q ∧ gx_lt b q) := by
  obtain ⟨t, s, t0, t1, s0, s1, k⟩ := gx_common h
  have h1 := gx_lt_on (a := a) (b := b) ⟨t, t0, t1, rfl⟩
  have h2 := gx_lt_on (a := p) (b := q) ⟨s, s0, s1, rfl⟩
  rw [← k] at h2
  generalize gx_at a b t = z at *
  unfold gx_lt at *
  constructor
  · rintro ⟨k1, k2, k3, k4⟩
    have := h1.1; have := h2.2
    grind
  · rintro ⟨k1, k2, k3, k4⟩
    have := h1.2; have := h2.1
    grind
