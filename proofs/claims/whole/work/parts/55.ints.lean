/-! points of whole numbers: the class's tests and the reference's -/
def ig_c (p : Int × Int) : Rat × Rat := ((p.1 : Rat), (p.2 : Rat))
def ig_turn (a b d : Int × Int) : Int := (b.1 - a.1) * (d.2 - a.2) - (b.2 - a.2) * (d.1 - a.1)
def ig_ok (p : Int × Int) : Prop := 0 ≤ p.1 ∧ p.1 ≤ 20000 ∧ 0 ≤ p.2 ∧ p.2 ≤ 20000
def ig_pk (p : Int × Int) : Int := p.1 * 32768 + p.2
theorem ig_turn_c (a b d : Int × Int) : gx_turn (ig_c a) (ig_c b) (ig_c d) = ((ig_turn a b d : Int) : Rat) := by
  simp only [gx_turn, ig_c, ig_turn, Rat.intCast_sub, Rat.intCast_mul]
theorem ig_c_inj {a b : Int × Int} : ig_c a = ig_c b ↔ a = b := by
  simp only [ig_c, Prod.ext_iff, Rat.intCast_inj]
theorem ig_ne {a b : Int × Int} (h : a ≠ b) : ig_c a ≠ ig_c b := fun k => h (ig_c_inj.mp k)
theorem ig_le (x y : Int) : ((x : Rat) ≤ (y : Rat)) ↔ x ≤ y := Rat.intCast_le_intCast
theorem ig_ltc (x y : Int) : ((x : Rat) < (y : Rat)) ↔ x < y := Rat.intCast_lt_intCast
theorem ig_turn0 (a b d : Int × Int) : gx_turn (ig_c a) (ig_c b) (ig_c d) = 0 ↔ ig_turn a b d = 0 := by rw [ig_turn_c]; exact Rat.intCast_eq_zero_iff
theorem ig_turnp (a b d : Int × Int) : 0 < gx_turn (ig_c a) (ig_c b) (ig_c d) ↔ 0 < ig_turn a b d := by rw [ig_turn_c]; exact Rat.intCast_pos
theorem ig_turnn (a b d : Int × Int) : gx_turn (ig_c a) (ig_c b) (ig_c d) < 0 ↔ ig_turn a b d < 0 := by rw [ig_turn_c]; exact ig_ltc _ 0
theorem ig_on_c (a b v : Int × Int) : gx_on (ig_c a) (ig_c b) (ig_c v) ↔ ig_turn a b v = 0 ∧ (a.1 ≤ v.1 ∨ b.1 ≤ v.1) ∧ (v.1 ≤ a.1 ∨ v.1 ≤ b.1) ∧ (a.2 ≤ v.2 ∨ b.2 ≤ v.2) ∧ (v.2 ≤ a.2 ∨ v.2 ≤ b.2) := by
  rw [gx_on_iff, ig_turn0]
  simp only [ig_c, ig_le]
/-- the order of the packed numbers is the order of the points -/
theorem ig_lt_c {p q : Int × Int} (hp : ig_ok p) (hq : ig_ok q) : gx_lt (ig_c p) (ig_c q) ↔ ig_pk p < ig_pk q := by
  unfold gx_lt ig_ok ig_pk at *
  simp only [ig_c, ig_ltc, Rat.intCast_inj]
  omega
theorem ig_pk_inj {p q : Int × Int} (hp : ig_ok p) (hq : ig_ok q) : ig_pk p = ig_pk q ↔ p = q := by
  rw [Prod.ext_iff]; unfold ig_ok ig_pk at *; omega
/-- the reference -/
def im_btw (a b v : Int) : Bool := if a ≤ b then decide (a ≤ v) && decide (v ≤ b) else decide (b ≤ v) && decide (v ≤ a)
def im_on (a b v : Int × Int) : Bool := decide (ig_turn a b v = 0) && im_btw a.1 b.1 v.1 && im_btw a.2 b.2 v.2
def im_meet (a b p q : Int × Int) : Bool :=
  (decide (Int.sign (ig_turn a b p) * Int.sign (ig_turn a b q) < 0) && decide (Int.sign (ig_turn p q a) * Int.sign (ig_turn p q b) < 0)) || im_on a b p || im_on a b q || im_on p q a || im_on p q b
def im_fold (v a b : Int × Int) : Bool := decide (ig_turn v a b = 0) && decide (0 < (a.1 - v.1) * (b.1 - v.1) + (a.2 - v.2) * (b.2 - v.2))
def im_over (a b p q : Int × Int) : Bool :=
  if a.1 ≠ b.1 then decide (max (min a.1 b.1) (min p.1 q.1) < min (max a.1 b.1) (max p.1 q.1))
  else decide (max (min a.2 b.2) (min p.2 q.2) < min (max a.2 b.2) (max p.2 q.2))
/-- the class -/
def ic_lies (v a b : Int × Int) : Bool := decide (min (ig_pk a) (ig_pk b) ≤ ig_pk v) && decide (ig_pk v ≤ max (ig_pk a) (ig_pk b)) && decide (ig_turn a b v = 0)
def ic_low (a b p q : Int × Int) : Int := max (min (ig_pk a) (ig_pk b)) (min (ig_pk p) (ig_pk q))
def ic_high (a b p q : Int × Int) : Int := min (max (ig_pk a) (ig_pk b)) (max (ig_pk p) (ig_pk q))
def ic_meeting (a b p q : Int × Int) : Int :=
  if ic_high a b p q < ic_low a b p q then 0
  else if ig_turn a b p = 0 ∧ ig_turn a b q = 0 then (if ic_low a b p q < ic_high a b p q then 2 else 1)
  else if Int.sign (ig_turn a b p) * Int.sign (ig_turn a b q) ≤ 0 ∧ Int.sign (ig_turn p q a) * Int.sign (ig_turn p q b) ≤ 0 then 1 else 0
theorem ig_sgn3 (x : Int) : (x < 0 ∧ Int.sign x = -1) ∨ (x = 0 ∧ Int.sign x = 0) ∨ (0 < x ∧ Int.sign x = 1) := by
  rcases Int.lt_trichotomy x 0 with h | h | h
  · exact Or.inl ⟨h, Int.sign_eq_neg_one_of_neg h⟩
  · subst h; exact Or.inr (Or.inl ⟨rfl, rfl⟩)
  · exact Or.inr (Or.inr ⟨h, Int.sign_eq_one_of_pos h⟩)
theorem im_btw_iff (a b v : Int) : im_btw a b v = true ↔ (a ≤ v ∨ b ≤ v) ∧ (v ≤ a ∨ v ≤ b) := by
  unfold im_btw; split <;> simp only [Bool.and_eq_true, decide_eq_true_eq] <;> omega
theorem im_on_iff (a b v : Int × Int) : im_on a b v = true ↔ gx_on (ig_c a) (ig_c b) (ig_c v) := by
  rw [ig_on_c]; unfold im_on; simp only [Bool.and_eq_true, decide_eq_true_eq, im_btw_iff]
  constructor
  · rintro ⟨⟨h1, h2, h3⟩, h4, h5⟩; exact ⟨h1, h2, h3, h4, h5⟩
  · rintro ⟨h1, h2, h3, h4, h5⟩; exact ⟨⟨h1, h2, h3⟩, h4, h5⟩
theorem ic_lies_iff {v a b : Int × Int} (hv : ig_ok v) (ha : ig_ok a) (hb : ig_ok b) : ic_lies v a b = true ↔ gx_on (ig_c a) (ig_c b) (ig_c v) := by
  constructor
  · intro h
    unfold ic_lies at h
    simp only [Bool.and_eq_true, decide_eq_true_eq] at h
    obtain ⟨⟨h1, h2⟩, h3⟩ := h
    by_cases hab : a = b
    · subst hab
      have : v = a := (ig_pk_inj hv ha).mp (by omega)
      subst this
      exact ⟨0, by grind, by grind, gx_at0 _ _⟩
    · obtain ⟨x, hx⟩ := gx_par (ig_ne hab) ((ig_turn0 a b v).mpr h3)
      rw [hx, gx_on_at (ig_ne hab)]
      have l1 := ig_lt_c hv ha
      have l2 := ig_lt_c hv hb
      have l3 := ig_lt_c ha hv
      have l4 := ig_lt_c hb hv
      have l5 := ig_lt_c ha hb
      have l6 := ig_lt_c hb ha
      rw [hx] at l1 l2 l3 l4
      rcases gx_lt_tri (ig_c a) (ig_c b) with e | e | e
      · have k1 := gx_lt_at e x 0
        have k2 := gx_lt_at e 1 x
        rw [gx_at0] at k1
        rw [gx_at1] at k2
        have e2 := l5.mp e
        constructor
        · by_cases f : 0 ≤ x
          · exact f
          · have := l1.mp (k1.mpr (by grind)); omega
        · by_cases f : x ≤ 1
          · exact f
          · have := l4.mp (k2.mpr (by grind)); omega
      · exact absurd (ig_c_inj.mp e) hab
      · have k1 := gx_lt_at e (1 - x) 0
        have k2 := gx_lt_at e 1 (1 - x)
        rw [gx_at0, ← gx_at_rev] at k1
        rw [gx_at1, ← gx_at_rev] at k2
        have e2 := l6.mp e
        constructor
        · by_cases f : 0 ≤ x
          · exact f
          · have := l3.mp (k2.mpr (by grind)); omega
        · by_cases f : x ≤ 1
          · exact f
          · have := l2.mp (k1.mpr (by grind)); omega
  · intro h
    have h1 := gx_lt_on h
    have h2 := (ig_on_c a b v).mp h
    rw [ig_lt_c hv ha, ig_lt_c hv hb, ig_lt_c ha hv, ig_lt_c hb hv] at h1
    unfold ic_lies
    simp only [Bool.and_eq_true, decide_eq_true_eq]
    refine ⟨⟨by omega, by omega⟩, h2.1⟩
theorem ic_lies_eq {v a b : Int × Int} (hv : ig_ok v) (ha : ig_ok a) (hb : ig_ok b) : ic_lies v a b = im_on a b v := by
  rw [Bool.eq_iff_iff, ic_lies_iff hv ha hb, im_on_iff]
theorem im_meet_iff {a b p q : Int × Int} (hab : a ≠ b) : im_meet a b p q = true ↔ ¬ gx_free (ig_c a) (ig_c b) (ig_c p) (ig_c q) := by
  rw [gx_meet_cases (ig_ne hab)]
  unfold im_meet
  simp only [Bool.or_eq_true, Bool.and_eq_true, decide_eq_true_eq, im_on_iff, ig_turnn, ig_turnp]
  have hs : ∀ x y : Int, Int.sign x * Int.sign y < 0 ↔ (x < 0 ∧ 0 < y) ∨ (y < 0 ∧ 0 < x) := by
    intro x y
    rcases ig_sgn3 x with ⟨h1, h2⟩ | ⟨h1, h2⟩ | ⟨h1, h2⟩ <;> rcases ig_sgn3 y with ⟨k1, k2⟩ | ⟨k1, k2⟩ | ⟨k1, k2⟩ <;> rw [h2, k2] <;> omega
  rw [hs, hs]
  constructor
  · rintro ((((h | h) | h) | h) | h)
    · exact Or.inl h
    · exact Or.inr (Or.inl h)
    · exact Or.inr (Or.inr (Or.inl h))
    · exact Or.inr (Or.inr (Or.inr (Or.inl h)))
    · exact Or.inr (Or.inr (Or.inr (Or.inr h)))
  · rintro (h | h | h | h | h)
    · exact Or.inl (Or.inl (Or.inl (Or.inl h)))
    · exact Or.inl (Or.inl (Or.inl (Or.inr h)))
    · exact Or.inl (Or.inl (Or.inr h))
    · exact Or.inl (Or.inr h)
    · exact Or.inr h
theorem ic_meeting_iff {a b p q : Int × Int} (ha : ig_ok a) (hb : ig_ok b) (hp : ig_ok p) (hq : ig_ok q) (hab : a ≠ b) (hpq : p ≠ q) : ic_meeting a b p q = 0 ↔ gx_free (ig_c a) (ig_c b) (ig_c p) (ig_c q) := by
  have hlow : ic_high a b p q < ic_low a b p q ↔ ¬ (¬ (gx_lt (ig_c p) (ig_c a) ∧ gx_lt (ig_c p) (ig_c b) ∧ gx_lt (ig_c q) (ig_c a) ∧ gx_lt (ig_c q) (ig_c b)) ∧ ¬ (gx_lt (ig_c a) (ig_c p) ∧ gx_lt (ig_c b) (ig_c p) ∧ gx_lt (ig_c a) (ig_c q) ∧ gx_lt (ig_c b) (ig_c q))) := by
    rw [ig_lt_c hp ha, ig_lt_c hp hb, ig_lt_c hq ha, ig_lt_c hq hb, ig_lt_c ha hp, ig_lt_c hb hp, ig_lt_c ha hq, ig_lt_c hb hq]
    unfold ic_high ic_low; omega
  have hs : ∀ x y : Int, Int.sign x * Int.sign y ≤ 0 ↔ gx_opp (x : Rat) (y : Rat) := by
    intro x y
    unfold gx_opp
    rw [show ((x : Rat) ≤ 0) = ((x : Rat) ≤ ((0 : Int) : Rat)) from rfl, show ((y : Rat) ≤ 0) = ((y : Rat) ≤ ((0 : Int) : Rat)) from rfl, show (0 ≤ (y : Rat)) = (((0 : Int) : Rat) ≤ (y : Rat)) from rfl, show (0 ≤ (x : Rat)) = (((0 : Int) : Rat) ≤ (x : Rat)) from rfl, ig_le, ig_le, ig_le, ig_le]
    rcases ig_sgn3 x with ⟨h1, h2⟩ | ⟨h1, h2⟩ | ⟨h1, h2⟩ <;> rcases ig_sgn3 y with ⟨k1, k2⟩ | ⟨k1, k2⟩ | ⟨k1, k2⟩ <;> rw [h2, k2] <;> omega
  unfold ic_meeting
  split
  · rename_i h
    refine iff_of_true rfl ?_
    exact Classical.byContradiction (fun hn => (hlow.mp h) (gx_meet_lt hn))
  · rename_i h
    have h' := Classical.not_not.mp (fun k => h (hlow.mpr k))
    split
    · rename_i k
      have := (gx_col_lt (ig_ne hab) ((ig_turn0 a b p).mpr k.1) ((ig_turn0 a b q).mpr k.2)).mpr h'
      refine iff_of_false ?_ this
      split <;> omega
    · rename_i k
      have hm := gx_meet_opp (ig_ne hab) (ig_ne hpq) (by rw [ig_turn0, ig_turn0]; exact k)
      rw [ig_turn_c, ig_turn_c, ig_turn_c, ig_turn_c, ← hs, ← hs] at hm
      split
      · rename_i j
        exact iff_of_false (by omega) (hm.mpr j)
      · rename_i j
        exact iff_of_true rfl (Classical.not_not.mp (fun f => j (hm.mp f)))
theorem ic_meeting_meet {a b p q : Int × Int} (ha : ig_ok a) (hb : ig_ok b) (hp : ig_ok p) (hq : ig_ok q) (hab : a ≠ b) (hpq : p ≠ q) : ic_meeting a b p q = 0 ↔ im_meet a b p q = false := by
  rw [ic_meeting_iff ha hb hp hq hab hpq, ← Bool.not_eq_true, im_meet_iff hab, Classical.not_not]
