/-! the side on which a point lies; within, on, without -/
def ig_half (l : List PT) (i : Nat) (p : PT) : Prop := im_on (ig_at l i) (ig_at l (i + 1)) p = true ∧ p ≠ ig_at l (i + 1)
theorem rgn_ne {l : List PT} (h : gx_simple (rgn l)) (h0 : l ≠ []) (i : Nat) : ig_at l i ≠ ig_at l (i + 1) := by
  have hn : 0 < l.length := List.length_pos_iff.mpr h0
  have := h.2.1 _ (rgn_mem.mpr ⟨i % l.length, Nat.mod_lt _ hn, rfl⟩)
  intro e
  apply this
  show ig_c _ = ig_c _
  rw [ig_at_mod, e, ← ig_at_mod l (i + 1), ← ig_at_mod l (i % l.length + 1), Nat.mod_add_mod]
theorem ig_half_t {l : List PT} {i : Nat} {p : PT} : ig_half l i p → ∃ t : Rat, 0 ≤ t ∧ t < 1 ∧ gx_at (ig_c (ig_at l i)) (ig_c (ig_at l (i + 1))) t = ig_c p := by
  rintro ⟨h1, h2⟩
  obtain ⟨t, t0, t1, e⟩ := (im_on_iff _ _ _).mp h1
  refine ⟨t, t0, ?_, e⟩
  by_cases c : t < 1
  · exact c
  · exfalso
    have : t = 1 := by grind
    rw [this, gx_at1] at e
    exact h2 (ig_c_inj.mp e.symm)
theorem ig_t_half {l : List PT} {i : Nat} {p : PT} {t : Rat} (hn : ig_at l i ≠ ig_at l (i + 1)) (t0 : 0 ≤ t) (t1 : t < 1) (e : gx_at (ig_c (ig_at l i)) (ig_c (ig_at l (i + 1))) t = ig_c p) : ig_half l i p := by
  refine ⟨(im_on_iff _ _ _).mpr ⟨t, t0, by grind, e⟩, fun f => ?_⟩
  rw [f] at e
  have := gx_at_inj (ig_ne hn) (e.trans (gx_at1 _ _).symm)
  grind
theorem rgn_inj {l : List PT} (h : gx_simple (rgn l)) {i j : Nat} (hi : i < l.length) (hj : j < l.length) {t u : Rat} (t0 : 0 ≤ t) (t1 : t < 1) (u0 : 0 ≤ u) (u1 : u < 1)
    (e : gx_at (ig_c (ig_at l i)) (ig_c (ig_at l (i + 1))) t = gx_at (ig_c (ig_at l j)) (ig_c (ig_at l (j + 1))) u) : i = j := by
  have hp := rgn_pw.mp h.1
  rcases Nat.lt_trichotomy i j with c | c | c
  · exact absurd e (hp i j c hj t u t0 t1 u0 u1)
  · exact c
  · exact absurd e.symm (hp j i c hi u t u0 u1 t0 t1)
theorem ig_half_uniq {l : List PT} (h : gx_simple (rgn l)) {i j : Nat} {p : PT} (hi : i < l.length) (hj : j < l.length) (a : ig_half l i p) (b : ig_half l j p) : i = j := by
  obtain ⟨t, t0, t1, e⟩ := ig_half_t a
  obtain ⟨u, u0, u1, f⟩ := ig_half_t b
  exact rgn_inj h hi hj t0 t1 u0 u1 (e.trans f.symm)
/-- on a side of the ring, its end counted: on a side, its end not counted -/
theorem ig_half_on {l : List PT} (h : gx_simple (rgn l)) {p : PT} (g : ∃ i, i < l.length ∧ im_on (ig_at l i) (ig_at l (i + 1)) p = true) : ∃ i, i < l.length ∧ ig_half l i p := by
  obtain ⟨i, hi, e⟩ := g
  have h0 : l ≠ [] := by intro k; subst k; simp at hi
  by_cases c : p = ig_at l (i + 1)
  · refine ⟨(i + 1) % l.length, Nat.mod_lt _ (by omega), ?_⟩
    refine ig_t_half (t := 0) (rgn_ne h h0 _) (by grind) (by grind) ?_
    rw [gx_at0, ig_at_mod, c]
  · exact ⟨i, hi, e, c⟩
/-- the point with doubled coordinates -/
def ig_h (z : PT) : Rat × Rat := ((z.1 : Rat) / 2, (z.2 : Rat) / 2)
def igd_turn (a b z : PT) : Int := (2 * b.1 - 2 * a.1) * (z.2 - 2 * a.2) - (2 * b.2 - 2 * a.2) * (z.1 - 2 * a.1)
def igd_on (a b z : PT) : Prop := igd_turn a b z = 0 ∧ (min (2 * a.1) (2 * b.1) ≤ z.1 ∧ z.1 ≤ max (2 * a.1) (2 * b.1)) ∧ (min (2 * a.2) (2 * b.2) ≤ z.2 ∧ z.2 ≤ max (2 * a.2) (2 * b.2))
def igd_cr (a b z : PT) : Bool := decide ((2 * a.2 ≤ z.2 ∧ z.2 < 2 * b.2 ∧ 0 < igd_turn a b z) ∨ (2 * b.2 ≤ z.2 ∧ z.2 < 2 * a.2 ∧ igd_turn a b z < 0))
def igd_par (l : List PT) (z : PT) : Nat → Bool
  | 0 => false
  | k + 1 => (igd_par l z k) != (igd_cr (ig_at l k) (ig_at l (k + 1)) z)
def igd_onR (l : List PT) (z : PT) : Prop := ∃ i, i < l.length ∧ igd_on (ig_at l i) (ig_at l (i + 1)) z
def igd_in (l : List PT) (z : PT) : Prop := ¬ igd_onR l z ∧ igd_par l z l.length = true
theorem igd_turn_c (a b z : PT) : ((igd_turn a b z : Int) : Rat) = 4 * gx_turn (ig_c a) (ig_c b) (ig_h z) := by
  unfold igd_turn gx_turn ig_c ig_h
  simp only [Rat.intCast_sub, Rat.intCast_mul]
  grind
theorem igd_y (a : Int) (z : Int) : (2 * a ≤ z ↔ (a : Rat) ≤ (z : Rat) / 2) ∧ (z < 2 * a ↔ (z : Rat) / 2 < (a : Rat)) := by
  constructor
  · rw [← ig_le]; simp only [Rat.intCast_mul]; grind
  · rw [← ig_ltc]; simp only [Rat.intCast_mul]; grind
theorem igd_cr_c (a b z : PT) : (gx_cr (ig_c a) (ig_c b) (ig_h z)) % 2 = if igd_cr a b z then 1 else 0 := by
  have hp : 0 < gx_turn (ig_c a) (ig_c b) (ig_h z) ↔ 0 < igd_turn a b z := by
    rw [← ig_ltc 0, igd_turn_c]; grind
  have hn : gx_turn (ig_c a) (ig_c b) (ig_h z) < 0 ↔ igd_turn a b z < 0 := by
    rw [← ig_ltc _ 0, igd_turn_c]; grind
  have y1 := igd_y a.2 z.2
  have y2 := igd_y b.2 z.2
  unfold gx_cr igd_cr
  have e1 : ((ig_c a).2 ≤ (ig_h z).2 ∧ (ig_h z).2 < (ig_c b).2 ∧ 0 < gx_turn (ig_c a) (ig_c b) (ig_h z)) ↔ (2 * a.2 ≤ z.2 ∧ z.2 < 2 * b.2 ∧ 0 < igd_turn a b z) := by
    rw [hp, y1.1, y2.2]; exact Iff.rfl
  have e2 : ((ig_c b).2 ≤ (ig_h z).2 ∧ (ig_h z).2 < (ig_c a).2 ∧ gx_turn (ig_c a) (ig_c b) (ig_h z) < 0) ↔ (2 * b.2 ≤ z.2 ∧ z.2 < 2 * a.2 ∧ igd_turn a b z < 0) := by
    rw [hn, y2.1, y1.2]; exact Iff.rfl
  by_cases c1 : (2 * a.2 ≤ z.2 ∧ z.2 < 2 * b.2 ∧ 0 < igd_turn a b z)
  · rw [if_pos (e1.mpr c1), if_pos (decide_eq_true (Or.inl c1))]; rfl
  · rw [if_neg (fun f => c1 (e1.mp f))]
    by_cases c2 : (2 * b.2 ≤ z.2 ∧ z.2 < 2 * a.2 ∧ igd_turn a b z < 0)
    · rw [if_pos (e2.mpr c2), if_pos (decide_eq_true (Or.inr c2))]; rfl
    · rw [if_neg (fun f => c2 (e2.mp f)), if_neg (by simp only [decide_eq_true_eq]; rintro (f | f); exact c1 f; exact c2 f)]; rfl
theorem ig_xor {p c : Bool} {x y : Int} (hx : x % 2 = if p = true then 1 else 0) (hy : y % 2 = if c = true then 1 else 0) : (x + y) % 2 = if (p != c) = true then 1 else 0 := by
  cases p <;> cases c <;> simp at hx hy ⊢ <;> omega
theorem igd_par_c (l : List PT) (z : PT) (k : Nat) : (gx_wn ((List.range k).map (fun i => (ig_c (ig_at l i), ig_c (ig_at l (i + 1))))) (ig_h z)) % 2 = if igd_par l z k then 1 else 0 := by
  induction k with
  | zero => rfl
  | succ k ih =>
    rw [List.range_succ, List.map_append, gx_wn_app]
    simp only [List.map_cons, List.map_nil, gx_wn, Int.add_zero, igd_par]
    have h := igd_cr_c (ig_at l k) (ig_at l (k + 1)) z
    exact ig_xor ih h
theorem igd_in_wn {l : List PT} (h : gx_simple (rgn l)) (hw : ∀ z, 0 ≤ gx_wn (rgn l) z) (h0 : l ≠ []) (z : PT) : (igd_par l z l.length = true ↔ gx_wn (rgn l) (ig_h z) = 1) := by
  have n0 : rgn l ≠ [] := by
    intro k
    have := rgn_len l
    rw [k] at this
    exact h0 (List.length_eq_zero_iff.mp this.symm)
  have r := gx_ccw h n0 hw
  have h1 := igd_par_c l z l.length
  rw [← rgn_ix] at h1
  rcases gx_01 h r (ig_h z) with k | k
  · rw [k] at h1 ⊢
    cases e : igd_par l z l.length
    · simp
    · rw [e] at h1; simp at h1
  · rw [k] at h1 ⊢
    cases e : igd_par l z l.length
    · rw [e] at h1; simp at h1
    · simp
theorem igd_on_c (a b z : PT) : igd_on a b z ↔ gx_on (ig_c a) (ig_c b) (ig_h z) := by
  rw [gx_on_iff]
  unfold igd_on
  have ht : igd_turn a b z = 0 ↔ gx_turn (ig_c a) (ig_c b) (ig_h z) = 0 := by
    rw [← Rat.intCast_eq_zero_iff, igd_turn_c]; grind
  have y1 := igd_y a.2 z.2
  have y2 := igd_y b.2 z.2
  have x1 := igd_y a.1 z.1
  have x2 := igd_y b.1 z.1
  have m : ∀ (a z : Int), ((z : Rat) / 2 ≤ (a : Rat)) ↔ z ≤ 2 * a := by
    intro a z
    rw [← ig_le]; simp only [Rat.intCast_mul]; grind
  have hm := m a.1 z.1
  have hm2 := m b.1 z.1
  have hm3 := m a.2 z.2
  have hm4 := m b.2 z.2
  show _ ↔ gx_turn (ig_c a) (ig_c b) (ig_h z) = 0 ∧ ((a.1 : Rat) ≤ (z.1 : Rat) / 2 ∨ (b.1 : Rat) ≤ (z.1 : Rat) / 2) ∧ ((z.1 : Rat) / 2 ≤ (a.1 : Rat) ∨ (z.1 : Rat) / 2 ≤ (b.1 : Rat)) ∧ ((a.2 : Rat) ≤ (z.2 : Rat) / 2 ∨ (b.2 : Rat) ≤ (z.2 : Rat) / 2) ∧ ((z.2 : Rat) / 2 ≤ (a.2 : Rat) ∨ (z.2 : Rat) / 2 ≤ (b.2 : Rat))
  rw [← ht, ← x1.1, ← x2.1, ← y1.1, ← y2.1, hm, hm2, hm3, hm4]
  constructor
  · rintro ⟨h1, h2, h3⟩; exact ⟨h1, by omega, by omega, by omega, by omega⟩
  · rintro ⟨h1, h2, h3, h4, h5⟩; exact ⟨h1, by omega, by omega⟩
theorem ig_h2 (p : PT) : ig_h (2 * p.1, 2 * p.2) = ig_c p := by
  unfold ig_h ig_c
  simp only [Rat.intCast_mul]
  apply Prod.ext
  · show ((2 : Int) : Rat) * (p.1 : Rat) / 2 = p.1
    grind
  · show ((2 : Int) : Rat) * (p.2 : Rat) / 2 = p.2
    grind
theorem igd_on2 (a b p : PT) : igd_on a b (2 * p.1, 2 * p.2) ↔ im_on a b p = true := by
  rw [igd_on_c, ig_h2, im_on_iff]
/-- the class's crossing test, where the point isn't on the side -/
theorem igd_cr_ne {a b z : PT} (h : ¬ igd_on a b z) : 2 * b.2 ≤ z.2 → z.2 < 2 * a.2 → igd_turn a b z ≠ 0 := by
    intro g1 g2 g3
    apply h
    refine ⟨g3, ?_, by omega⟩
    unfold igd_turn at g3
    have e : (2 * b.1 - 2 * a.1) * (z.2 - 2 * a.2) = (2 * b.2 - 2 * a.2) * (z.1 - 2 * a.1) := by omega
    have p : 0 < 2 * a.2 - 2 * b.2 := by omega
    rcases Int.le_total a.1 b.1 with c | c
    · constructor
      · have : 0 ≤ z.1 - 2 * a.1 := by
          refine Classical.byContradiction (fun f => ?_)
          have q1 := Int.mul_nonneg (show 0 ≤ 2 * b.1 - 2 * a.1 by omega) (show 0 ≤ 2 * a.2 - z.2 by omega)
          have q2 := Int.mul_pos p (show 0 < 2 * a.1 - z.1 by omega)
          grind
        omega
      · have : 0 ≤ 2 * b.1 - z.1 := by
          refine Classical.byContradiction (fun f => ?_)
          have q1 := Int.mul_nonneg (show 0 ≤ 2 * b.1 - 2 * a.1 by omega) (show 0 ≤ z.2 - 2 * b.2 by omega)
          have q2 := Int.mul_pos p (show 0 < z.1 - 2 * b.1 by omega)
          grind
        omega
    · constructor
      · have : 0 ≤ z.1 - 2 * b.1 := by
          refine Classical.byContradiction (fun f => ?_)
          have q1 := Int.mul_nonneg (show 0 ≤ 2 * a.1 - 2 * b.1 by omega) (show 0 ≤ z.2 - 2 * b.2 by omega)
          have q2 := Int.mul_pos p (show 0 < 2 * b.1 - z.1 by omega)
          grind
        omega
      · have : 0 ≤ 2 * a.1 - z.1 := by
          refine Classical.byContradiction (fun f => ?_)
          have q1 := Int.mul_nonneg (show 0 ≤ 2 * a.1 - 2 * b.1 by omega) (show 0 ≤ 2 * a.2 - z.2 by omega)
          have q2 := Int.mul_pos p (show 0 < z.1 - 2 * a.1 by omega)
          grind
        omega
theorem igd_cr_class {a b z : PT} (h : ¬ igd_on a b z) : igd_cr a b z = true ↔ (2 * b.2 ≤ z.2 ∧ z.2 < 2 * a.2 ∧ igd_turn a b z ≤ 0) ∨ (2 * a.2 ≤ z.2 ∧ z.2 < 2 * b.2 ∧ 0 < igd_turn a b z) := by
  have key := igd_cr_ne h
  unfold igd_cr
  rw [decide_eq_true_eq]
  constructor
  · rintro (f | f)
    · exact Or.inr f
    · exact Or.inl ⟨f.1, f.2.1, by omega⟩
  · rintro (f | f)
    · have := key f.1 f.2.1
      exact Or.inr ⟨f.1, f.2.1, by omega⟩
    · exact Or.inl f
