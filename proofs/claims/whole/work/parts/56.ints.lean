/-! overlap and fold; simple rings out of the tests -/
theorem ig_line {a b u v : Int × Int} (hu : ig_turn a b u = 0) (hv : ig_turn a b v = 0) : (b.1 - a.1) * (u.2 - v.2) = (b.2 - a.2) * (u.1 - v.1) := by
  unfold ig_turn at *; grind
/-- on one line: the order of the packed numbers by the coordinate that moves -/
theorem ig_pk_line {a b u v : Int × Int} (ou : ig_ok u) (ov : ig_ok v) (hab : a ≠ b) (hu : ig_turn a b u = 0) (hv : ig_turn a b v = 0) :
    (a.1 ≠ b.1 → (ig_pk u < ig_pk v ↔ u.1 < v.1)) ∧ (a.1 = b.1 → u.1 = v.1) := by
  have h := ig_line hu hv
  constructor
  · intro hne
    have h1 : u.1 = v.1 → u.2 = v.2 := by
      intro k
      rw [k] at h
      have h2 : (b.1 - a.1) * (u.2 - v.2) = 0 := by rw [h]; grind
      rcases Int.mul_eq_zero.mp h2 with j | j <;> omega
    unfold ig_pk ig_ok at *
    omega
  · intro k
    have hb : b.2 - a.2 ≠ 0 := by
      intro j; apply hab; rw [Prod.ext_iff]; omega
    rw [k] at h
    have h2 : (b.2 - a.2) * (u.1 - v.1) = 0 := by rw [← h]; grind
    rcases Int.mul_eq_zero.mp h2 with j | j <;> omega
theorem im_over_iff {a b p q : Int × Int} (ha : ig_ok a) (hb : ig_ok b) (hp : ig_ok p) (hq : ig_ok q) (hab : a ≠ b) (h1 : ig_turn a b p = 0) (h2 : ig_turn a b q = 0) :
    im_over a b p q = decide (ic_low a b p q < ic_high a b p q) := by
  have ta : ig_turn a b a = 0 := by unfold ig_turn; grind
  have tb : ig_turn a b b = 0 := by unfold ig_turn; grind
  have e1 := ig_pk_line ha hb hab ta tb
  have e2 := ig_pk_line hb ha hab tb ta
  have e3 := ig_pk_line ha hp hab ta h1
  have e4 := ig_pk_line hp ha hab h1 ta
  have e5 := ig_pk_line ha hq hab ta h2
  have e6 := ig_pk_line hq ha hab h2 ta
  have e7 := ig_pk_line hb hp hab tb h1
  have e8 := ig_pk_line hp hb hab h1 tb
  have e9 := ig_pk_line hb hq hab tb h2
  have f1 := ig_pk_line hq hb hab h2 tb
  have f2 := ig_pk_line hp hq hab h1 h2
  have f3 := ig_pk_line hq hp hab h2 h1
  unfold im_over ic_low ic_high
  by_cases k : a.1 = b.1
  · rw [if_neg (by simp [k])]
    have g1 := e3.2 k
    have g2 := e5.2 k
    rw [decide_eq_decide]
    unfold ig_pk at *
    clear e1 e2 e3 e4 e5 e6 e7 e8 e9 f1 f2 f3 ta tb
    omega
  · rw [if_pos k]
    have g1 := e1.1 k; have g2 := e2.1 k; have g3 := e3.1 k; have g4 := e4.1 k; have g5 := e5.1 k; have g6 := e6.1 k
    have g7 := e7.1 k; have g8 := e8.1 k; have g9 := e9.1 k; have k1 := f1.1 k; have k2 := f2.1 k; have k3 := f3.1 k
    rw [decide_eq_decide]
    clear e1 e2 e3 e4 e5 e6 e7 e8 e9 f1 f2 f3 ta tb h1 h2 hab
    omega
theorem ic_meeting2 {a b p q : Int × Int} (ha : ig_ok a) (hb : ig_ok b) (hp : ig_ok p) (hq : ig_ok q) (hab : a ≠ b) :
    ic_meeting a b p q = 2 ↔ ig_turn a b p = 0 ∧ ig_turn a b q = 0 ∧ im_over a b p q = true := by
  unfold ic_meeting
  by_cases k : ig_turn a b p = 0 ∧ ig_turn a b q = 0
  · rw [im_over_iff ha hb hp hq hab k.1 k.2, decide_eq_true_eq, if_pos k]
    split
    · omega
    · split
      · exact iff_of_true rfl ⟨k.1, k.2, by assumption⟩
      · exact iff_of_false (by omega) (fun j => by have := j.2.2; omega)
  · rw [if_neg k]
    refine iff_of_false ?_ (fun j => k ⟨j.1, j.2.1⟩)
    split
    · omega
    · split <;> omega
theorem ic_meeting_012 (a b p q : Int × Int) : ic_meeting a b p q = 0 ∨ ic_meeting a b p q = 1 ∨ ic_meeting a b p q = 2 := by
  unfold ic_meeting; repeat' split
  all_goals omega
theorem gx_hd_next {a b d : Rat × Rat} (hab : a ≠ b) (hbd : b ≠ d) (h : gx_turn a b d = 0 → ∃ k : Rat, 0 < k ∧ d.1 - b.1 = -(k * (a.1 - b.1)) ∧ d.2 - b.2 = -(k * (a.2 - b.2))) : gx_hd (a, b) (b, d) := by
  intro t u t0 t1 u0 u1 e
  simp only at e
  have e1 : a.1 + t * (b.1 - a.1) = b.1 + u * (d.1 - b.1) := congrArg Prod.fst e
  have e2 : a.2 + t * (b.2 - a.2) = b.2 + u * (d.2 - b.2) := congrArg Prod.snd e
  by_cases k : gx_turn a b d = 0
  · obtain ⟨m, m0, m1, m2⟩ := h k
    rw [m1] at e1
    rw [m2] at e2
    have hp : 0 < (1 - t) + u * m := by
      have := Rat.mul_nonneg (a := u) (b := m) u0 (by grind)
      grind
    have g1 : ((1 - t) + u * m) * (a.1 - b.1) = 0 := by grind
    have g2 : ((1 - t) + u * m) * (a.2 - b.2) = 0 := by grind
    apply hab
    refine Prod.ext ?_ ?_
    · rcases Rat.mul_eq_zero.mp g1 with j | j <;> grind
    · rcases Rat.mul_eq_zero.mp g2 with j | j <;> grind
  · have g : u * gx_turn a b d = 0 := by simp only [gx_turn] at *; grind
    rcases Rat.mul_eq_zero.mp g with j | j
    · subst j
      have g1 : (1 - t) * (a.1 - b.1) = 0 := by grind
      have g2 : (1 - t) * (a.2 - b.2) = 0 := by grind
      apply hab
      refine Prod.ext ?_ ?_
      · rcases Rat.mul_eq_zero.mp g1 with j | j <;> grind
      · rcases Rat.mul_eq_zero.mp g2 with j | j <;> grind
    · exact k j
theorem im_fold_iff {a b d : Int × Int} (hab : a ≠ b) (hbd : b ≠ d) : im_fold b a d = false ↔ (gx_turn (ig_c a) (ig_c b) (ig_c d) = 0 → ∃ k : Rat, 0 < k ∧ (ig_c d).1 - (ig_c b).1 = -(k * ((ig_c a).1 - (ig_c b).1)) ∧ (ig_c d).2 - (ig_c b).2 = -(k * ((ig_c a).2 - (ig_c b).2))) := by
  have ht : ig_turn b a d = - ig_turn a b d := by unfold ig_turn; grind
  have hsq := gx_sq2 (ig_ne hab.symm)
  have hsq' : 0 < ((ig_c a).1 - (ig_c b).1) * ((ig_c a).1 - (ig_c b).1) + ((ig_c a).2 - (ig_c b).2) * ((ig_c a).2 - (ig_c b).2) := by grind
  have hdot : (((a.1 - b.1) * (d.1 - b.1) + (a.2 - b.2) * (d.2 - b.2) : Int) : Rat) = ((ig_c a).1 - (ig_c b).1) * ((ig_c d).1 - (ig_c b).1) + ((ig_c a).2 - (ig_c b).2) * ((ig_c d).2 - (ig_c b).2) := by
    simp only [ig_c, Rat.intCast_add, Rat.intCast_mul, Rat.intCast_sub]
  rw [← Bool.not_eq_true]
  unfold im_fold
  simp only [Bool.and_eq_true, decide_eq_true_eq]
  rw [ht]
  constructor
  · intro h k
    have k' := (ig_turn0 a b d).mp k
    have hn : ¬ 0 < (a.1 - b.1) * (d.1 - b.1) + (a.2 - b.2) * (d.2 - b.2) := fun j => h ⟨by omega, j⟩
    rw [← Rat.intCast_pos, hdot] at hn
    obtain ⟨x, hx⟩ := gx_par (ig_ne hab) k
    have x1 : (ig_c d).1 - (ig_c b).1 = (1 - x) * ((ig_c a).1 - (ig_c b).1) := by rw [hx]; simp only [gx_at]; grind
    have x2 : (ig_c d).2 - (ig_c b).2 = (1 - x) * ((ig_c a).2 - (ig_c b).2) := by rw [hx]; simp only [gx_at]; grind
    rw [x1, x2] at hn
    have hne : 1 - x ≠ 0 := by
      intro j; rw [j] at x1 x2
      exact ig_ne hbd (Prod.ext (by grind) (by grind))
    refine ⟨x - 1, ?_, by rw [x1]; grind, by rw [x2]; grind⟩
    by_cases f : 0 < x - 1
    · exact f
    · have := Rat.mul_pos (a := 1 - x) (by grind) hsq'
      grind
  · rintro h ⟨k1, k2⟩
    obtain ⟨m, m0, m1, m2⟩ := h ((ig_turn0 a b d).mpr (by omega))
    rw [← Rat.intCast_pos, hdot, m1, m2] at k2
    have := Rat.mul_pos m0 hsq'
    grind
/-- neighbours -/
theorem ic_meeting_next {a b d : Int × Int} (ha : ig_ok a) (hb : ig_ok b) (hd : ig_ok d) (hab : a ≠ b) (hbd : b ≠ d) : ic_meeting a b b d = 1 ↔ im_fold b a d = false := by
  have hne0 : ic_meeting a b b d ≠ 0 := by
    intro k
    have := (ic_meeting_iff ha hb hb hd hab hbd).mp k
    exact this 1 0 (by grind) (by grind) (by grind) (by grind) (by rw [gx_at1, gx_at0])
  have h2 := ic_meeting2 (p := b) (q := d) ha hb hb hd hab
  have tb : ig_turn a b b = 0 := by unfold ig_turn; grind
  have key : im_fold b a d = true ↔ ic_meeting a b b d = 2 := by
    rw [h2]
    have ht : ig_turn b a d = - ig_turn a b d := by unfold ig_turn; grind
    unfold im_fold
    simp only [Bool.and_eq_true, decide_eq_true_eq]
    rw [ht]
    by_cases k : ig_turn a b d = 0
    · rw [im_over_iff ha hb hb hd hab tb k]
      simp only [decide_eq_true_eq]
      have hl := ig_line (a := a) (b := b) (u := d) (v := b) k tb
      have e1 := ig_pk_line hb hd hab tb k
      have e2 := ig_pk_line hd hb hab k tb
      have ta : ig_turn a b a = 0 := by unfold ig_turn; grind
      have e3 := ig_pk_line hb ha hab tb ta
      have e4 := ig_pk_line ha hb hab ta tb
      have hd0 : (0 < (a.1 - b.1) * (d.1 - b.1) + (a.2 - b.2) * (d.2 - b.2)) ↔ ((ig_pk a < ig_pk b ∧ ig_pk d < ig_pk b) ∨ (ig_pk b < ig_pk a ∧ ig_pk b < ig_pk d)) := by
        have hdot : (((a.1 - b.1) * (d.1 - b.1) + (a.2 - b.2) * (d.2 - b.2) : Int) : Rat) = ((ig_c a).1 - (ig_c b).1) * ((ig_c d).1 - (ig_c b).1) + ((ig_c a).2 - (ig_c b).2) * ((ig_c d).2 - (ig_c b).2) := by
          simp only [ig_c, Rat.intCast_add, Rat.intCast_mul, Rat.intCast_sub]
        have hsq := gx_sq2 (ig_ne hab.symm)
        obtain ⟨x, hx⟩ := gx_par (ig_ne hab) ((ig_turn0 a b d).mpr k)
        have x1 : (ig_c d).1 - (ig_c b).1 = (1 - x) * ((ig_c a).1 - (ig_c b).1) := by rw [hx]; simp only [gx_at]; grind
        have x2 : (ig_c d).2 - (ig_c b).2 = (1 - x) * ((ig_c a).2 - (ig_c b).2) := by rw [hx]; simp only [gx_at]; grind
        have hs := gx_sgn (v := 1 - x) hsq
        have l1 := ig_lt_c hd hb
        have l2 := ig_lt_c hb hd
        have l3 := ig_lt_c ha hb
        have l4 := ig_lt_c hb ha
        rw [← Rat.intCast_pos, hdot, x1, x2]
        have hQ : ((ig_c a).1 - (ig_c b).1) * ((1 - x) * ((ig_c a).1 - (ig_c b).1)) + ((ig_c a).2 - (ig_c b).2) * ((1 - x) * ((ig_c a).2 - (ig_c b).2)) = (((ig_c a).1 - (ig_c b).1) * ((ig_c a).1 - (ig_c b).1) + ((ig_c a).2 - (ig_c b).2) * ((ig_c a).2 - (ig_c b).2)) * (1 - x) := by grind
        rw [hQ, hs.1]
        rw [hx] at l1 l2
        rcases gx_lt_tri (ig_c a) (ig_c b) with e | e | e
        · have q1 := gx_lt_at e x 1
          rw [gx_at1] at q1
          have e2 := l3.mp e
          have q2 : ig_pk d < ig_pk b ↔ x < 1 := l1.symm.trans q1
          constructor
          · intro j; exact Or.inl ⟨e2, q2.mpr (by grind)⟩
          · rintro (⟨_, j⟩ | ⟨j, _⟩)
            · have := q2.mp j; grind
            · omega
        · exact absurd (ig_c_inj.mp e) hab
        · have q1 := gx_lt_at e 0 (1 - x)
          rw [gx_at0, ← gx_at_rev] at q1
          have e2 := l4.mp e
          have q2 : ig_pk b < ig_pk d ↔ 0 < 1 - x := l2.symm.trans q1
          constructor
          · intro j; exact Or.inr ⟨e2, q2.mpr j⟩
          · rintro (⟨j, _⟩ | ⟨_, j⟩)
            · omega
            · exact q2.mp j
      unfold ic_low ic_high
      omega
    · constructor
      · intro j; omega
      · intro j; exact absurd j.2.1 k
  have h3 := ic_meeting_012 a b b d
  constructor
  · intro h; rw [← Bool.not_eq_true, key]; omega
  · intro h; rw [← Bool.not_eq_true, key] at h; omega
