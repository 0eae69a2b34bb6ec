/-! a simple ring winds 0 times or once, in one sense -/
theorem gx_hit {S1 S2 : List ((Rat × Rat) × (Rat × Rat))} {s : (Rat × Rat) × (Rat × Rat)} {z : Rat × Rat} {t : Rat} (h : gx_simple (S1 ++ s :: S2)) (t0 : 0 < t) (t1 : t < 1)
    (hy : (gx_at s.1 s.2 t).2 = z.2) (hne : z.1 ≠ (gx_at s.1 s.2 t).1) (hs : s.1.2 ≠ s.2.2)
    (hfr : ∀ q ∈ S1 ++ s :: S2, ∀ u : Rat, 0 ≤ u → u ≤ 1 → (gx_at q.1 q.2 u).2 = z.2 →
      (z.1 ≤ (gx_at q.1 q.2 u).1 ∧ (gx_at q.1 q.2 u).1 ≤ (gx_at s.1 s.2 t).1) ∨ ((gx_at s.1 s.2 t).1 ≤ (gx_at q.1 q.2 u).1 ∧ (gx_at q.1 q.2 u).1 ≤ z.1) → (gx_at q.1 q.2 u).1 = (gx_at s.1 s.2 t).1) :
    gx_wn (S1 ++ s :: S2) z = gx_rr (S1 ++ s :: S2) + (if 0 < gx_turn s.1 s.2 z then 1 else 0) := by
  have h2 : gx_simple (s :: (S2 ++ S1)) := by have := gx_simple_rot h; simpa using this
  have e1 : gx_wn (S1 ++ s :: S2) z = gx_wn (s :: (S2 ++ S1)) z := by rw [gx_wn_app]; simp only [gx_wn, gx_wn_app]; omega
  have e2 : gx_rr (S1 ++ s :: S2) = gx_rr (s :: (S2 ++ S1)) := by have := gx_rot h; simpa using this
  have hturn : gx_turn s.1 s.2 z = (s.2.2 - s.1.2) * ((gx_at s.1 s.2 t).1 - z.1) := by
    rw [show gx_turn s.1 s.2 z = (s.2.1 - s.1.1) * (z.2 - s.1.2) - (s.2.2 - s.1.2) * (z.1 - s.1.1) from rfl, ← hy]
    simp only [gx_at]; grind
  have hz : gx_turn s.1 s.2 z ≠ 0 := by
    rw [hturn]
    intro k
    have k1 : s.2.2 - s.1.2 ≠ 0 := by grind
    have k2 : (gx_at s.1 s.2 t).1 - z.1 ≠ 0 := by grind
    grind
  have hsee := gx_see (a := s.1) (b := s.2) (z := z) (Q := S2 ++ S1) t0 t1 rfl (gx_path_head h2) (by
    intro q hq u y u0 u1 y0 y1 k
    have hq' : q ∈ S1 ++ s :: S2 := by simp only [List.mem_append, List.mem_cons] at hq ⊢; rcases hq with hq | hq <;> simp [hq]
    have k1 : (gx_at q.1 q.2 u).2 = z.2 := by rw [k]; simp only [gx_at] at hy ⊢; grind
    have k2 : (gx_at q.1 q.2 u).1 = z.1 + y * ((gx_at s.1 s.2 t).1 - z.1) := by rw [k]; rfl
    have k3 := hfr q hq' u u0 u1 k1 (by
      rw [k2]
      by_cases e : z.1 ≤ (gx_at s.1 s.2 t).1
      · left
        have := Rat.mul_nonneg (a := y) (b := (gx_at s.1 s.2 t).1 - z.1) y0 (by grind)
        have := Rat.mul_nonneg (a := 1 - y) (b := (gx_at s.1 s.2 t).1 - z.1) (by grind) (by grind)
        constructor <;> grind
      · right
        have := Rat.mul_nonneg (a := y) (b := z.1 - (gx_at s.1 s.2 t).1) y0 (by grind)
        have := Rat.mul_nonneg (a := 1 - y) (b := z.1 - (gx_at s.1 s.2 t).1) (by grind) (by grind)
        constructor <;> grind)
    exact gx_inner h2 t0 t1 q hq ⟨u, u0, u1, Prod.ext k3 (k1.trans hy.symm)⟩) hz
  rw [e1, e2]
  have ha := gx_along h2 (t := 1/2) (u := t) (by grind) (by grind) t0 t1
  simp only [gx_rr, gx_r]
  rw [ha]
  exact hsee
theorem gx_argmin {S : List ((Rat × Rat) × (Rat × Rat))} (P : (Rat × Rat) × (Rat × Rat) → Prop) (f : (Rat × Rat) × (Rat × Rat) → Rat) (h : ∃ s ∈ S, P s) : ∃ s ∈ S, P s ∧ ∀ q ∈ S, P q → f s ≤ f q := by
  induction S with
  | nil => obtain ⟨s, hs, _⟩ := h; cases hs
  | cons a S ih =>
    by_cases hS : ∃ s ∈ S, P s
    · obtain ⟨s, s1, s2, s3⟩ := ih hS
      by_cases hc : P a ∧ f a ≤ f s
      · refine ⟨a, List.mem_cons_self, hc.1, ?_⟩
        intro q hq hP
        rcases List.mem_cons.mp hq with rfl | hq
        · grind
        · have := s3 q hq hP; grind
      · refine ⟨s, List.mem_cons_of_mem _ s1, s2, ?_⟩
        intro q hq hP
        rcases List.mem_cons.mp hq with rfl | hq
        · by_cases k : f q ≤ f s
          · exact absurd ⟨hP, k⟩ hc
          · grind
        · exact s3 q hq hP
    · obtain ⟨s, s1, s2⟩ := h
      have : s = a := by
        rcases List.mem_cons.mp s1 with rfl | k
        · rfl
        · exact absurd ⟨s, k, s2⟩ hS
      subst this
      refine ⟨s, List.mem_cons_self, s2, ?_⟩
      intro q hq hP
      rcases List.mem_cons.mp hq with rfl | hq
      · grind
      · exact absurd ⟨q, hq, hP⟩ hS
/-- where a side that isn't flat comes to a height -/
def gx_x (s : (Rat × Rat) × (Rat × Rat)) (y : Rat) : Rat := s.1.1 + (y - s.1.2) / (s.2.2 - s.1.2) * (s.2.1 - s.1.1)
def gx_cross (s : (Rat × Rat) × (Rat × Rat)) (y : Rat) : Prop := (s.1.2 < y ∧ y < s.2.2) ∨ (s.2.2 < y ∧ y < s.1.2)
theorem gx_frac {a b y : Rat} (h : (a < y ∧ y < b) ∨ (b < y ∧ y < a)) : 0 < (y - a) / (b - a) ∧ (y - a) / (b - a) < 1 := by
  rcases h with h | h
  · have h1 := Rat.mul_pos (a := y - a) (b := (b - a)⁻¹) (by grind) (Rat.inv_pos.mpr (by grind))
    have h2 := Rat.mul_pos (a := b - y) (b := (b - a)⁻¹) (by grind) (Rat.inv_pos.mpr (by grind))
    have h3 : b - a ≠ 0 := by grind
    constructor <;> grind
  · have h1 := Rat.mul_pos (a := a - y) (b := (a - b)⁻¹) (by grind) (Rat.inv_pos.mpr (by grind))
    have h2 := Rat.mul_pos (a := y - b) (b := (a - b)⁻¹) (by grind) (Rat.inv_pos.mpr (by grind))
    have h3 : a - b ≠ 0 := by grind
    have h4 : b - a ≠ 0 := by grind
    have h5 : (y - a) / (b - a) = (a - y) * (a - b)⁻¹ := by grind
    rw [h5]
    have h6 : (y - b) * (a - b)⁻¹ = 1 - (a - y) * (a - b)⁻¹ := by grind
    rw [h6] at h2
    exact ⟨h1, by grind⟩
theorem gx_cross_at {s : (Rat × Rat) × (Rat × Rat)} {y : Rat} (h : gx_cross s y) : ∃ t : Rat, 0 < t ∧ t < 1 ∧ gx_at s.1 s.2 t = (gx_x s y, y) := by
  have hb := gx_frac (a := s.1.2) (b := s.2.2) (y := y) h
  refine ⟨(y - s.1.2) / (s.2.2 - s.1.2), hb.1, hb.2, ?_⟩
  · have : s.2.2 - s.1.2 ≠ 0 := by rcases h with h | h <;> grind
    simp only [gx_at, gx_x, Prod.mk.injEq]; constructor <;> grind
theorem gx_cross_u {s : (Rat × Rat) × (Rat × Rat)} {y u : Rat} (u0 : 0 ≤ u) (u1 : u ≤ 1) (h1 : s.1.2 ≠ y) (h2 : s.2.2 ≠ y) (h : (gx_at s.1 s.2 u).2 = y) : gx_cross s y ∧ (gx_at s.1 s.2 u).1 = gx_x s y := by
  have hc : gx_cross s y := by
    unfold gx_cross
    simp only [gx_at] at h
    by_cases a1 : s.1.2 < y
    · by_cases a2 : y < s.2.2
      · exact Or.inl ⟨a1, a2⟩
      · exfalso; have := (gx_conv (a := s.1.2) (b := s.2.2) (k := y) u0 u1).2 a1 (by grind); grind
    · by_cases a2 : s.2.2 < y
      · exact Or.inr ⟨a2, by grind⟩
      · exfalso; have := (gx_conv (a := s.1.2) (b := s.2.2) (k := y) u0 u1).1 (by grind) (by grind); grind
  refine ⟨hc, ?_⟩
  have : s.2.2 - s.1.2 ≠ 0 := by rcases hc with h | h <;> grind
  simp only [gx_at, gx_x] at *
  have : u = (y - s.1.2) / (s.2.2 - s.1.2) := by grind
  rw [this]
def gx_gen (S : List ((Rat × Rat) × (Rat × Rat))) (z : Rat × Rat) : Prop := ∀ s ∈ S, s.1.2 ≠ z.2 ∧ s.2.2 ≠ z.2 ∧ ¬ gx_on s.1 s.2 z
theorem gx_turn_x {s : (Rat × Rat) × (Rat × Rat)} {z : Rat × Rat} (h : s.1.2 ≠ s.2.2) : gx_turn s.1 s.2 z = (s.2.2 - s.1.2) * (gx_x s z.2 - z.1) := by
  have : s.2.2 - s.1.2 ≠ 0 := by grind
  simp only [gx_turn, gx_x]; grind
/-- no side crosses right of it: 0 -/
theorem gx_nohit {S : List ((Rat × Rat) × (Rat × Rat))} {z : Rat × Rat} (hg : ∀ s ∈ S, s.1.2 ≠ z.2 ∧ s.2.2 ≠ z.2) (h : ∀ s ∈ S, gx_cross s z.2 → gx_x s z.2 ≤ z.1) : gx_wn S z = 0 := by
  induction S with
  | nil => rfl
  | cons s S ih =>
    have h1 := ih (fun q hq => hg q (List.mem_cons_of_mem _ hq)) (fun q hq => h q (List.mem_cons_of_mem _ hq))
    have h2 := h s List.mem_cons_self
    have h3 := hg s List.mem_cons_self
    have h4 : gx_cr s.1 s.2 z = 0 := by
      unfold gx_cr
      by_cases hc : gx_cross s z.2
      · have hx := h2 hc
        have hne : s.1.2 ≠ s.2.2 := by rcases hc with hc | hc <;> grind
        have ht := gx_turn_x (z := z) hne
        rcases hc with hc | hc
        · have := gx_sgn (k := s.2.2 - s.1.2) (v := gx_x s z.2 - z.1) (by grind)
          grind
        · have := gx_sgn (k := s.1.2 - s.2.2) (v := gx_x s z.2 - z.1) (by grind)
          grind
      · unfold gx_cross at hc; grind
    simp only [gx_wn, h4, h1]; omega
theorem gx_split_mem {S : List ((Rat × Rat) × (Rat × Rat))} {s : (Rat × Rat) × (Rat × Rat)} (h : s ∈ S) : ∃ S1 S2, S = S1 ++ s :: S2 := List.append_of_mem h
/-- at a height of no corner, off the ring -/
theorem gx_two_gen {S : List ((Rat × Rat) × (Rat × Rat))} {z : Rat × Rat} (h : gx_simple S) (hg : gx_gen S z) : gx_wn S z = 0 ∨ gx_wn S z = gx_rr S ∨ gx_wn S z = gx_rr S + 1 := by
  by_cases hx : ∃ s ∈ S, gx_cross s z.2 ∧ z.1 < gx_x s z.2
  · right
    obtain ⟨s, s1, ⟨s2, s3⟩, s4⟩ := gx_argmin (fun s => gx_cross s z.2 ∧ z.1 < gx_x s z.2) (fun s => gx_x s z.2) hx
    obtain ⟨S1, S2, rfl⟩ := gx_split_mem s1
    obtain ⟨t, t0, t1, t2⟩ := gx_cross_at s2
    have hne : s.1.2 ≠ s.2.2 := by rcases s2 with hc | hc <;> grind
    have := gx_hit (z := z) h t0 t1 (by rw [t2]) (by rw [t2]; simp only; grind) hne (by
      intro q hq u u0 u1 uh hb
      rw [t2] at hb ⊢
      simp only at hb ⊢
      have hq1 := hg q hq
      obtain ⟨c1, c2⟩ := gx_cross_u u0 u1 hq1.1 hq1.2.1 uh
      rw [c2] at hb ⊢
      have hzz : gx_x q z.2 ≠ z.1 := by
        intro k
        refine hq1.2.2 ⟨u, u0, u1, Prod.ext ?_ uh⟩
        rw [c2]; exact k
      by_cases e : z.1 < gx_x q z.2
      · have := s4 q hq ⟨c1, e⟩
        grind
      · grind)
    split at this
    · exact Or.inr this
    · exact Or.inl (by omega)
  · left
    exact gx_nohit (fun s hs => ⟨(hg s hs).1, (hg s hs).2.1⟩) (fun s hs hc => by
      by_cases e : z.1 < gx_x s z.2
      · exact absurd ⟨s, hs, hc, e⟩ hx
      · grind)
