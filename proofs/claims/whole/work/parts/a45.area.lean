/-! twice the area of a ring is below 2 * 20000 * 20000 -/
theorem gx_S_cnt (f : Nat → Int) (k : Nat) (h1 : ∀ x, f x ≤ 1) (h2 : ∀ x, k ≤ x → f x ≤ 0) : ∀ n, gx_S f n ≤ k ∧ gx_S f n ≤ n := by
  intro n
  induction n with
  | zero => exact ⟨by show (0 : Int) ≤ k; omega, by show (0 : Int) ≤ 0; omega⟩
  | succ n ih =>
    have a := h1 n
    have e : gx_S f (n + 1) = gx_S f n + f n := rfl
    refine ⟨?_, by rw [e]; omega⟩
    by_cases c : k ≤ n
    · have := h2 n c; rw [e]; omega
    · rw [e]; omega
theorem gx_layer_le (l : List (Int × Rat)) (X : Nat) (h0 : ∀ p ∈ l, 0 ≤ p.2) (hX : ∀ p ∈ l, p.2 ≤ (X : Rat)) (hW : ∀ x, gx_W l x ≤ 1) : gx_M l ≤ (X : Rat) := by
  obtain ⟨D, D0, hD⟩ := gx_dens (l.map (fun p => p.2)) (by
    intro q hq
    obtain ⟨p, hp, rfl⟩ := List.mem_map.mp hq; exact h0 p hp)
  have hD1 : (0 : Rat) < D := Rat.natCast_pos.mpr D0
  obtain ⟨m, h1, h2⟩ := gx_toN l D D0 (fun p hp => hD p.2 (List.mem_map.mpr ⟨p, hp, rfl⟩))
  obtain ⟨n, hn⟩ := gx_bdN m
  have hl := gx_layerN m n hn
  have zero : ∀ (l : List (Int × Rat)) (x : Rat), (∀ p ∈ l, p.2 ≤ x) → gx_W l x = 0 := by
    intro l x
    induction l with
    | nil => intro _; rfl
    | cons p l ih =>
      intro hp
      show (if x < p.2 then p.1 else 0) + gx_W l x = 0
      have := hp p List.mem_cons_self
      rw [if_neg (by grind), ih (fun q hq => hp q (List.mem_cons_of_mem _ hq))]; rfl
  have hc := (gx_S_cnt (gx_WN m) (X * D) (fun y => by rw [h1]; exact hW _) (fun y hy => by
    rw [h1, zero l _ (fun p hp => ?_)]
    · exact Int.le_refl _
    · have a := hX p hp
      have b : (((X * D : Nat) : Nat) : Rat) ≤ (y : Rat) := Rat.natCast_le_natCast.mpr hy
      have e : (((X * D : Nat) : Nat) : Rat) = (X : Rat) * (D : Rat) := by simp
      rw [e] at b
      have d : (y : Rat) / D * D = y := Rat.div_mul_cancel (by grind)
      by_cases q : p.2 ≤ (y : Rat) / D
      · exact q
      · have := Rat.mul_pos (a := (X : Rat) - (y : Rat) / D) (b := (D : Rat)) (by grind) hD1
        grind) n).1
  rw [hl] at hc
  have hc2 : gx_M l * D ≤ (X : Rat) * D := by
    rw [h2]
    have := Rat.intCast_le_intCast.mpr hc
    have e : (((X * D : Nat) : Int) : Rat) = (X : Rat) * (D : Rat) := by
      have : (((X * D : Nat) : Int) : Rat) = ((X * D : Nat) : Rat) := rfl
      rw [this]; simp
    rw [e] at this
    exact this
  by_cases q : gx_M l ≤ (X : Rat)
  · exact q
  · have := Rat.mul_pos (a := gx_M l - (X : Rat)) (b := (D : Rat)) (by grind) hD1
    grind
theorem gx_Q_le (f : Nat → Rat) (X : Nat) (h : ∀ x, f x ≤ (X : Rat)) : ∀ n : Nat, gx_Q f n ≤ (n : Rat) * (X : Rat) := by
  intro n
  induction n with
  | zero => show (0 : Rat) ≤ ((0 : Nat) : Rat) * (X : Rat); grind
  | succ n ih =>
    have e : gx_Q f (n + 1) = gx_Q f n + f n := rfl
    have e2 : ((n + 1 : Nat) : Rat) = (n : Rat) + 1 := by simp
    have := h n
    rw [e, e2]; grind
theorem gx_area_le {S : List ((Rat × Rat) × (Rat × Rat))} {n X : Nat} (h : gx_simple S) (hw : ∀ z, gx_wn S z ≤ 1) (hn : gx_nat n S) (hX : ∀ s ∈ S, s.1.1 ≤ (X : Rat) ∧ s.2.1 ≤ (X : Rat)) : gx_area S ≤ 2 * ((n : Rat) * (X : Rat)) := by
  obtain ⟨a, hp⟩ := h.2.2
  have hsum := gx_area_sum hp hn
  have hgen : ∀ y : Nat, ∀ s ∈ S, s.1.2 ≠ (y : Rat) + 1/2 ∧ s.2.2 ≠ (y : Rat) + 1/2 := by
    intro y s hs
    obtain ⟨_, _, A, B, hA, hB, _, _⟩ := hn s hs
    rw [hA, hB]; exact ⟨gx_half_ne y A, gx_half_ne y B⟩
  have hx0 : ∀ y : Nat, ∀ p ∈ S.map (gx_lev ((y : Rat) + 1/2)), 0 ≤ p.2 ∧ p.2 ≤ (X : Rat) := by
    intro y p hp
    obtain ⟨s, hs, rfl⟩ := List.mem_map.mp hp
    obtain ⟨x1, x2, _⟩ := hn s hs
    obtain ⟨y1, y2⟩ := hX s hs
    have hcr : gx_cross s ((y : Rat) + 1/2) → 0 ≤ gx_x s ((y : Rat) + 1/2) ∧ gx_x s ((y : Rat) + 1/2) ≤ (X : Rat) := by
      intro hc
      obtain ⟨t, t0, t1, ht⟩ := gx_cross_at hc
      have e : gx_x s ((y : Rat) + 1/2) = s.1.1 + t * (s.2.1 - s.1.1) := by
        have : (gx_at s.1 s.2 t).1 = gx_x s ((y : Rat) + 1/2) := by rw [ht]
        rw [← this]; rfl
      have a1 := Rat.mul_nonneg (a := t) (b := s.2.1) (by grind) x2
      have a2 := Rat.mul_nonneg (a := 1 - t) (b := s.1.1) (by grind) x1
      have a3 := Rat.mul_nonneg (a := t) (b := (X : Rat) - s.2.1) (by grind) (by grind)
      have a4 := Rat.mul_nonneg (a := 1 - t) (b := (X : Rat) - s.1.1) (by grind) (by grind)
      rw [e]; constructor <;> grind
    unfold gx_lev
    split
    · exact hcr (Or.inl (by assumption))
    · split
      · exact hcr (Or.inr (by assumption))
      · refine ⟨by show (0 : Rat) ≤ 0; grind, ?_⟩
        have : (0 : Rat) ≤ (X : Rat) := Rat.natCast_nonneg
        exact this
  have hM : ∀ y : Nat, gx_M (S.map (gx_lev ((y : Rat) + 1/2))) ≤ (X : Rat) := fun y => gx_layer_le _ X (fun p hp => (hx0 y p hp).1) (fun p hp => (hx0 y p hp).2) (fun x => by rw [gx_lev_W (hgen y)]; exact hw _)
  have := gx_Q_le (fun y => gx_M (S.map (gx_lev ((y : Rat) + 1/2)))) X hM n
  rw [hsum] at this
  grind
theorem rg_area {l : List PT} (h : rg_ok l) : 0 < ig_area l ∧ ig_area l ≤ 800000000 := by
  obtain ⟨h1, h2, h3, h4⟩ := h
  have h0 : l ≠ [] := by intro k; rw [k] at h2; simp at h2
  constructor
  · rcases rgn_sense h1 h3 h0 with q | q
    · exact q.1
    · exfalso
      have s := rgn_len l
      have n0 : rgn l ≠ [] := by
        intro k
        rw [k] at s
        exact h0 (List.length_eq_zero_iff.mp s.symm)
      have r := gx_ccw h3 n0 h4
      have := gx_area_pos h3 n0 r (rgn_nat h1)
      rw [ig_area_c] at this
      have := Rat.intCast_pos.mp this
      omega
  · have := gx_area_le (X := 20000) h3 (fun z => rgn_le1 h3 h4 h0 z) (rgn_nat h1) (fun s hs => by
      obtain ⟨i, hi, e⟩ := rgn_mem.mp hs
      have o1 := ig_at_ok h1 h0 i
      have o2 := ig_at_ok h1 h0 (i + 1)
      unfold ig_ok at o1 o2
      rw [e]
      exact ⟨(ig_le _ 20000).mpr o1.2.1, (ig_le _ 20000).mpr o2.2.1⟩)
    rw [ig_area_c] at this
    have e : 2 * (((20000 : Nat) : Rat) * ((20000 : Nat) : Rat)) = ((800000000 : Int) : Rat) := by grind
    rw [e] at this
    exact (ig_le _ _).mp this
