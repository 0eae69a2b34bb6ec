/-! a ring with corners of natural numbers: its area has its sense -/
def gx_nat (n : Nat) (S : List ((Rat × Rat) × (Rat × Rat))) : Prop := ∀ s ∈ S, 0 ≤ s.1.1 ∧ 0 ≤ s.2.1 ∧ ∃ A B : Nat, s.1.2 = A ∧ s.2.2 = B ∧ A ≤ n ∧ B ≤ n
theorem gx_area_sum {S : List ((Rat × Rat) × (Rat × Rat))} {a b : Rat × Rat} {n : Nat} (hp : gx_path S a b) (hn : gx_nat n S) :
    gx_Q (fun y => gx_M (S.map (gx_lev ((y : Rat) + 1/2)))) n = (gx_area S + b.1 * b.2 - a.1 * a.2) / 2 := by
  induction S generalizing a with
  | nil =>
    simp only [gx_path] at hp; subst hp
    have : ∀ m, gx_Q (fun y => gx_M (([] : List ((Rat × Rat) × (Rat × Rat))).map (gx_lev ((y : Rat) + 1/2)))) m = 0 := by
      intro m
      induction m with
      | zero => rfl
      | succ m ih => show gx_Q _ m + gx_M [] = 0; rw [ih]; simp only [gx_M]; grind
    rw [this]; simp only [gx_area]; grind
  | cons s S ih =>
    have h1 := ih hp.2 (fun q hq => hn q (List.mem_cons_of_mem _ hq))
    obtain ⟨_, _, A, B, hA, hB, hAn, hBn⟩ := hn s List.mem_cons_self
    have h2 := gx_side_sum hA hB ⟨hAn, hBn⟩
    have h3 := gx_Q_add (fun y => ((gx_lev ((y : Rat) + 1/2) s).1 : Rat) * (gx_lev ((y : Rat) + 1/2) s).2) (fun y => gx_M (S.map (gx_lev ((y : Rat) + 1/2)))) n
    have h4 : (fun y : Nat => gx_M ((s :: S).map (gx_lev ((y : Rat) + 1/2)))) = fun y : Nat => ((gx_lev ((y : Rat) + 1/2) s).1 : Rat) * (gx_lev ((y : Rat) + 1/2) s).2 + gx_M (S.map (gx_lev ((y : Rat) + 1/2))) := by
      funext y; rfl
    rw [h4, h3, h2, h1, ← hp.1]
    simp only [gx_area]; grind
theorem gx_half_ne (y K : Nat) : (K : Rat) ≠ (y : Rat) + 1/2 := by
  intro h
  rcases Nat.lt_or_ge y K with e | e
  · have h2 : ((y + 1 : Nat) : Rat) ≤ K := Rat.natCast_le_natCast.mpr e
    have h3 : ((y + 1 : Nat) : Rat) = (y : Rat) + 1 := by simp
    grind
  · have h2 : (K : Rat) ≤ y := Rat.natCast_le_natCast.mpr e
    grind
theorem gx_low {S : List ((Rat × Rat) × (Rat × Rat))} {z : Rat × Rat} (h : ∀ s ∈ S, z.2 < s.1.2 ∧ z.2 < s.2.2) : gx_wn S z = 0 := by
  induction S with
  | nil => rfl
  | cons s S ih =>
    have h1 := ih (fun q hq => h q (List.mem_cons_of_mem _ hq))
    have h2 := h s List.mem_cons_self
    simp only [gx_wn, h1]
    unfold gx_cr
    rw [if_neg (by grind), if_neg (by grind)]; omega
/-- left of all corners -/
theorem gx_leftof {S : List ((Rat × Rat) × (Rat × Rat))} {a z : Rat × Rat} {n : Nat} (hp : gx_path S a a) (hn : gx_nat n S) (hz : z.1 < 0) : gx_wn S z = 0 := by
  by_cases h0 : z.2 < 0
  · refine gx_low ?_
    intro s hs
    obtain ⟨_, _, A, B, hA, hB, _, _⟩ := hn s hs
    have := Rat.natCast_nonneg (a := A)
    have := Rat.natCast_nonneg (a := B)
    rw [hA, hB]; constructor <;> grind
  have h1 : gx_wn S z = gx_wn S (z.1, -1) := by
    refine gx_ring hp ?_
    intro s hs t y t0 t1 y0 y1 k
    obtain ⟨x1, x2, _⟩ := hn s hs
    have k1 : (gx_at s.1 s.2 t).1 = (gx_at z (z.1, -1) y).1 := by rw [k]
    simp only [gx_at] at k1
    have := Rat.mul_nonneg (a := t) (b := s.2.1) t0 x2
    have := Rat.mul_nonneg (a := 1 - t) (b := s.1.1) (by grind) x1
    grind
  rw [h1]
  refine gx_low ?_
  intro s hs
  obtain ⟨_, _, A, B, hA, hB, _, _⟩ := hn s hs
  have := Rat.natCast_nonneg (a := A)
  have := Rat.natCast_nonneg (a := B)
  rw [hA, hB]; simp only; constructor <;> grind
theorem gx_area_pos {S : List ((Rat × Rat) × (Rat × Rat))} {n : Nat} (h : gx_simple S) (h0 : S ≠ []) (hr : gx_rr S = 0) (hn : gx_nat n S) : 0 < gx_area S := by
  obtain ⟨a, hp⟩ := h.2.2
  have hsum := gx_area_sum hp hn
  have hgen : ∀ y : Nat, ∀ s ∈ S, s.1.2 ≠ (y : Rat) + 1/2 ∧ s.2.2 ≠ (y : Rat) + 1/2 := by
    intro y s hs
    obtain ⟨_, _, A, B, hA, hB, _, _⟩ := hn s hs
    rw [hA, hB]; exact ⟨gx_half_ne y A, gx_half_ne y B⟩
  have hx0 : ∀ y : Nat, ∀ p ∈ S.map (gx_lev ((y : Rat) + 1/2)), 0 ≤ p.2 := by
    intro y p hp
    obtain ⟨s, hs, rfl⟩ := List.mem_map.mp hp
    obtain ⟨x1, x2, _⟩ := hn s hs
    have hcr : gx_cross s ((y : Rat) + 1/2) → 0 ≤ gx_x s ((y : Rat) + 1/2) := by
      intro hc
      obtain ⟨t, t0, t1, ht⟩ := gx_cross_at hc
      have e : gx_x s ((y : Rat) + 1/2) = s.1.1 + t * (s.2.1 - s.1.1) := by
        have : (gx_at s.1 s.2 t).1 = gx_x s ((y : Rat) + 1/2) := by rw [ht]
        rw [← this]; rfl
      have := Rat.mul_nonneg (a := t) (b := s.2.1) (by grind) x2
      have := Rat.mul_nonneg (a := 1 - t) (b := s.1.1) (by grind) x1
      rw [e]; grind
    unfold gx_lev
    split
    · exact hcr (Or.inl (by assumption))
    · split
      · exact hcr (Or.inr (by assumption))
      · show (0 : Rat) ≤ 0; grind
  have hW : ∀ y : Nat, ∀ x, 0 ≤ gx_W (S.map (gx_lev ((y : Rat) + 1/2))) x := by
    intro y x
    rw [gx_lev_W (hgen y)]
    rcases gx_01 h hr (x, (y : Rat) + 1/2) with e | e <;> omega
  have hM : ∀ y : Nat, 0 ≤ gx_M (S.map (gx_lev ((y : Rat) + 1/2))) := fun y => (gx_layer _ (hx0 y) (hW y)).1
  have hex : ∃ y : Nat, y < n ∧ 0 < gx_M (S.map (gx_lev ((y : Rat) + 1/2))) := by
    obtain ⟨s, hs, hne⟩ := gx_notflat h h0
    obtain ⟨_, _, A, B, hA, hB, hAn, hBn⟩ := hn s hs
    have hAB : A ≠ B := by intro e; subst e; exact hne (hA.trans hB.symm)
    have hcr : ∃ y : Nat, y < n ∧ gx_cross s ((y : Rat) + 1/2) := by
      have up : ∀ U V : Nat, U < V → (U : Rat) < (U : Rat) + 1/2 ∧ (U : Rat) + 1/2 < V := by
        intro U V hUV
        have h2 : ((U + 1 : Nat) : Rat) ≤ V := Rat.natCast_le_natCast.mpr hUV
        have h3 : ((U + 1 : Nat) : Rat) = (U : Rat) + 1 := by simp
        constructor <;> grind
      rcases Nat.lt_or_ge A B with e | e
      · exact ⟨A, by omega, Or.inl (by rw [hA, hB]; exact up A B e)⟩
      · exact ⟨B, by omega, Or.inr (by rw [hA, hB]; exact up B A (by omega))⟩
    obtain ⟨y, hy, hc⟩ := hcr
    refine ⟨y, hy, ?_⟩
    obtain ⟨t, t0, t1, ht⟩ := gx_cross_at hc
    obtain ⟨d, d0, hd⟩ := gx_local' h hs t0 t1
    rw [ht] at hd
    have hturn := fun x => gx_turn_x (s := s) (z := (x, (y : Rat) + 1/2)) hne
    have hz : ∃ x, gx_wn S (x, (y : Rat) + 1/2) = 1 := by
      rcases gx_tri s.1.2 s.2.2 with e | e | e
      · refine ⟨gx_x s ((y : Rat) + 1/2) - d, ?_⟩
        have ht2 := hturn (gx_x s ((y : Rat) + 1/2) - d)
        simp only at ht2
        have hpos := Rat.mul_pos (a := s.2.2 - s.1.2) (b := gx_x s ((y : Rat) + 1/2) - (gx_x s ((y : Rat) + 1/2) - d)) (by grind) (by grind)
        rw [← ht2] at hpos
        have := hd (gx_x s ((y : Rat) + 1/2) - d, (y : Rat) + 1/2) (by unfold gx_near; simp only; grind) (by grind)
        rw [if_pos hpos, hr] at this; exact this
      · exact absurd e hne
      · refine ⟨gx_x s ((y : Rat) + 1/2) + d, ?_⟩
        have ht2 := hturn (gx_x s ((y : Rat) + 1/2) + d)
        simp only at ht2
        have hpos := Rat.mul_pos (a := s.1.2 - s.2.2) (b := gx_x s ((y : Rat) + 1/2) + d - gx_x s ((y : Rat) + 1/2)) (by grind) (by grind)
        have hpos2 : 0 < gx_turn s.1 s.2 (gx_x s ((y : Rat) + 1/2) + d, (y : Rat) + 1/2) := by rw [ht2]; grind
        have := hd (gx_x s ((y : Rat) + 1/2) + d, (y : Rat) + 1/2) (by unfold gx_near; simp only; grind) (by grind)
        rw [if_pos hpos2, hr] at this; exact this
    obtain ⟨x, hx⟩ := hz
    have hx1 : 0 ≤ x := by
      by_cases e : 0 ≤ x
      · exact e
      · have := gx_leftof hp hn (z := (x, (y : Rat) + 1/2)) (by simp only; grind); omega
    exact (gx_layer _ (hx0 y) (hW y)).2 x hx1 (by rw [gx_lev_W (hgen y), hx]; omega)
  obtain ⟨y, hy, hyM⟩ := hex
  have := gx_Q_pos1 (fun y : Nat => gx_M (S.map (gx_lev ((y : Rat) + 1/2)))) n y (fun x _ => hM x) hy hyM
  rw [hsum] at this
  grind
