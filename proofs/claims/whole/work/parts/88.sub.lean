/-! a side in two, and two sides in one -/
section SUB
variable {a b d : Rat × Rat} {t : Rat}
theorem gx_sub1 (hb : b = gx_at a d t) (s : Rat) : gx_at a b s = gx_at a d (s * t) := by
  subst hb; simp only [gx_at]; grind
theorem gx_sub2 (hb : b = gx_at a d t) (s : Rat) : gx_at b d s = gx_at a d (t + s * (1 - t)) := by
  subst hb; simp only [gx_at]; grind
theorem gx_mul01 {x y : Rat} (x0 : 0 ≤ x) (x1 : x < 1) (y0 : 0 < y) (y1 : y ≤ 1) : 0 ≤ x * y ∧ x * y < y := by
  have h1 := Rat.mul_nonneg x0 (Rat.le_of_lt y0)
  have h2 := Rat.mul_pos (show 0 < 1 - x by grind) y0
  grind
theorem gx_hd_sub (t0 : 0 < t) (t1 : t < 1) (hb : b = gx_at a d t) {q : (Rat × Rat) × (Rat × Rat)} : gx_hd (a, d) q ↔ gx_hd (a, b) q ∧ gx_hd (b, d) q := by
  constructor
  · intro h
    refine ⟨fun x u x0 x1 u0 u1 k => ?_, fun x u x0 x1 u0 u1 k => ?_⟩
    · have := gx_mul01 x0 x1 t0 (by grind)
      refine h (x * t) u this.1 (by grind) u0 u1 ?_
      rw [← gx_sub1 hb]; exact k
    · have := gx_mul01 x0 x1 (show 0 < 1 - t by grind) (by grind)
      refine h (t + x * (1 - t)) u (by grind) (by grind) u0 u1 ?_
      rw [← gx_sub2 hb]; exact k
  · rintro ⟨h1, h2⟩ x u x0 x1 u0 u1 k
    by_cases c : x < t
    · refine h1 (x / t) u ?_ ?_ u0 u1 ?_
      · exact (gx_divle x0 (by grind) t0).1
      · rw [Rat.div_lt_iff t0]; grind
      · show gx_at a b (x / t) = _
        rw [gx_sub1 hb, Rat.div_mul_cancel (by grind)]; exact k
    · have p : 0 < 1 - t := by grind
      refine h2 ((x - t) / (1 - t)) u ?_ ?_ u0 u1 ?_
      · exact (gx_divle (by grind) (show x - t ≤ 1 - t by grind) p).1
      · rw [Rat.div_lt_iff p]; grind
      · show gx_at b d ((x - t) / (1 - t)) = _
        rw [gx_sub2 hb, Rat.div_mul_cancel (by grind)]
        have : t + (x - t) = x := by grind
        rw [this]; exact k
theorem gx_sub_ne (t0 : 0 < t) (t1 : t < 1) (hb : b = gx_at a d t) (hn : a ≠ d) : a ≠ b ∧ b ≠ d := by
  constructor
  · intro k
    have := gx_at_inj hn (show gx_at a d 0 = gx_at a d t by rw [gx_at0, ← hb]; exact k)
    grind
  · intro k
    have := gx_at_inj hn (show gx_at a d t = gx_at a d 1 by rw [gx_at1, ← hb]; exact k)
    grind
theorem gx_hd_self (t0 : 0 < t) (t1 : t < 1) (hb : b = gx_at a d t) (hn : a ≠ d) : gx_hd (a, b) (b, d) := by
  intro x u x0 x1 u0 u1 k
  have k' : gx_at a b x = gx_at b d u := k
  rw [gx_sub1 hb, gx_sub2 hb] at k'
  have h := gx_at_inj hn k'
  have h1 := gx_mul01 x0 x1 t0 (by grind)
  have h2 := Rat.mul_nonneg u0 (show 0 ≤ 1 - t by grind)
  grind
theorem gx_sub_simple {S T : List ((Rat × Rat) × (Rat × Rat))} (t0 : 0 < t) (t1 : t < 1) (hb : b = gx_at a d t) (hn : a ≠ d) : gx_simple (S ++ (a, d) :: T) ↔ gx_simple (S ++ (a, b) :: (b, d) :: T) := by
  have ne := gx_sub_ne t0 t1 hb hn
  have hs := gx_hd_self t0 t1 hb hn
  have hp : (∃ v, gx_path (S ++ (a, d) :: T) v v) ↔ ∃ v, gx_path (S ++ (a, b) :: (b, d) :: T) v v := by
    constructor
    · rintro ⟨v, h⟩
      obtain ⟨w, h1, h2⟩ := gx_path_split h
      exact ⟨v, gx_path_app h1 ⟨h2.1, rfl, h2.2⟩⟩
    · rintro ⟨v, h⟩
      obtain ⟨w, h1, h2⟩ := gx_path_split h
      exact ⟨v, gx_path_app h1 ⟨h2.1, h2.2.2⟩⟩
  unfold gx_simple
  rw [hp]
  refine and_congr ?_ (and_congr ?_ Iff.rfl)
  · simp only [List.pairwise_append, List.pairwise_cons, List.mem_cons]
    constructor
    · rintro ⟨h1, ⟨h2, h3⟩, h4⟩
      refine ⟨h1, ⟨?_, ?_, h3⟩, ?_⟩
      · rintro q (e | e)
        · rw [e]; exact hs
        · exact ((gx_hd_sub t0 t1 hb).mp (h2 q e)).1
      · intro q e
        exact ((gx_hd_sub t0 t1 hb).mp (h2 q e)).2
      · rintro p hp q (e | e | e)
        · rw [e]; exact gx_hd_symm ((gx_hd_sub t0 t1 hb).mp (gx_hd_symm (h4 p hp _ (Or.inl rfl)))).1
        · rw [e]; exact gx_hd_symm ((gx_hd_sub t0 t1 hb).mp (gx_hd_symm (h4 p hp _ (Or.inl rfl)))).2
        · exact h4 p hp q (Or.inr e)
    · rintro ⟨h1, ⟨h2, h2', h3⟩, h4⟩
      refine ⟨h1, ⟨?_, h3⟩, ?_⟩
      · intro q e
        exact (gx_hd_sub t0 t1 hb).mpr ⟨h2 q (Or.inr e), h2' q e⟩
      · rintro p hp q (e | e)
        · rw [e]; exact gx_hd_symm ((gx_hd_sub t0 t1 hb).mpr ⟨gx_hd_symm (h4 p hp _ (Or.inl rfl)), gx_hd_symm (h4 p hp _ (Or.inr (Or.inl rfl)))⟩)
        · exact h4 p hp q (Or.inr (Or.inr e))
  · simp only [List.mem_append, List.mem_cons]
    constructor
    · rintro h q (e | e | e | e)
      · exact h q (Or.inl e)
      · rw [e]; exact ne.1
      · rw [e]; exact ne.2
      · exact h q (Or.inr (Or.inr e))
    · rintro h q (e | e | e)
      · exact h q (Or.inl e)
      · rw [e]; exact hn
      · exact h q (Or.inr (Or.inr (Or.inr e)))
theorem gx_sub_wn {S T : List ((Rat × Rat) × (Rat × Rat))} (t0 : 0 < t) (t1 : t < 1) (hb : b = gx_at a d t) (z : Rat × Rat) : gx_wn (S ++ (a, b) :: (b, d) :: T) z = gx_wn (S ++ (a, d) :: T) z := by
  have h := gx_cr_at (a := a) (b := d) (Rat.le_of_lt t0) (Rat.le_of_lt t1) z
  rw [← hb] at h
  simp only [gx_wn_app, gx_wn]
  omega
end SUB
theorem gx_fold_at {a b d : Rat × Rat} {k : Rat} (k0 : 0 < k) (h1 : d.1 - b.1 = -(k * (a.1 - b.1))) (h2 : d.2 - b.2 = -(k * (a.2 - b.2))) : ∃ t : Rat, 0 < t ∧ t < 1 ∧ b = gx_at a d t := by
  have p : 0 < 1 + k := by grind
  refine ⟨1 / (1 + k), ?_, ?_, ?_⟩
  · rw [Rat.lt_div_iff p]; grind
  · rw [Rat.div_lt_iff p]; grind
  · have e : 1 / (1 + k) * (1 + k) = 1 := Rat.div_mul_cancel (by grind)
    apply Prod.ext
    · simp only [gx_at]; grind
    · simp only [gx_at]; grind
theorem gx_simple3 {S : List ((Rat × Rat) × (Rat × Rat))} (h : gx_simple S) (h0 : S ≠ []) : 3 ≤ S.length := by
  obtain ⟨hp, hn, v, hv⟩ := h
  match S, h0 with
  | [s], _ =>
    exfalso
    have := hn s (by simp)
    obtain ⟨e1, e2⟩ := hv
    exact this (e1.trans e2.symm)
  | [s, q], _ =>
    exfalso
    obtain ⟨e1, e2, e3⟩ := hv
    have hd : gx_hd s q := by
      rw [List.pairwise_cons] at hp
      exact hp.1 q (by simp)
    refine hd (1/2) (1/2) (by grind) (by grind) (by grind) (by grind) ?_
    rw [e1, e2, e3]
    simp only [gx_at]; grind
  | s :: q :: r :: T, _ => simp
