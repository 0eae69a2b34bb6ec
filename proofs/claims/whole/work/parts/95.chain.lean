/-! THE CHAIN: what the tests say -/
theorem chn_ix (p q : PT) (I : List PT) : gx_sd (ig_c p) (I.map ig_c) (ig_c q) = (List.range (I.length + 1)).map (fun i => (ig_c (ig_at (p :: (I ++ [q])) i), ig_c (ig_at (p :: (I ++ [q])) (i + 1)))) := by
  apply List.ext_getElem
  · simp [gx_sd_len]
  · intro i h1 h2
    rw [gx_sd_get]
    simp only [List.getElem_map, List.getElem_range]
    rw [gx_sd_len, List.length_map] at h1
    rw [ig_at_lt (show i < (p :: (I ++ [q])).length by simp; omega), ig_at_lt (show i + 1 < (p :: (I ++ [q])).length by simp; omega)]
    congr 1
    · cases i with
      | zero => rfl
      | succ i => simp [List.getElem_append_left (show i < I.length by omega)]
    · have e : I.map ig_c ++ [ig_c q] = (I ++ [q]).map ig_c := by simp
      simp only [List.getElem_cons_succ]
      have : (I.map ig_c ++ [ig_c q])[i]'(by simp; omega) = ((I ++ [q]).map ig_c)[i]'(by simp; omega) := by simp only [e]
      rw [this, List.getElem_map]
theorem chn_mem {p q : PT} {I : List PT} {s : (Rat × Rat) × (Rat × Rat)} : s ∈ gx_sd (ig_c p) (I.map ig_c) (ig_c q) ↔ ∃ i, i < I.length + 1 ∧ s = (ig_c (ig_at (p :: (I ++ [q])) i), ig_c (ig_at (p :: (I ++ [q])) (i + 1))) := by
  rw [chn_ix, List.mem_map]
  constructor
  · rintro ⟨i, hi, e⟩; exact ⟨i, List.mem_range.mp hi, e.symm⟩
  · rintro ⟨i, hi, e⟩; exact ⟨i, List.mem_range.mpr hi, e.symm⟩
theorem chn_open {p q : PT} {I : List PT} (ok : ∀ x ∈ p :: (I ++ [q]), ig_ok x) (h : ic_simple (p :: (I ++ [q])) false) : gx_open (gx_sd (ig_c p) (I.map ig_c) (ig_c q)) (ig_c p) (ig_c q) := by
  have hlen : (p :: (I ++ [q])).length = I.length + 2 := by simp
  have hz : ∀ i, i < I.length + 1 → ig_at (p :: (I ++ [q])) i ≠ ig_at (p :: (I ++ [q])) (i + 1) := by
    intro i hi
    exact h.1 i (by simp; omega)
  have hs : ∀ i j, i < j → j < I.length + 1 → ic_meeting (ig_at (p :: (I ++ [q])) i) (ig_at (p :: (I ++ [q])) (i + 1)) (ig_at (p :: (I ++ [q])) j) (ig_at (p :: (I ++ [q])) (j + 1)) = if j = i + 1 then 1 else 0 := by
    intro i j hij hj
    have := h.2 i j hij (by simp; omega)
    simpa using this
  have hq : ig_at (p :: (I ++ [q])) (I.length + 1) = q := by
    rw [ig_at_lt (by simp)]; simp
  have okk := ig_at_ok ok (by simp)
  have hmm := @chn_mem p q I
  have hix := chn_ix p q I
  generalize hK : p :: (I ++ [q]) = K at *
  have nx : ∀ k, k + 1 < I.length + 1 → gx_turn (ig_c (ig_at K k)) (ig_c (ig_at K (k + 1))) (ig_c (ig_at K (k + 2))) = 0 → ∃ x : Rat, 0 < x ∧ (ig_c (ig_at K (k + 2))).1 - (ig_c (ig_at K (k + 1))).1 = -(x * ((ig_c (ig_at K k)).1 - (ig_c (ig_at K (k + 1))).1)) ∧ (ig_c (ig_at K (k + 2))).2 - (ig_c (ig_at K (k + 1))).2 = -(x * ((ig_c (ig_at K k)).2 - (ig_c (ig_at K (k + 1))).2)) := by
    intro k hk
    have hm := hs k (k + 1) (by omega) hk
    rw [if_pos rfl, ic_meeting_next (okk _) (okk _) (okk _) (hz _ (by omega)) (hz _ hk)] at hm
    exact (im_fold_iff (hz _ (by omega)) (hz _ hk)).mp hm
  refine ⟨?_, ?_, gx_sd_path _ _ _, ?_⟩
  · rw [hix, List.pairwise_iff_getElem]
    intro i j hi hj hij
    simp only [List.getElem_map, List.getElem_range]
    rw [List.length_map, List.length_range] at hj
    have hm := hs i j hij hj
    by_cases c : j = i + 1
    · subst c
      exact gx_hd_next (ig_ne (hz _ (by omega))) (ig_ne (hz _ hj)) (nx i hj)
    · rw [if_neg c] at hm
      exact gx_hd_free ((ic_meeting_iff (okk _) (okk _) (okk _) (okk _) (hz _ (by omega)) (hz _ hj)).mp hm)
  · intro s hs
    obtain ⟨i, hi, e⟩ := hmm.mp hs
    rw [e]; exact ig_ne (hz i hi)
  · intro s hs' t t0 t1 e
    obtain ⟨i, hi, es⟩ := hmm.mp hs'
    rw [es] at e
    have e : gx_at (ig_c (ig_at K i)) (ig_c (ig_at K (i + 1))) t = ig_c q := e
    by_cases c1 : i = I.length
    · rw [c1, hq] at e
      have := gx_at_inj (ig_ne (by rw [← hq]; exact hz I.length (by omega))) (e.trans (gx_at1 _ _).symm)
      grind
    · by_cases c2 : i + 1 = I.length
      · have hq2 : ig_at K (i + 2) = q := by rw [← hq]; congr 1; omega
        have ht : gx_turn (ig_c (ig_at K i)) (ig_c (ig_at K (i + 1))) (ig_c (ig_at K (i + 2))) = 0 := by
          rw [hq2, ← e]; simp only [gx_turn, gx_at]; grind
        obtain ⟨x, x0, x1, x2⟩ := nx i (by omega) ht
        rw [hq2] at x1 x2
        have hqq : ig_c q = gx_at (ig_c (ig_at K i)) (ig_c (ig_at K (i + 1))) (1 + x) := by
          apply Prod.ext
          · simp only [gx_at]; grind
          · simp only [gx_at]; grind
        have := gx_at_inj (ig_ne (hz i hi)) (e.trans hqq)
        grind
      · have hm := hs i I.length (by omega) (by omega)
        rw [if_neg (by omega)] at hm
        have hf := (ic_meeting_iff (okk _) (okk _) (okk _) (okk _) (hz _ hi) (hz _ (by omega))).mp hm
        refine hf t 1 t0 (by grind) (by grind) (by grind) ?_
        rw [gx_at1, hq, e]
theorem ig_lt_pk {a b : PT} (ha : ig_ok a) (hb : ig_ok b) {z w : Rat × Rat} (h1 : ¬ gx_lt z (ig_c a)) (h2 : gx_lt z w) (h3 : ¬ gx_lt (ig_c b) w) : ig_pk a < ig_pk b := by
  rw [← ig_lt_c ha hb]
  rcases gx_lt_tri z (ig_c a) with f | f | f
  · exact absurd f h1
  · rcases gx_lt_tri (ig_c b) w with g | g | g
    · exact absurd g h3
    · rw [← f, g]; exact h2
    · rw [← f]; exact gx_lt_trans h2 g
  · rcases gx_lt_tri (ig_c b) w with g | g | g
    · exact absurd g h3
    · rw [g]; exact gx_lt_trans f h2
    · exact gx_lt_trans f (gx_lt_trans h2 g)
theorem ic_meet1 {a b c d : PT} (ha : ig_ok a) (hb : ig_ok b) (hc : ig_ok c) (hd : ig_ok d) (hab : a ≠ b) (h : ic_meeting a b c d = 1) {z w : Rat × Rat} (z1 : gx_on (ig_c a) (ig_c b) z) (z2 : gx_on (ig_c c) (ig_c d) z) (w1 : gx_on (ig_c a) (ig_c b) w) (w2 : gx_on (ig_c c) (ig_c d) w) : z = w := by
  refine Classical.byContradiction (fun hne => ?_)
  have wlog : ∀ z w : Rat × Rat, gx_lt z w → gx_on (ig_c a) (ig_c b) z → gx_on (ig_c c) (ig_c d) z → gx_on (ig_c a) (ig_c b) w → gx_on (ig_c c) (ig_c d) w → False := by
    intro z w hzw z1 z2 w1 w2
    have hlev : ig_turn a b c = 0 ∧ ig_turn a b d = 0 := by
      obtain ⟨x, _, _, ex⟩ := z1
      obtain ⟨y, _, _, ey⟩ := w1
      obtain ⟨x', _, _, ex'⟩ := z2
      obtain ⟨y', _, _, ey'⟩ := w2
      have hxy : x' ≠ y' := by
        intro f
        rw [f, ey'] at ex'
        rw [ex'] at hzw
        exact gx_lt_irr hzw
      have k1 : gx_turn (ig_c a) (ig_c b) z = 0 := by rw [← ex]; simp only [gx_turn, gx_at]; grind
      have k2 : gx_turn (ig_c a) (ig_c b) w = 0 := by rw [← ey]; simp only [gx_turn, gx_at]; grind
      have e1 : gx_turn (ig_c a) (ig_c b) z = gx_turn (ig_c a) (ig_c b) (ig_c c) + x' * (gx_turn (ig_c a) (ig_c b) (ig_c d) - gx_turn (ig_c a) (ig_c b) (ig_c c)) := by
        rw [← ex']; simp only [gx_turn, gx_at]; grind
      have e2 : gx_turn (ig_c a) (ig_c b) w = gx_turn (ig_c a) (ig_c b) (ig_c c) + y' * (gx_turn (ig_c a) (ig_c b) (ig_c d) - gx_turn (ig_c a) (ig_c b) (ig_c c)) := by
        rw [← ey']; simp only [gx_turn, gx_at]; grind
      rw [k1] at e1
      rw [k2] at e2
      rw [← ig_turn0, ← ig_turn0]
      generalize gx_turn (ig_c a) (ig_c b) (ig_c c) = u at *
      generalize gx_turn (ig_c a) (ig_c b) (ig_c d) = v at *
      have hd0 : (x' - y') * (v - u) = 0 := by grind
      rcases Rat.mul_eq_zero.mp hd0 with f | f
      · exact absurd (show x' = y' by grind) hxy
      · have : v = u := by grind
        subst this
        constructor <;> grind
    have o1 := gx_lt_on z1
    have o2 := gx_lt_on z2
    have o3 := gx_lt_on w1
    have o4 := gx_lt_on w2
    have lo : ∀ u v : PT, ¬ (gx_lt z (ig_c u) ∧ gx_lt z (ig_c v)) → ¬ gx_lt z (ig_c u) ∨ ¬ gx_lt z (ig_c v) := by
      intro u v f
      by_cases g : gx_lt z (ig_c u)
      · exact Or.inr (fun k => f ⟨g, k⟩)
      · exact Or.inl g
    have hi : ∀ u v : PT, ¬ (gx_lt (ig_c u) w ∧ gx_lt (ig_c v) w) → ¬ gx_lt (ig_c u) w ∨ ¬ gx_lt (ig_c v) w := by
      intro u v f
      by_cases g : gx_lt (ig_c u) w
      · exact Or.inr (fun k => f ⟨g, k⟩)
      · exact Or.inl g
    have key : ic_low a b c d < ic_high a b c d := by
      unfold ic_low ic_high
      rcases lo a b o1.1 with f1 | f1 <;> rcases lo c d o2.1 with f2 | f2 <;> rcases hi a b o3.2 with f3 | f3 <;> rcases hi c d o4.2 with f4 | f4
      all_goals
        first
          | (have q1 := ig_lt_pk ha ha f1 hzw f3) | (have q1 := ig_lt_pk ha hb f1 hzw f3) | (have q1 := ig_lt_pk hb ha f1 hzw f3) | (have q1 := ig_lt_pk hb hb f1 hzw f3)
        first
          | (have q2 := ig_lt_pk ha hc f1 hzw f4) | (have q2 := ig_lt_pk ha hd f1 hzw f4) | (have q2 := ig_lt_pk hb hc f1 hzw f4) | (have q2 := ig_lt_pk hb hd f1 hzw f4)
        first
          | (have q3 := ig_lt_pk hc ha f2 hzw f3) | (have q3 := ig_lt_pk hc hb f2 hzw f3) | (have q3 := ig_lt_pk hd ha f2 hzw f3) | (have q3 := ig_lt_pk hd hb f2 hzw f3)
        first
          | (have q4 := ig_lt_pk hc hc f2 hzw f4) | (have q4 := ig_lt_pk hc hd f2 hzw f4) | (have q4 := ig_lt_pk hd hc f2 hzw f4) | (have q4 := ig_lt_pk hd hd f2 hzw f4)
        omega
    unfold ic_meeting at h
    rw [if_neg (by omega), if_pos hlev, if_pos key] at h
    cases h
  rcases gx_lt_tri z w with f | f | f
  · exact wlog z w f z1 z2 w1 w2
  · exact hne f
  · exact wlog w z f w1 w2 z1 z2
