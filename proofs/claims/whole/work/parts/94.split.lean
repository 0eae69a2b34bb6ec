/-! THE SPLIT: the ring parted at p and q, the chain between them -/
def ig_bef (l : List PT) (i : Nat) (p q : PT) : Prop := ∃ t u : Rat, 0 ≤ t ∧ t < u ∧ u < 1 ∧ gx_at (ig_c (ig_at l i)) (ig_c (ig_at l (i + 1))) t = ig_c p ∧ gx_at (ig_c (ig_at l i)) (ig_c (ig_at l (i + 1))) u = ig_c q
/-- m steps from p, on side i, to q, on side j -/
def ig_steps (l : List PT) (i j : Nat) (p q : PT) (m : Nat) : Prop := (0 < m ∧ m < l.length ∧ (i + m) % l.length = j) ∨ (m = 0 ∧ i = j ∧ ig_bef l i p q) ∨ (m = l.length ∧ i = j ∧ ig_bef l i q p)
theorem ig_corner_half {l : List PT} (h : gx_simple (rgn l)) (h0 : l ≠ []) {i k : Nat} {p : PT} (hi : i < l.length) (hp : ig_half l i p) (e : ig_at l k = p) : k % l.length = i ∧ ig_at l i = p := by
  have hn : 0 < l.length := List.length_pos_iff.mpr h0
  obtain ⟨t, t0, t1, f⟩ := ig_half_t hp
  have := rgn_inj h (Nat.mod_lt k hn) hi (t := 0) (by grind) (by grind) t0 t1 (by rw [gx_at0, ig_at_mod, e]; exact f.symm)
  exact ⟨this, by rw [← this, ig_at_mod, e]⟩
theorem filter2 (p q : PT) (A B : List PT) : (A ++ B).filter (fun x => decide (x ≠ p)) = A.filter (fun x => decide (x ≠ p)) ++ B.filter (fun x => decide (x ≠ p)) := List.filter_append ..
theorem ig_part {l : List PT} (h : gx_simple (rgn l)) (h0 : l ≠ []) {i j m : Nat} {p q : PT} (hi : i < l.length) (hj : j < l.length) (hp : ig_half l i p) (hq : ig_half l j q) (hne : p ≠ q) (hm : ig_steps l i j p q m) :
    same l (p :: (ig_seg l i m).filter (fun x => decide (x ≠ q)) ++ q :: (ig_seg l (i + m) (l.length - m)).filter (fun x => decide (x ≠ p))) := by
  have hn : 0 < l.length := List.length_pos_iff.mpr h0
  have hmn : m ≤ l.length := by rcases hm with f | f | f <;> omega
  obtain ⟨tp, tp0, tp1, ep⟩ := ig_half_t hp
  obtain ⟨tq, tq0, tq1, eq⟩ := ig_half_t hq
  have nei := rgn_ne h h0 i
  have hpA : p ∉ ig_seg l i m := by
    intro f
    obtain ⟨k, hk, e⟩ := ig_seg_mem.mp f
    obtain ⟨e1, e2⟩ := ig_corner_half h h0 hi hp e
    have : k + 1 = l.length := by
      have hlt : k + 1 ≤ l.length := by omega
      rcases Nat.lt_or_ge (k + 1) l.length with c | c
      · exfalso
        have e3 : i + 1 + k = i + (k + 1) := by omega
        rw [e3] at e1
        rcases Nat.lt_or_ge (i + (k + 1)) l.length with c2 | c2
        · rw [Nat.mod_eq_of_lt c2] at e1; omega
        · have : (i + (k + 1)) % l.length = i + (k + 1) - l.length := by
            rw [Nat.mod_eq_sub_mod c2, Nat.mod_eq_of_lt (by omega)]
          omega
      · omega
    rcases hm with g | g | g
    · omega
    · omega
    · obtain ⟨t, u, g0, g1, g2, g3, g4⟩ := g.2.2
      have := gx_at_inj (ig_ne nei) (g4.trans (show ig_c p = gx_at _ _ 0 by rw [gx_at0, e2]))
      grind
  have hqB : q ∉ ig_seg l (i + m) (l.length - m) := by
    intro f
    obtain ⟨k, hk, e⟩ := ig_seg_mem.mp f
    obtain ⟨e1, e2⟩ := ig_corner_half h h0 hj hq e
    rcases hm with g | g | g
    · have e3 : i + m + 1 + k = i + m + (k + 1) := by omega
      rw [e3, Nat.add_mod, g.2.2, Nat.mod_eq_of_lt (show k + 1 < l.length by omega)] at e1
      rcases Nat.lt_or_ge (j + (k + 1)) l.length with c2 | c2
      · rw [Nat.mod_eq_of_lt c2] at e1; omega
      · have : (j + (k + 1)) % l.length = j + (k + 1) - l.length := by
          rw [Nat.mod_eq_sub_mod c2, Nat.mod_eq_of_lt (by omega)]
        omega
    · obtain ⟨g1, g2, t, u, u0, u1, u2, u3, u4⟩ := g
      subst g2
      have := gx_at_inj (ig_ne nei) (u4.trans (show ig_c q = gx_at _ _ 0 by rw [gx_at0, e2]))
      grind
    · omega
  have s0 := same_rote h (ig_seg_full l i)
  have e0 : ig_seg l i l.length = ig_seg l i m ++ ig_seg l (i + m) (l.length - m) := by
    rw [← ig_seg_add]; congr 1; omega
  have n1 : ig_seg l i l.length ≠ [] := by
    intro f
    have := ig_seg_len l i l.length
    rw [f] at this; simp at this; omega
  have s1 : same l (p :: (ig_seg l i l.length).filter (fun x => decide (x ≠ p))) := by
    refine same_trans s0 (rgn_step s0.1 n1 tp0 tp1 ?_)
    rw [ig_seg_last hn, ig_seg_head hn, ig_at_len]; exact ep.symm
  rw [e0, List.filter_append, filter_ne_id hpA] at s1
  generalize hA : ig_seg l i m = A at *
  generalize hB : ig_seg l (i + m) (l.length - m) = B at *
  have s2 : same l (B.filter (fun x => decide (x ≠ p)) ++ p :: A) := same_trans s1 (same_rote s1.1 (rote_app (p :: A) (B.filter (fun x => decide (x ≠ p)))))
  have key : ∃ t : Rat, 0 ≤ t ∧ t < 1 ∧ ig_c q = gx_at (ig_c (A.getLastD p)) (ig_c ((B.filter (fun x => decide (x ≠ p))).headD p)) t := by
    rcases hm with g | g | g
    · refine ⟨tq, tq0, tq1, ?_⟩
      have e1 : A.getLastD p = ig_at l j := by rw [← hA, ig_seg_last g.1, ← ig_at_mod, g.2.2]
      have e2 : (B.filter (fun x => decide (x ≠ p))).headD p = ig_at l (j + 1) := by
        have hb : ig_at l (i + m + 1) = ig_at l (j + 1) := by
          rw [← ig_at_mod l (i + m + 1), ← Nat.mod_add_mod, g.2.2, ig_at_mod]
        have hB' : B = ig_at l (j + 1) :: ig_seg l (i + m + 1) (l.length - m - 1) := by
          rw [← hB, ← hb, show l.length - m = 1 + (l.length - m - 1) by omega, ig_seg_add]
          simp [ig_seg]
        by_cases c : ig_at l (j + 1) = p
        · obtain ⟨c1, c2⟩ := ig_corner_half h h0 hi hp c
          have c3 : m = l.length - 1 := by
            have : (i + m + 1) % l.length = i := by
              have c9 := c1
              rw [← g.2.2, Nat.mod_add_mod] at c9
              exact c9
            rcases Nat.lt_or_ge (i + m + 1) l.length with c4 | c4
            · rw [Nat.mod_eq_of_lt c4] at this; omega
            · have e5 : (i + m + 1) % l.length = i + m + 1 - l.length := by
                rcases Nat.lt_or_ge (i + m + 1 - l.length) l.length with c5 | c5
                · rw [Nat.mod_eq_sub_mod c4, Nat.mod_eq_of_lt c5]
                · omega
              omega
          have : ig_seg l (i + m + 1) (l.length - m - 1) = [] := by
            rw [show l.length - m - 1 = 0 by omega]; rfl
          rw [hB', this, List.filter_cons_of_neg (by simp [c])]
          exact c.symm
        · rw [hB', List.filter_cons_of_pos (by simp [c])]; rfl
      rw [e1, e2]; exact eq.symm
    · obtain ⟨g1, g2, t, u, u0, u1, u2, u3, u4⟩ := g
      subst g2
      have hA0 : A = [] := by rw [← hA, g1]; rfl
      have hB' : B = ig_at l (i + 1) :: ig_seg l (i + 1) (l.length - 1) := by
        rw [← hB, g1, show l.length - 0 = 1 + (l.length - 1) by omega, ig_seg_add]
        simp [ig_seg]
      have c : ig_at l (i + 1) ≠ p := fun f => hp.2 f.symm
      rw [hA0, hB', List.filter_cons_of_pos (by simp [c])]
      have p1 : 0 < 1 - t := by grind
      refine ⟨(u - t) / (1 - t), ?_, ?_, ?_⟩
      · exact (gx_divle (by grind) (show u - t ≤ 1 - t by grind) p1).1
      · rw [Rat.div_lt_iff p1]; grind
      · show ig_c q = gx_at (ig_c p) (ig_c (ig_at l (i + 1))) _
        rw [gx_sub2 u3.symm, Rat.div_mul_cancel (by grind)]
        have : t + (u - t) = u := by grind
        rw [this]; exact u4.symm
    · obtain ⟨g1, g2, t, u, u0, u1, u2, u3, u4⟩ := g
      subst g2
      have hB0 : B = [] := by rw [← hB, g1, Nat.sub_self]; rfl
      have e1 : A.getLastD p = ig_at l i := by rw [← hA, ig_seg_last (by omega), g1, ig_at_len]
      rw [hB0, e1]
      have p1 : 0 < u := by grind
      refine ⟨t / u, ?_, ?_, ?_⟩
      · exact (gx_divle (by grind) (show t ≤ u by grind) p1).1
      · rw [Rat.div_lt_iff p1]; grind
      · show ig_c q = gx_at (ig_c (ig_at l i)) (ig_c p) _
        rw [gx_sub1 u4.symm, Rat.div_mul_cancel (by grind)]
        exact u3.symm
  obtain ⟨t, t0, t1, hk⟩ := key
  have s3 : same l (q :: (B.filter (fun x => decide (x ≠ p)) ++ p :: A).filter (fun x => decide (x ≠ q))) := by
    refine same_trans s2 (rgn_step (t := t) s2.1 (by simp) t0 t1 ?_)
    rw [ig_lastD_app]
    have e2 : (B.filter (fun x => decide (x ≠ p)) ++ p :: A).headD q = (B.filter (fun x => decide (x ≠ p))).headD p := by
      cases B.filter (fun x => decide (x ≠ p)) <;> rfl
    rw [e2]; exact hk
  have e3 : (B.filter (fun x => decide (x ≠ p)) ++ p :: A).filter (fun x => decide (x ≠ q)) = B.filter (fun x => decide (x ≠ p)) ++ p :: A.filter (fun x => decide (x ≠ q)) := by
    rw [List.filter_append, List.filter_cons_of_pos (by simp [hne])]
    rw [filter_ne_id (fun f => hqB (List.mem_filter.mp f).1)]
  rw [e3] at s3
  exact same_trans s3 (same_rote s3.1 (rote_app (q :: B.filter (fun x => decide (x ≠ p))) (p :: A.filter (fun x => decide (x ≠ q)))))
/-- open paths in a ring -/
theorem gx_open_part {P Q : List ((Rat × Rat) × (Rat × Rat))} {a b : Rat × Rat} {q : (Rat × Rat) × (Rat × Rat)} (h : gx_simple (P ++ q :: Q)) (hp : gx_path P a b) (hq : q.1 = b) : gx_open P a b := by
  obtain ⟨h1, h2, _⟩ := h
  rw [List.pairwise_append] at h1
  refine ⟨h1.1, fun s hs => h2 s (by simp [hs]), hp, fun s hs t t0 t1 e => ?_⟩
  refine h1.2.2 s hs q (by simp) t 0 t0 t1 (by grind) (by grind) ?_
  rw [gx_at0, hq, e]
theorem gx_sd_cons (a : Rat × Rat) (r : List (Rat × Rat)) (z : Rat × Rat) : ∃ w Q, gx_sd a r z = (a, w) :: Q := by
  cases r with
  | nil => exact ⟨z, [], rfl⟩
  | cons b r => exact ⟨b, gx_sd b r z, rfl⟩
theorem ig_split {l : List PT} (h : gx_simple (rgn l)) (hw : ∀ z, 0 ≤ gx_wn (rgn l) z) (h0 : l ≠ []) {i j m : Nat} {p q : PT} {I : List PT} (hi : i < l.length) (hj : j < l.length) (hp : ig_half l i p) (hq : ig_half l j q) (hne : p ≠ q) (hm : ig_steps l i j p q m)
    (hC : gx_open (gx_sd (ig_c p) (I.map ig_c) (ig_c q)) (ig_c p) (ig_c q))
    (hx : ∀ s ∈ gx_sd (ig_c p) (I.map ig_c) (ig_c q), ∀ z, gx_on s.1 s.2 z → rgn_pt l z → z = ig_c p ∨ z = ig_c q)
    (hmid : ∃ C1 g C2, gx_sd (ig_c p) (I.map ig_c) (ig_c q) = C1 ++ g :: C2 ∧ gx_wn (rgn l) (gx_at g.1 g.2 (1/2)) = 1) {A B : List PT}
    (hA : A = (ig_seg l i m).filter (fun x => decide (x ≠ q))) (hB : B = (ig_seg l (i + m) (l.length - m)).filter (fun x => decide (x ≠ p))) :
    (gx_simple (rgn (p :: A ++ q :: I.reverse)) ∧ ∀ z, 0 ≤ gx_wn (rgn (p :: A ++ q :: I.reverse)) z) ∧ (gx_simple (rgn (q :: B ++ p :: I)) ∧ ∀ z, 0 ≤ gx_wn (rgn (q :: B ++ p :: I)) z) ∧
    ∀ z, gx_wn (rgn (p :: A ++ q :: I.reverse)) z + gx_wn (rgn (q :: B ++ p :: I)) z = gx_wn (rgn l) z := by
  have hs := ig_part h h0 hi hj hp hq hne hm
  rw [← hA, ← hB] at hs
  obtain ⟨hs1, hs2, hs3⟩ := hs
  have r0 : rgn (p :: A ++ q :: B) = gx_sd (ig_c p) (A.map ig_c) (ig_c q) ++ gx_sd (ig_c q) (B.map ig_c) (ig_c p) := by
    unfold rgn; rw [List.map_append]; exact gx_ringOf_app _ _ _ _
  have r1 : rgn (p :: A ++ q :: I.reverse) = gx_sd (ig_c p) (A.map ig_c) (ig_c q) ++ gx_rev (gx_sd (ig_c p) (I.map ig_c) (ig_c q)) := by
    unfold rgn; rw [List.map_append, gx_sd_rev, ← List.map_reverse]; exact gx_ringOf_app _ _ _ _
  have r2 : rgn (q :: B ++ p :: I) = gx_sd (ig_c q) (B.map ig_c) (ig_c p) ++ gx_sd (ig_c p) (I.map ig_c) (ig_c q) := by
    unfold rgn; rw [List.map_append]; exact gx_ringOf_app _ _ _ _
  have pt : ∀ s ∈ rgn (p :: A ++ q :: B), ∀ z, gx_on s.1 s.2 z → rgn_pt l z := fun s hs z hz => hs3 z ⟨s, hs, hz⟩
  rw [r0] at hs1 hs2 pt
  rw [r1, r2]
  generalize hP1 : gx_sd (ig_c p) (A.map ig_c) (ig_c q) = P1 at *
  generalize hP2 : gx_sd (ig_c q) (B.map ig_c) (ig_c p) = P2 at *
  generalize hCC : gx_sd (ig_c p) (I.map ig_c) (ig_c q) = C at *
  have pa1 : gx_path P1 (ig_c p) (ig_c q) := by rw [← hP1]; exact gx_sd_path _ _ _
  have pa2 : gx_path P2 (ig_c q) (ig_c p) := by rw [← hP2]; exact gx_sd_path _ _ _
  have o1 : gx_open P1 (ig_c p) (ig_c q) := by
    obtain ⟨w, Q, e⟩ := gx_sd_cons (ig_c q) (B.map ig_c) (ig_c p)
    rw [hP2] at e
    rw [e] at hs1
    exact gx_open_part hs1 pa1 rfl
  have o2 : gx_open P2 (ig_c q) (ig_c p) := by
    have hs1' := gx_simple_rot hs1
    obtain ⟨w, Q, e⟩ := gx_sd_cons (ig_c p) (A.map ig_c) (ig_c q)
    rw [hP1] at e
    rw [e] at hs1'
    exact gx_open_part hs1' pa2 rfl
  have hpq : ig_c p ≠ ig_c q := ig_ne hne
  have m1 : gx_simple (P1 ++ gx_rev C) := by
    refine gx_close o1 (gx_open_rev hC) hpq (fun s hs g hg t u t0 t1 u0 u1 e => ?_)
    have hg' := gx_mem_rev hg
    refine hx _ hg' _ ⟨1 - u, by grind, by grind, ?_⟩ (pt s (by simp [hs]) _ ⟨t, t0, t1, rfl⟩)
    rw [e]
    show gx_at g.2 g.1 (1 - u) = _
    rw [gx_at_rev]; congr 1; grind
  have m2 : gx_simple (P2 ++ C) := by
    refine gx_close o2 hC hpq.symm (fun s hs g hg t u t0 t1 u0 u1 e => ?_)
    have := hx g hg _ ⟨u, u0, u1, e.symm⟩ (pt s (by simp [hs]) _ ⟨t, t0, t1, rfl⟩)
    exact this.symm
  obtain ⟨C1, g, C2, hg, hmid⟩ := hmid
  have hr := gx_cut (P1 := P1) (P2 := P2) (C1 := C1) (C2 := C2) (g := g) (by rw [← hg]; exact m1) (by rw [← hg]; exact m2) (by rw [hs2]; exact hmid)
  rw [← hg] at hr
  refine ⟨⟨m1, fun z => ?_⟩, ⟨m2, fun z => ?_⟩, fun z => ?_⟩
  · rcases gx_01 m1 hr.1 z with k | k <;> omega
  · rcases gx_01 m2 hr.2 z with k | k <;> omega
  · rw [gx_cut_wn]; exact hs2 z
