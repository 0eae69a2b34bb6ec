/-! simple rings: what stands just right of a side is the same all round -/
def gx_hd (s q : (Rat × Rat) × (Rat × Rat)) : Prop := ∀ t u : Rat, 0 ≤ t → t < 1 → 0 ≤ u → u < 1 → gx_at s.1 s.2 t ≠ gx_at q.1 q.2 u
def gx_simple (S : List ((Rat × Rat) × (Rat × Rat))) : Prop := S.Pairwise gx_hd ∧ (∀ s ∈ S, s.1 ≠ s.2) ∧ ∃ a, gx_path S a a
def gx_r (s : (Rat × Rat) × (Rat × Rat)) (Q : List ((Rat × Rat) × (Rat × Rat))) : Int := gx_wn Q (gx_at s.1 s.2 (1/2)) - gx_off s.1 s.2
def gx_rr : List ((Rat × Rat) × (Rat × Rat)) → Int
  | [] => 0
  | s :: Q => gx_r s Q
theorem gx_hd_symm {s q : (Rat × Rat) × (Rat × Rat)} (h : gx_hd s q) : gx_hd q s := fun t u a b d g k => h u t d g a b k.symm
theorem gx_at0 (a b : Rat × Rat) : gx_at a b 0 = a := by simp only [gx_at]; grind
theorem gx_at1 (a b : Rat × Rat) : gx_at a b 1 = b := by simp only [gx_at]; grind
theorem gx_at_inj {a b : Rat × Rat} {t u : Rat} (h : a ≠ b) (k : gx_at a b t = gx_at a b u) : t = u := by
  obtain ⟨a1, a2⟩ := a
  obtain ⟨b1, b2⟩ := b
  simp only [gx_at, Prod.mk.injEq] at k
  have h' : ¬ (a1 = b1 ∧ a2 = b2) := by intro h2; apply h; simp only [Prod.mk.injEq]; exact h2
  by_cases e : a1 = b1
  · have e2 : b2 - a2 ≠ 0 := by grind
    have : (t - u) * (b2 - a2) = 0 := by grind
    grind
  · have e2 : b1 - a1 ≠ 0 := by grind
    have : (t - u) * (b1 - a1) = 0 := by grind
    grind
theorem gx_simple_rot {S T : List ((Rat × Rat) × (Rat × Rat))} (h : gx_simple (S ++ T)) : gx_simple (T ++ S) := by
  obtain ⟨h1, h2, a, h3⟩ := h
  refine ⟨?_, fun s hs => h2 s (by simp only [List.mem_append] at hs ⊢; exact hs.symm), ?_⟩
  · rw [List.pairwise_append] at h1 ⊢
    exact ⟨h1.2.1, h1.1, fun x hx y hy => gx_hd_symm (h1.2.2 y hy x hx)⟩
  · obtain ⟨b, h4, h5⟩ := gx_path_split h3
    exact ⟨b, gx_path_app h5 h4⟩
/-- a point on no half-open side of a path, and not its end, is on none of its sides -/
theorem gx_half {S : List ((Rat × Rat) × (Rat × Rat))} {a b v : Rat × Rat} (hp : gx_path S a b) (hv : ∀ s ∈ S, ∀ t : Rat, 0 ≤ t → t < 1 → gx_at s.1 s.2 t ≠ v) (hb : v ≠ b) : v ≠ a ∧ ∀ s ∈ S, ¬ gx_on s.1 s.2 v := by
  induction S generalizing a with
  | nil => simp only [gx_path] at hp; subst hp; exact ⟨hb, by simp⟩
  | cons s S ih =>
    have h1 := ih hp.2 (fun q hq => hv q (List.mem_cons_of_mem _ hq))
    have h0 : v ≠ a := by
      intro h
      have := hv s List.mem_cons_self 0 (by grind) (by grind)
      rw [gx_at0, hp.1] at this; exact this h.symm
    refine ⟨h0, ?_⟩
    intro q hq
    rcases List.mem_cons.mp hq with rfl | hq
    · rintro ⟨t, t0, t1, tv⟩
      by_cases e : t = 1
      · subst e; rw [gx_at1] at tv; exact h1.1 tv.symm
      · exact hv q List.mem_cons_self t t0 (by grind) tv
    · exact h1.2 q hq
/-- an inner point of a side is on no other -/
theorem gx_inner {s : (Rat × Rat) × (Rat × Rat)} {Q : List ((Rat × Rat) × (Rat × Rat))} (h : gx_simple (s :: Q)) {t : Rat} (t0 : 0 < t) (t1 : t < 1) : ∀ q ∈ Q, ¬ gx_on q.1 q.2 (gx_at s.1 s.2 t) := by
  obtain ⟨h1, h2, a, h3⟩ := h
  have h4 : gx_path Q s.2 s.1 := by have := h3.2; rw [← h3.1] at this; exact this
  rw [List.pairwise_cons] at h1
  refine (gx_half h4 (fun q hq u u0 u1 k => h1.1 q hq t u (by grind) t1 u0 u1 k.symm) ?_).2
  intro k
  have := gx_at_inj (h2 s List.mem_cons_self) (k.trans (gx_at0 s.1 s.2).symm)
  grind
theorem gx_path_head {s : (Rat × Rat) × (Rat × Rat)} {Q : List ((Rat × Rat) × (Rat × Rat))} (h : gx_simple (s :: Q)) : gx_path Q s.2 s.1 := by
  obtain ⟨h1, h2, a, h3⟩ := h
  have := h3.2; rw [← h3.1] at this; exact this
/-- the other sides' sum is the same at all inner points of a side -/
theorem gx_along {s : (Rat × Rat) × (Rat × Rat)} {Q : List ((Rat × Rat) × (Rat × Rat))} (h : gx_simple (s :: Q)) {t u : Rat} (t0 : 0 < t) (t1 : t < 1) (u0 : 0 < u) (u1 : u < 1) :
    gx_wn Q (gx_at s.1 s.2 t) = gx_wn Q (gx_at s.1 s.2 u) := by
  refine gx_line (gx_path_head h) ?_ (by simp only [gx_turn, gx_at]; grind) (by simp only [gx_turn, gx_at]; grind)
  intro q hq x y x0 x1 y0 y1 k
  have e : gx_at (gx_at s.1 s.2 t) (gx_at s.1 s.2 u) y = gx_at s.1 s.2 (t + y * (u - t)) := by simp only [gx_at, Prod.mk.injEq]; grind
  have b1 := (gx_conv (a := t) (b := u) (t := y) (k := 0) y0 y1).1 t0 u0
  have b2 := (gx_conv (a := t) (b := u) (t := y) (k := 1) y0 y1).2 t1 u1
  exact gx_inner h b1 b2 q hq ⟨x, x0, x1, by rw [k, e]⟩
/-- a ball for many sides -/
theorem gx_ball {S : List ((Rat × Rat) × (Rat × Rat))} {v : Rat × Rat} (h : ∀ s ∈ S, ¬ gx_on s.1 s.2 v) : ∃ d : Rat, 0 < d ∧ ∀ s ∈ S, ∀ q, gx_near v q d → ¬ gx_on s.1 s.2 q := by
  induction S with
  | nil => exact ⟨1, by grind, by simp⟩
  | cons s S ih =>
    obtain ⟨d, d0, hd⟩ := ih (fun q hq => h q (List.mem_cons_of_mem _ hq))
    obtain ⟨k, k0, hk⟩ := gx_ball1 (h s List.mem_cons_self)
    by_cases e : d ≤ k
    · refine ⟨d, d0, ?_⟩
      intro q hq p hp
      rcases List.mem_cons.mp hq with rfl | hq
      · exact hk p (by unfold gx_near at *; grind)
      · exact hd q hq p hp
    · refine ⟨k, k0, ?_⟩
      intro q hq p hp
      rcases List.mem_cons.mp hq with rfl | hq
      · exact hk p hp
      · exact hd q hq p (by unfold gx_near at *; grind)
theorem gx_near_seg {v z w : Rat × Rat} {d y : Rat} (y0 : 0 ≤ y) (y1 : y ≤ 1) (hz : gx_near v z d) (hw : gx_near v w d) : gx_near v (gx_at z w y) d := by
  unfold gx_near at *
  simp only [gx_at]
  have a1 := Rat.mul_nonneg (a := y) (b := w.1 - v.1 + d) y0 (by grind)
  have a2 := Rat.mul_nonneg (a := 1 - y) (b := z.1 - v.1 + d) (by grind) (by grind)
  have a3 := Rat.mul_nonneg (a := y) (b := v.1 + d - w.1) y0 (by grind)
  have a4 := Rat.mul_nonneg (a := 1 - y) (b := v.1 + d - z.1) (by grind) (by grind)
  have b1 := Rat.mul_nonneg (a := y) (b := w.2 - v.2 + d) y0 (by grind)
  have b2 := Rat.mul_nonneg (a := 1 - y) (b := z.2 - v.2 + d) (by grind) (by grind)
  have b3 := Rat.mul_nonneg (a := y) (b := v.2 + d - w.2) y0 (by grind)
  have b4 := Rat.mul_nonneg (a := 1 - y) (b := v.2 + d - z.2) (by grind) (by grind)
  refine ⟨by grind, by grind, by grind, by grind⟩
theorem gx_near_free {S : List ((Rat × Rat) × (Rat × Rat))} {v z w : Rat × Rat} {d : Rat} (hd : ∀ s ∈ S, ∀ q, gx_near v q d → ¬ gx_on s.1 s.2 q) (hz : gx_near v z d) (hw : gx_near v w d) : ∀ s ∈ S, gx_free s.1 s.2 z w := by
  intro s hs t y t0 t1 y0 y1 k
  exact hd s hs _ (gx_near_seg y0 y1 hz hw) ⟨t, t0, t1, k⟩
/-- points on the way from v to p are near v, if they are little on the way -/
theorem gx_near_ev (v p : Rat × Rat) {d : Rat} (d0 : 0 < d) : ∃ k : Rat, 0 < k ∧ k < 1 ∧ ∀ t, 0 ≤ t → t ≤ k → gx_near v (gx_at v p t) d := by
  obtain ⟨m, m0, m1, m2⟩ := gx_bd (p.1 - v.1)
  obtain ⟨n, n0, n1, n2⟩ := gx_bd (p.2 - v.2)
  have hi : 0 < (2 * (m + n + d))⁻¹ := Rat.inv_pos.mpr (by grind)
  have hne : 2 * (m + n + d) ≠ 0 := by grind
  have hd0 : 0 < d * (2 * (m + n + d))⁻¹ := Rat.mul_pos d0 hi
  have hd1 : d * (2 * (m + n + d))⁻¹ * (2 * (m + n + d)) = d := by grind
  generalize d * (2 * (m + n + d))⁻¹ = k at hd0 hd1
  have hk1 := Rat.mul_pos (a := k) (b := m) hd0 (by grind)
  have hk2 := Rat.mul_pos (a := k) (b := n) hd0 (by grind)
  have hk3 := Rat.mul_pos (a := k) (b := d) hd0 (by grind)
  have hk4 : k < 1 := by
    by_cases hk : k < 1
    · exact hk
    · have := Rat.mul_nonneg (a := k - 1) (b := d) (by grind) (by grind)
      grind
  refine ⟨k, hd0, hk4, ?_⟩
  intro t t0 t1
  have w1 := gx_mulabs (x := t) (y := p.1 - v.1) (d := k) (m := m) (by grind) t1 m1 m2
  have w2 := gx_mulabs (x := t) (y := p.2 - v.2) (d := k) (m := n) (by grind) t1 n1 n2
  unfold gx_near; simp only [gx_at]
  refine ⟨by grind, by grind, by grind, by grind⟩
theorem gx_nofold {u v w : Rat × Rat} (huv : u ≠ v) (hvw : v ≠ w) (h : gx_hd (u, v) (v, w)) (h0 : gx_turn u v w = 0) :
    ∃ k : Rat, 0 < k ∧ w.1 - v.1 = -(k * (u.1 - v.1)) ∧ w.2 - v.2 = -(k * (u.2 - v.2)) := by
  obtain ⟨u1, u2⟩ := u
  obtain ⟨v1, v2⟩ := v
  obtain ⟨w1, w2⟩ := w
  have n1 : ¬ (u1 = v1 ∧ u2 = v2) := by intro h; apply huv; simp only [Prod.mk.injEq]; exact h
  have n2 : ¬ (v1 = w1 ∧ v2 = w2) := by intro h; apply hvw; simp only [Prod.mk.injEq]; exact h
  simp only [gx_turn] at h0
  have hex : ∃ c : Rat, w1 - v1 = c * (u1 - v1) ∧ w2 - v2 = c * (u2 - v2) := by
    by_cases e : u1 = v1
    · have : u2 - v2 ≠ 0 := by grind
      exact ⟨(w2 - v2) / (u2 - v2), by grind, by grind⟩
    · have : u1 - v1 ≠ 0 := by grind
      exact ⟨(w1 - v1) / (u1 - v1), by grind, by grind⟩
  obtain ⟨c, c1, c2⟩ := hex
  by_cases hc : c < 0
  · exact ⟨-c, by grind, by grind, by grind⟩
  exfalso
  have hc0 : c ≠ 0 := by intro h; subst h; apply n2; grind
  have hcp : 0 < c := by grind
  -- a point little on the way is on both
  by_cases hc1 : c ≤ 1
  · refine h (1 - c / 2) (1 / 2) (by grind) (by grind) (by grind) (by grind) ?_
    simp only [gx_at, Prod.mk.injEq]; constructor <;> grind
  · have hi : 0 < c⁻¹ := Rat.inv_pos.mpr hcp
    have hci : c * c⁻¹ = 1 := by grind
    have hi1 : c⁻¹ < 1 := by
      by_cases h : c⁻¹ < 1
      · exact h
      · have := Rat.mul_nonneg (a := c⁻¹ - 1) (b := c) (by grind) (by grind)
        grind
    refine h (1 / 2) (c⁻¹ / 2) (by grind) (by grind) (by grind) (by grind) ?_
    simp only [gx_at, Prod.mk.injEq]
    constructor <;> grind
theorem gx_rot1 {s : (Rat × Rat) × (Rat × Rat)} {Q : List ((Rat × Rat) × (Rat × Rat))} (h : gx_simple (s :: Q)) : gx_rr (s :: Q) = gx_rr (Q ++ [s]) := by
  cases Q with
  | nil =>
    exfalso
    have := gx_path_head h
    simp only [gx_path] at this
    exact h.2.1 s List.mem_cons_self this.symm
  | cons q Q =>
    have hp := gx_path_head h
    have hs : gx_simple (q :: (Q ++ [s])) := gx_simple_rot (S := [s]) (T := q :: Q) h
    obtain ⟨u, v⟩ := s
    obtain ⟨v', w⟩ := q
    have hv : v' = v := hp.1
    subst hv
    have hq : gx_path Q w u := hp.2
    have hw1 := h.1
    rw [List.pairwise_cons, List.pairwise_cons] at hw1
    have huv := h.2.1 (u, v') List.mem_cons_self
    have hvw := h.2.1 (v', w) (List.mem_cons_of_mem _ List.mem_cons_self)
    have hoff := (gx_half hq (v := v') (fun p hp t t0 t1 k => hw1.2.1 p hp 0 t (by grind) (by grind) t0 t1 (by rw [gx_at0]; exact k.symm)) (fun k => huv k.symm)).2
    obtain ⟨d, d0, hd⟩ := gx_ball hoff
    obtain ⟨k1, k10, k11, hk1⟩ := gx_near_ev v' u d0
    obtain ⟨k2, k20, k21, hk2⟩ := gx_near_ev v' w d0
    have hex : ∃ t : Rat, 0 < t ∧ t < 1 ∧ t ≤ k1 ∧ t ≤ k2 := by
      by_cases e : k1 ≤ k2
      · exact ⟨k1, k10, k11, by grind, e⟩
      · exact ⟨k2, k20, k21, by grind, by grind⟩
    obtain ⟨t, t0, t1, e1, e2⟩ := hex
    have hc := gx_corner (Q := Q) t0 t1 rfl rfl hq (gx_near_free hd (hk1 t (by grind) e1) (hk2 t (by grind) e2)) huv hvw (gx_nofold huv hvw (hw1.1 _ List.mem_cons_self))
    have a1 := gx_along h (t := 1/2) (u := 1 - t) (by grind) (by grind) (by grind) (by grind)
    have a2 := gx_along hs (t := 1/2) (u := t) (by grind) (by grind) t0 t1
    simp only at a1 a2
    rw [← gx_at_rev u v' t] at a1
    simp only [List.cons_append, gx_rr, gx_r]
    rw [a1, a2, gx_wn_app]
    simp only [gx_wn] at *
    omega
theorem gx_rot {S T : List ((Rat × Rat) × (Rat × Rat))} (h : gx_simple (S ++ T)) : gx_rr (S ++ T) = gx_rr (T ++ S) := by
  induction S generalizing T with
  | nil => simp
  | cons s S ih =>
    have h1 := gx_rot1 (s := s) (Q := S ++ T) h
    have h2 : gx_simple (S ++ (T ++ [s])) := by have := gx_simple_rot (S := [s]) (T := S ++ T) h; simpa [List.append_assoc] using this
    have h3 := ih h2
    simp only [List.cons_append]
    rw [h1, List.append_assoc, h3]; simp
