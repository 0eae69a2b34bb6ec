/-! every point, on the ring too -/
theorem gx_min2 {x y : Rat} (hx : 0 < x) (hy : 0 < y) : ∃ k : Rat, 0 < k ∧ k ≤ x ∧ k ≤ y := by
  by_cases h : x ≤ y
  · exact ⟨x, hx, by grind, h⟩
  · exact ⟨y, hy, by grind, by grind⟩
theorem gx_avoid (F : List Rat) {lo hi : Rat} (h : lo < hi) : ∃ y, lo < y ∧ y < hi ∧ ∀ f ∈ F, f ≠ y := by
  induction F generalizing hi with
  | nil => exact ⟨(lo + hi) / 2, by grind, by grind, by simp⟩
  | cons f F ih =>
    by_cases hf : lo < f ∧ f < hi
    · obtain ⟨y, h1, h2, h3⟩ := ih hf.1
      refine ⟨y, h1, by grind, ?_⟩
      intro g hg
      rcases List.mem_cons.mp hg with rfl | hg
      · grind
      · exact h3 g hg
    · obtain ⟨y, h1, h2, h3⟩ := ih h
      refine ⟨y, h1, h2, ?_⟩
      intro g hg
      rcases List.mem_cons.mp hg with rfl | hg
      · intro k; subst k; exact hf ⟨h1, h2⟩
      · exact h3 g hg
theorem gx_flat {S : List ((Rat × Rat) × (Rat × Rat))} {s : (Rat × Rat) × (Rat × Rat)} {a b : Rat × Rat} (hp : gx_path (s :: S) a b) (hw : (s :: S).Pairwise gx_hd) (hn : ∀ q ∈ s :: S, q.1 ≠ q.2)
    (hf : ∀ q ∈ s :: S, q.1.2 = q.2.2) : (s.1.1 < s.2.1 → a.1 < b.1) ∧ (s.2.1 < s.1.1 → b.1 < a.1) := by
  induction S generalizing s a with
  | nil => obtain ⟨h1, h2⟩ := hp; simp only [gx_path] at h2; subst h1; subst h2; exact ⟨id, id⟩
  | cons q S ih =>
    obtain ⟨h1, h2⟩ := hp
    have hq := ih h2 (List.pairwise_cons.mp hw).2 (fun p hp => hn p (List.mem_cons_of_mem _ hp)) (fun p hp => hf p (List.mem_cons_of_mem _ hp))
    have hd := (List.pairwise_cons.mp hw).1 q List.mem_cons_self
    have n1 := hn s List.mem_cons_self
    have n2 := hn q (List.mem_cons_of_mem _ List.mem_cons_self)
    have f1 := hf s List.mem_cons_self
    have f2 := hf q (List.mem_cons_of_mem _ List.mem_cons_self)
    obtain ⟨u, v⟩ := s
    obtain ⟨v', w⟩ := q
    have hv : v' = v := h2.1
    subst hv
    subst h1
    obtain ⟨k, k0, k1, k2⟩ := gx_nofold n1 n2 hd (by simp only [gx_turn]; simp only at f1 f2; grind)
    have s1 := gx_sgn (k := k) (v := u.1 - v'.1) k0
    simp only at *
    constructor
    · intro h; have := hq.1 (by grind); grind
    · intro h; have := hq.2 (by grind); grind
theorem gx_notflat {S : List ((Rat × Rat) × (Rat × Rat))} (h : gx_simple S) (h0 : S ≠ []) : ∃ s ∈ S, s.1.2 ≠ s.2.2 := by
  by_cases k : ∃ s ∈ S, s.1.2 ≠ s.2.2
  · exact k
  exfalso
  obtain ⟨h1, h2, a, h3⟩ := h
  cases S with
  | nil => exact h0 rfl
  | cons s S =>
    have hf : ∀ q ∈ s :: S, q.1.2 = q.2.2 := by
      intro q hq
      by_cases e : q.1.2 = q.2.2
      · exact e
      · exact absurd ⟨q, hq, e⟩ k
    have := gx_flat h3 h1 h2 hf
    have n1 := h2 s List.mem_cons_self
    have f1 := hf s List.mem_cons_self
    have n3 : s.1.1 ≠ s.2.1 := fun e => n1 (Prod.ext e f1)
    rcases gx_tri s.1.1 s.2.1 with e | e | e
    · have := this.1 e; grind
    · exact n3 e
    · have := this.2 e; grind
theorem gx_sense {S : List ((Rat × Rat) × (Rat × Rat))} (h : gx_simple S) (h0 : S ≠ []) : gx_rr S = 0 ∨ gx_rr S = -1 := by
  obtain ⟨s, hs, hn⟩ := gx_notflat h h0
  have hy : ∃ y, gx_cross s y ∧ ∀ q ∈ S, q.1.2 ≠ y ∧ q.2.2 ≠ y := by
    have hF : ∀ y, (∀ f ∈ S.map (fun q => q.1.2) ++ S.map (fun q => q.2.2), f ≠ y) → ∀ q ∈ S, q.1.2 ≠ y ∧ q.2.2 ≠ y := by
      intro y hy q hq
      exact ⟨hy _ (List.mem_append_left _ (List.mem_map.mpr ⟨q, hq, rfl⟩)), hy _ (List.mem_append_right _ (List.mem_map.mpr ⟨q, hq, rfl⟩))⟩
    by_cases e : s.1.2 < s.2.2
    · obtain ⟨y, y1, y2, y3⟩ := gx_avoid (S.map (fun q => q.1.2) ++ S.map (fun q => q.2.2)) e
      exact ⟨y, Or.inl ⟨y1, y2⟩, hF y y3⟩
    · obtain ⟨y, y1, y2, y3⟩ := gx_avoid (S.map (fun q => q.1.2) ++ S.map (fun q => q.2.2)) (lo := s.2.2) (hi := s.1.2) (by grind)
      exact ⟨y, Or.inr ⟨y1, y2⟩, hF y y3⟩
  obtain ⟨y, hc, hg⟩ := hy
  obtain ⟨m, m1, m2, m3⟩ := gx_argmin (fun q => gx_cross q y) (fun q => - gx_x q y) ⟨s, hs, hc⟩
  have hw0 : gx_wn S (gx_x m y + 1, y) = 0 := gx_nohit hg (fun q hq hc => by have := m3 q hq hc; simp only at *; grind)
  obtain ⟨S1, S2, rfl⟩ := gx_split_mem m1
  obtain ⟨t, t0, t1, t2⟩ := gx_cross_at m2
  have hne : m.1.2 ≠ m.2.2 := by rcases m2 with hc | hc <;> grind
  have := gx_hit (z := (gx_x m y + 1, y)) h t0 t1 (by rw [t2]) (by rw [t2]; simp only; grind) hne (by
    intro q hq u u0 u1 uh hb
    rw [t2] at hb ⊢
    simp only at hb uh ⊢
    obtain ⟨c1, c2⟩ := gx_cross_u u0 u1 (hg q hq).1 (hg q hq).2 uh
    rw [c2] at hb ⊢
    have := m3 q hq c1
    grind)
  rw [hw0] at this
  split at this <;> omega
/-- a little to the right, and much less up -/
def gx_eps (z : Rat × Rat) (k : Rat) : Rat × Rat := (z.1 + k, z.2 + k * k)
theorem gx_eps_h (a z : Rat) : ∃ k : Rat, 0 < k ∧ k ≤ 1 ∧ ∀ x, 0 < x → x < k → a ≠ z + x * x ∧ (z < a ↔ z + x * x < a) := by
  by_cases h : z < a
  · obtain ⟨k, k0, k1, k2⟩ := gx_min2 (x := a - z) (y := 1) (by grind) (by grind)
    refine ⟨k, k0, k2, ?_⟩
    intro x x0 x1
    have e1 := Rat.mul_pos x0 x0
    have e2 := Rat.mul_pos (a := x) (b := 1 - x) x0 (by grind)
    constructor <;> grind
  · refine ⟨1, by grind, by grind, ?_⟩
    intro x x0 x1
    have e1 := Rat.mul_pos x0 x0
    constructor <;> grind
theorem gx_eps_t (a b z : Rat × Rat) : ∃ k : Rat, 0 < k ∧ k ≤ 1 ∧ ∀ x, 0 < x → x < k →
    (0 < gx_turn a b z → 0 < gx_turn a b (gx_eps z x)) ∧ (gx_turn a b z < 0 → gx_turn a b (gx_eps z x) < 0) ∧
    (gx_turn a b z = 0 → (a.2 < b.2 → gx_turn a b (gx_eps z x) < 0) ∧ (b.2 < a.2 → 0 < gx_turn a b (gx_eps z x))) := by
  obtain ⟨m, m0, m1, m2⟩ := gx_bd (b.1 - a.1)
  obtain ⟨n, n0, n1, n2⟩ := gx_bd (b.2 - a.2)
  have he : ∀ x, gx_turn a b (gx_eps z x) = gx_turn a b z + x * (x * (b.1 - a.1) - (b.2 - a.2)) := by intro x; simp only [gx_turn, gx_eps]; grind
  have hpick : ∀ T : Rat, 0 < T → ∃ k : Rat, 0 < k ∧ k ≤ 1 ∧ ∀ x, 0 < x → x < k → x * (m + n) < T := by
    intro T hT
    have hi : 0 < (m + n)⁻¹ := Rat.inv_pos.mpr (by grind)
    have hne : m + n ≠ 0 := by grind
    have h1 := Rat.mul_pos hT hi
    have h2 : T * (m + n)⁻¹ * (m + n) = T := by grind
    generalize T * (m + n)⁻¹ = k at h1 h2
    obtain ⟨j, j0, j1, j2⟩ := gx_min2 h1 (show (0 : Rat) < 1 by grind)
    refine ⟨j, j0, j2, ?_⟩
    intro x x0 x1
    have := Rat.mul_pos (a := k - x) (b := m + n) (by grind) (by grind)
    grind
  have hT : ∃ T : Rat, 0 < T ∧ (0 < gx_turn a b z → T ≤ gx_turn a b z) ∧ (gx_turn a b z < 0 → T ≤ - gx_turn a b z) ∧ (a.2 < b.2 → T ≤ b.2 - a.2) ∧ (b.2 < a.2 → T ≤ a.2 - b.2) := by
    have h1 : ∃ T : Rat, 0 < T ∧ (0 < gx_turn a b z → T ≤ gx_turn a b z) ∧ (gx_turn a b z < 0 → T ≤ - gx_turn a b z) := by
      rcases gx_tri (gx_turn a b z) 0 with e | e | e
      · exact ⟨- gx_turn a b z, by grind, by grind, by grind⟩
      · exact ⟨1, by grind, by grind, by grind⟩
      · exact ⟨gx_turn a b z, by grind, by grind, by grind⟩
    have h2 : ∃ T : Rat, 0 < T ∧ (a.2 < b.2 → T ≤ b.2 - a.2) ∧ (b.2 < a.2 → T ≤ a.2 - b.2) := by
      rcases gx_tri a.2 b.2 with e | e | e
      · exact ⟨b.2 - a.2, by grind, by grind, by grind⟩
      · exact ⟨1, by grind, by grind, by grind⟩
      · exact ⟨a.2 - b.2, by grind, by grind, by grind⟩
    obtain ⟨T, t0, t1, t2⟩ := h1
    obtain ⟨W, w0, w1, w2⟩ := h2
    obtain ⟨k, k0, k1, k2⟩ := gx_min2 t0 w0
    exact ⟨k, k0, by grind, by grind, by grind, by grind⟩
  obtain ⟨T, T0, T1, T2, T3, T4⟩ := hT
  obtain ⟨k, k0, k1, hk⟩ := hpick T T0
  refine ⟨k, k0, k1, ?_⟩
  intro x x0 x1
  have hx := hk x x0 x1
  rw [he x]
  have b1 := gx_mulabs (x := x) (y := b.1 - a.1) (d := x) (m := m) (by grind) (by grind) m1 m2
  have hxm := Rat.mul_pos (a := x) (b := m) x0 (by grind)
  have hxn := Rat.mul_pos (a := x) (b := n) x0 (by grind)
  have hxm1 := Rat.mul_pos (a := 1 - x) (b := m) (by grind) (by grind)
  have b2 := gx_mulabs (x := x) (y := x * (b.1 - a.1) - (b.2 - a.2)) (d := x) (m := m + n) (by grind) (by grind) (by grind) (by grind)
  refine ⟨by grind, by grind, fun h0 => ⟨fun h => ?_, fun h => ?_⟩⟩
  · have := Rat.mul_pos (a := x) (b := (b.2 - a.2) - x * (b.1 - a.1)) x0 (by grind)
    rw [h0]; grind
  · have := Rat.mul_pos (a := x) (b := x * (b.1 - a.1) - (b.2 - a.2)) x0 (by grind)
    rw [h0]; grind
theorem gx_eps1 (s : (Rat × Rat) × (Rat × Rat)) (z : Rat × Rat) : ∃ k : Rat, 0 < k ∧ k ≤ 1 ∧ ∀ x, 0 < x → x < k →
    gx_cr s.1 s.2 (gx_eps z x) = gx_cr s.1 s.2 z ∧ s.1.2 ≠ (gx_eps z x).2 ∧ s.2.2 ≠ (gx_eps z x).2 ∧ ¬ gx_on s.1 s.2 (gx_eps z x) := by
  obtain ⟨k1, a0, a1, ha⟩ := gx_eps_h s.1.2 z.2
  obtain ⟨k2, b0, b1, hb⟩ := gx_eps_h s.2.2 z.2
  obtain ⟨k3, c0, c1, hc⟩ := gx_eps_t s.1 s.2 z
  obtain ⟨j, j0, j1, j2⟩ := gx_min2 a0 b0
  obtain ⟨k, k0, e1, e2⟩ := gx_min2 j0 c0
  refine ⟨k, k0, by grind, ?_⟩
  intro x x0 x1
  have h1 := ha x x0 (by grind)
  have h2 := hb x x0 (by grind)
  have h3 := hc x x0 (by grind)
  have hy : (gx_eps z x).2 = z.2 + x * x := rfl
  refine ⟨?_, by rw [hy]; exact h1.1, by rw [hy]; exact h2.1, ?_⟩
  · unfold gx_cr
    rw [hy]
    generalize x * x = X at *
    generalize gx_turn s.1 s.2 (gx_eps z x) = T at *
    generalize gx_turn s.1 s.2 z = W at *
    clear hy ha hb hc
    rcases gx_tri W 0 with e | e | e <;> grind
  · rintro ⟨t, t0, t1, tq⟩
    have hq0 : gx_turn s.1 s.2 (gx_eps z x) = 0 := by rw [← tq]; simp only [gx_turn, gx_at]; grind
    have hq2 : s.1.2 + t * (s.2.2 - s.1.2) = z.2 + x * x := by rw [← hy, ← tq]; rfl
    rcases gx_tri s.1.2 s.2.2 with e | e | e
    · rcases gx_tri (gx_turn s.1 s.2 z) 0 with f | f | f
      · have := h3.2.1 f; grind
      · have := (h3.2.2 f).1 e; grind
      · have := h3.1 f; grind
    · rw [e] at hq2; grind
    · rcases gx_tri (gx_turn s.1 s.2 z) 0 with f | f | f
      · have := h3.2.1 f; grind
      · have := (h3.2.2 f).2 e; grind
      · have := h3.1 f; grind
theorem gx_epsS (S : List ((Rat × Rat) × (Rat × Rat))) (z : Rat × Rat) : ∃ k : Rat, 0 < k ∧ ∀ x, 0 < x → x < k → gx_wn S (gx_eps z x) = gx_wn S z ∧ gx_gen S (gx_eps z x) := by
  induction S with
  | nil => exact ⟨1, by grind, fun x _ _ => ⟨rfl, fun s hs => by cases hs⟩⟩
  | cons s S ih =>
    obtain ⟨k, k0, hk⟩ := ih
    obtain ⟨j, j0, _, hj⟩ := gx_eps1 s z
    obtain ⟨m, m0, m1, m2⟩ := gx_min2 k0 j0
    refine ⟨m, m0, ?_⟩
    intro x x0 x1
    obtain ⟨h1, h2⟩ := hk x x0 (by grind)
    obtain ⟨h3, h4⟩ := hj x x0 (by grind)
    refine ⟨by simp only [gx_wn, h1, h3], ?_⟩
    intro q hq
    rcases List.mem_cons.mp hq with rfl | hq
    · exact h4
    · exact h2 q hq
/-- THE SENSE OF A SIMPLE RING -/
theorem gx_two {S : List ((Rat × Rat) × (Rat × Rat))} (h : gx_simple S) (z : Rat × Rat) : gx_wn S z = 0 ∨ gx_wn S z = 2 * gx_rr S + 1 := by
  by_cases h0 : S = []
  · subst h0; exact Or.inl rfl
  obtain ⟨k, k0, hk⟩ := gx_epsS S z
  obtain ⟨h1, h2⟩ := hk (k / 2) (by grind) (by grind)
  have h3 := gx_two_gen h h2
  rw [h1] at h3
  rcases gx_sense h h0 with e | e <;> rw [e] at h3 ⊢ <;> omega
