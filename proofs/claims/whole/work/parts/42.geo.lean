/-! paths of sides; their sums along a free segment -/
theorem gx_cr_rev (a b z : Rat × Rat) : gx_cr b a z = - gx_cr a b z := by
  have : gx_turn b a z = - gx_turn a b z := by simp only [gx_turn]; grind
  unfold gx_cr; grind
theorem gx_at_rev (a b : Rat × Rat) (t : Rat) : gx_at b a t = gx_at a b (1 - t) := by
  simp only [gx_at, Prod.mk.injEq]; grind
theorem gx_free_rev {a b z w : Rat × Rat} (h : gx_free a b z w) : gx_free b a z w := by
  intro t s h0 h1 h2 h3
  rw [gx_at_rev]; exact h (1 - t) s (by grind) (by grind) h2 h3
theorem gx_free_rev' {a b z w : Rat × Rat} (h : gx_free a b z w) : gx_free a b w z := by
  intro t s h0 h1 h2 h3
  rw [gx_at_rev z w]; exact h t (1 - s) h0 h1 (by grind) (by grind)
theorem gx_core {a b z w : Rat × Rat} (hzw : z.2 ≤ w.2) (hf : gx_free a b z w) : gx_cr a b z - gx_cr a b w = gx_U z w b - gx_U z w a := by
  by_cases h : a.2 ≤ b.2
  · exact gx_up h hzw hf
  · have := gx_up (a := b) (b := a) (by grind) hzw (gx_free_rev hf)
    rw [gx_cr_rev a b z, gx_cr_rev a b w] at this
    grind
def gx_path : List ((Rat × Rat) × (Rat × Rat)) → Rat × Rat → Rat × Rat → Prop
  | [], a, b => a = b
  | s :: S, a, b => s.1 = a ∧ gx_path S s.2 b
def gx_wn : List ((Rat × Rat) × (Rat × Rat)) → Rat × Rat → Int
  | [], _ => 0
  | s :: S, z => gx_cr s.1 s.2 z + gx_wn S z
theorem gx_path_app {S T : List ((Rat × Rat) × (Rat × Rat))} {a b d : Rat × Rat} (h : gx_path S a b) (k : gx_path T b d) : gx_path (S ++ T) a d := by
  induction S generalizing a with
  | nil => simp only [gx_path] at h; subst h; exact k
  | cons s S ih => exact ⟨h.1, ih h.2⟩
theorem gx_path_split {S T : List ((Rat × Rat) × (Rat × Rat))} {a d : Rat × Rat} (h : gx_path (S ++ T) a d) : ∃ b, gx_path S a b ∧ gx_path T b d := by
  induction S generalizing a with
  | nil => exact ⟨a, rfl, h⟩
  | cons s S ih =>
    obtain ⟨b, h1, h2⟩ := ih h.2
    exact ⟨b, ⟨h.1, h1⟩, h2⟩
theorem gx_wn_app (S T : List ((Rat × Rat) × (Rat × Rat))) (z : Rat × Rat) : gx_wn (S ++ T) z = gx_wn S z + gx_wn T z := by
  induction S with
  | nil => simp [gx_wn]
  | cons s S ih => simp only [List.cons_append, gx_wn, ih]; omega
theorem gx_tele {S : List ((Rat × Rat) × (Rat × Rat))} {a b z w : Rat × Rat} (hp : gx_path S a b) (hzw : z.2 ≤ w.2)
    (hf : ∀ s ∈ S, gx_free s.1 s.2 z w) : gx_wn S z - gx_wn S w = gx_U z w b - gx_U z w a := by
  induction S generalizing a with
  | nil => simp only [gx_path] at hp; subst hp; simp [gx_wn]
  | cons s S ih =>
    have h1 := gx_core hzw (hf s List.mem_cons_self)
    have h2 := ih hp.2 (fun q hq => hf q (List.mem_cons_of_mem _ hq))
    simp only [gx_wn]; rw [← hp.1]; omega
/-- over a ring: the same all along -/
theorem gx_ring {S : List ((Rat × Rat) × (Rat × Rat))} {a z w : Rat × Rat} (hp : gx_path S a a) (hf : ∀ s ∈ S, gx_free s.1 s.2 z w) : gx_wn S z = gx_wn S w := by
  by_cases h : z.2 ≤ w.2
  · have := gx_tele hp h hf; omega
  · have := gx_tele (z := w) (w := z) hp (by grind) (fun s hs => gx_free_rev' (hf s hs)); omega
/-- an open path whose ends lie on the segment's line -/
theorem gx_line {S : List ((Rat × Rat) × (Rat × Rat))} {a b z w : Rat × Rat} (hp : gx_path S a b) (hf : ∀ s ∈ S, gx_free s.1 s.2 z w)
    (ha : gx_turn z w a = 0) (hb : gx_turn z w b = 0) : gx_wn S z = gx_wn S w := by
  have ha' : gx_turn w z a = 0 := by simp only [gx_turn] at *; grind
  have hb' : gx_turn w z b = 0 := by simp only [gx_turn] at *; grind
  have n0 : ¬ (0 : Rat) < 0 := by grind
  by_cases h : z.2 ≤ w.2
  · have := gx_tele hp h hf; simp [gx_U, ha, hb, n0] at this; omega
  · have := gx_tele (z := w) (w := z) hp (by grind) (fun s hs => gx_free_rev' (hf s hs)); simp [gx_U, ha', hb', n0] at this; omega
def gx_off (a b : Rat × Rat) : Int := if b.2 < a.2 ∨ (b.2 = a.2 ∧ a.1 < b.1) then 1 else 0
theorem gx_scale {t p : Rat} (h0 : 0 < t) (h1 : t < 1) : (0 < p → 0 < t * p ∧ t * p < p) ∧ (p < 0 → t * p < 0 ∧ p < t * p) ∧ (p = 0 → t * p = 0) := by
  refine ⟨fun h => ?_, fun h => ?_, fun h => ?_⟩
  · have e1 := Rat.mul_pos h0 h
    have e2 := Rat.mul_pos (a := 1 - t) (b := p) (by grind) h
    grind
  · have e1 := Rat.mul_pos (a := t) (b := -p) h0 (by grind)
    have e2 := Rat.mul_pos (a := 1 - t) (b := -p) (by grind) (by grind)
    grind
  · rw [h]; grind
theorem gx_tri (a b : Rat) : a < b ∨ a = b ∨ b < a := by
  by_cases h : a < b
  · exact Or.inl h
  · by_cases h2 : b < a
    · exact Or.inr (Or.inr h2)
    · exact Or.inr (Or.inl (by grind))
/-- round a corner -/
theorem gx_corner {u v w h g : Rat × Rat} {t : Rat} {Q : List ((Rat × Rat) × (Rat × Rat))} (t0 : 0 < t) (t1 : t < 1) (hh : h = gx_at v u t) (hg : g = gx_at v w t)
    (hp : gx_path Q w u) (hf : ∀ s ∈ Q, gx_free s.1 s.2 h g) (huv : u ≠ v) (hvw : v ≠ w)
    (hk : gx_turn u v w = 0 → ∃ k : Rat, 0 < k ∧ w.1 - v.1 = -(k * (u.1 - v.1)) ∧ w.2 - v.2 = -(k * (u.2 - v.2))) :
    gx_cr v w h + gx_wn Q h - gx_off u v = gx_cr u v g + gx_wn Q g - gx_off v w := by
  obtain ⟨u1, u2⟩ := u
  obtain ⟨v1, v2⟩ := v
  obtain ⟨w1, w2⟩ := w
  have hp2 : ∃ p1 p2 : Rat, u1 = v1 + p1 ∧ u2 = v2 + p2 := ⟨u1 - v1, u2 - v2, by grind, by grind⟩
  have hq2 : ∃ q1 q2 : Rat, w1 = v1 + q1 ∧ w2 = v2 + q2 := ⟨w1 - v1, w2 - v2, by grind, by grind⟩
  obtain ⟨p1, p2, rfl, rfl⟩ := hp2
  obtain ⟨q1, q2, rfl, rfl⟩ := hq2
  have e1 : gx_turn (v1, v2) (v1 + q1, v2 + q2) h = t * (p2 * q1 - p1 * q2) := by rw [hh]; simp only [gx_turn, gx_at]; grind
  have e2 : gx_turn (v1 + p1, v2 + p2) (v1, v2) g = t * (p2 * q1 - p1 * q2) := by rw [hg]; simp only [gx_turn, gx_at]; grind
  have e3 : gx_turn h g (v1 + p1, v2 + p2) = (t * (1 - t)) * (p2 * q1 - p1 * q2) := by rw [hh, hg]; simp only [gx_turn, gx_at]; grind
  have e4 : gx_turn h g (v1 + q1, v2 + q2) = (t * (1 - t)) * (p2 * q1 - p1 * q2) := by rw [hh, hg]; simp only [gx_turn, gx_at]; grind
  have e5 : gx_turn g h (v1 + p1, v2 + p2) = -((t * (1 - t)) * (p2 * q1 - p1 * q2)) := by rw [hh, hg]; simp only [gx_turn, gx_at]; grind
  have e6 : gx_turn g h (v1 + q1, v2 + q2) = -((t * (1 - t)) * (p2 * q1 - p1 * q2)) := by rw [hh, hg]; simp only [gx_turn, gx_at]; grind
  have e7 : gx_turn (v1 + p1, v2 + p2) (v1, v2) (v1 + q1, v2 + q2) = p2 * q1 - p1 * q2 := by simp only [gx_turn]; grind
  have y1 : h.2 = v2 + t * p2 := by rw [hh]; simp only [gx_at]; grind
  have y2 : g.2 = v2 + t * q2 := by rw [hg]; simp only [gx_at]; grind
  have s1 := gx_sgn (k := t) (v := p2 * q1 - p1 * q2) t0
  have s2 := gx_sgn (k := t * (1 - t)) (v := p2 * q1 - p1 * q2) (Rat.mul_pos t0 (by grind))
  have c1 := gx_scale (p := p2) t0 t1
  have c2 := gx_scale (p := q2) t0 t1
  have c3 := gx_scale (p := q2 - p2) t0 t1
  have c4 : t * (q2 - p2) = t * q2 - t * p2 := by grind
  rw [c4] at c3
  -- flat sides
  have m1 : p2 = 0 → p2 * q1 - p1 * q2 = -(p1 * q2) := by intro h; rw [h]; grind
  have m2 : q2 = 0 → p2 * q1 - p1 * q2 = p2 * q1 := by intro h; rw [h]; grind
  have m3 : 0 < q2 → (0 < q2 * p1 ↔ 0 < p1) ∧ (q2 * p1 < 0 ↔ p1 < 0) := fun h => gx_sgn h
  have m4 : q2 < 0 → (0 < (-q2) * p1 ↔ 0 < p1) ∧ ((-q2) * p1 < 0 ↔ p1 < 0) := fun h => gx_sgn (by grind)
  have m5 : 0 < p2 → (0 < p2 * q1 ↔ 0 < q1) ∧ (p2 * q1 < 0 ↔ q1 < 0) := fun h => gx_sgn h
  have m6 : p2 < 0 → (0 < (-p2) * q1 ↔ 0 < q1) ∧ ((-p2) * q1 < 0 ↔ q1 < 0) := fun h => gx_sgn (by grind)
  have n1 : ¬ (p1 = 0 ∧ p2 = 0) := by intro h; apply huv; simp only [Prod.mk.injEq]; grind
  have n2 : ¬ (q1 = 0 ∧ q2 = 0) := by intro h; apply hvw; simp only [Prod.mk.injEq]; grind
  have hfold : p2 * q1 - p1 * q2 = 0 → (0 < p2 → q2 < 0) ∧ (p2 < 0 → 0 < q2) ∧ (p2 = 0 → q2 = 0 ∧ (0 < p1 → q1 < 0) ∧ (p1 < 0 → 0 < q1)) := by
    intro h0
    obtain ⟨k, k0, k1, k2⟩ := hk (by rw [e7]; exact h0)
    simp only at k1 k2
    have k3 : q1 = -(k * p1) := by grind
    have k4 : q2 = -(k * p2) := by grind
    have s3 := gx_sgn (k := k) (v := p2) k0
    have s4 := gx_sgn (k := k) (v := p1) k0
    refine ⟨fun h => by grind, fun h => by grind, fun h => ⟨by grind, fun h => by grind, fun h => by grind⟩⟩
  have key : (h.2 ≤ g.2 → gx_cr (v1, v2) (v1 + q1, v2 + q2) h + (gx_U h g (v1 + p1, v2 + p2) - gx_U h g (v1 + q1, v2 + q2)) - gx_off (v1 + p1, v2 + p2) (v1, v2) = gx_cr (v1 + p1, v2 + p2) (v1, v2) g - gx_off (v1, v2) (v1 + q1, v2 + q2)) ∧
      (g.2 ≤ h.2 → gx_cr (v1, v2) (v1 + q1, v2 + q2) h - (gx_U g h (v1 + p1, v2 + p2) - gx_U g h (v1 + q1, v2 + q2)) - gx_off (v1 + p1, v2 + p2) (v1, v2) = gx_cr (v1 + p1, v2 + p2) (v1, v2) g - gx_off (v1, v2) (v1 + q1, v2 + q2)) := by
    simp only [gx_cr, gx_U, gx_off, e1, e2, e3, e4, e5, e6, y1, y2]
    clear e1 e2 e3 e4 e5 e6 e7 hk huv hvw hp hf hh hg
    generalize t * p2 = P at *
    generalize t * q2 = W at *
    generalize t * (p2 * q1 - p1 * q2) = K1 at *
    generalize (t * (1 - t)) * (p2 * q1 - p1 * q2) = K2 at *
    generalize hK : p2 * q1 - p1 * q2 = K at *
    rcases gx_tri p2 0 with a1 | a1 | a1 <;> rcases gx_tri q2 0 with a2 | a2 | a2 <;> rcases gx_tri K 0 with a3 | a3 | a3 <;> first | (constructor <;> intro a4 <;> grind) | skip
  by_cases ho : h.2 ≤ g.2
  · have := gx_tele hp ho hf
    have := key.1 ho; omega
  · have := gx_tele (z := g) (w := h) hp (by grind) (fun s hs => gx_free_rev' (hf s hs))
    have := key.2 (by grind); omega
