/-! cutting a ring along a chain -/
def gx_rev (S : List ((Rat × Rat) × (Rat × Rat))) : List ((Rat × Rat) × (Rat × Rat)) := (S.map (fun s => (s.2, s.1))).reverse
theorem gx_rev_cons (s : (Rat × Rat) × (Rat × Rat)) (S : List ((Rat × Rat) × (Rat × Rat))) : gx_rev (s :: S) = gx_rev S ++ [(s.2, s.1)] := by simp [gx_rev]
theorem gx_rev_app (S T : List ((Rat × Rat) × (Rat × Rat))) : gx_rev (S ++ T) = gx_rev T ++ gx_rev S := by simp [gx_rev]
theorem gx_wn_rev (S : List ((Rat × Rat) × (Rat × Rat))) (z : Rat × Rat) : gx_wn (gx_rev S) z = - gx_wn S z := by
  induction S with
  | nil => rfl
  | cons s S ih => rw [gx_rev_cons, gx_wn_app, ih]; simp only [gx_wn]; rw [gx_cr_rev s.1 s.2]; omega
theorem gx_path_rev {S : List ((Rat × Rat) × (Rat × Rat))} {a b : Rat × Rat} (h : gx_path S a b) : gx_path (gx_rev S) b a := by
  induction S generalizing a with
  | nil => simp only [gx_path] at h; subst h; rfl
  | cons s S ih => rw [gx_rev_cons]; exact gx_path_app (ih h.2) ⟨rfl, h.1⟩
theorem gx_mem_rev {S : List ((Rat × Rat) × (Rat × Rat))} {q : (Rat × Rat) × (Rat × Rat)} (h : q ∈ gx_rev S) : (q.2, q.1) ∈ S := by
  simp only [gx_rev, List.mem_reverse, List.mem_map] at h
  obtain ⟨s, hs, rfl⟩ := h
  exact hs
theorem gx_off_rev {a b : Rat × Rat} (h : a ≠ b) : gx_off b a = 1 - gx_off a b := by
  have h' : ¬ (a.1 = b.1 ∧ a.2 = b.2) := fun k => h (Prod.ext k.1 k.2)
  unfold gx_off; grind
/-- a side in two -/
theorem gx_cr_at {a b : Rat × Rat} {t : Rat} (t0 : 0 ≤ t) (t1 : t ≤ 1) (z : Rat × Rat) : gx_cr a b z = gx_cr a (gx_at a b t) z + gx_cr (gx_at a b t) b z := by
  by_cases e0 : t = 0
  · subst e0; rw [gx_at0]
    have : gx_cr a a z = 0 := by unfold gx_cr; grind
    omega
  by_cases e1 : t = 1
  · subst e1; rw [gx_at1]
    have : gx_cr b b z = 0 := by unfold gx_cr; grind
    omega
  have c0 : 0 < t := by grind
  have c1 : 0 < 1 - t := by grind
  have h1 : gx_turn a (gx_at a b t) z = t * gx_turn a b z := by simp only [gx_turn, gx_at]; grind
  have h2 : gx_turn (gx_at a b t) b z = (1 - t) * gx_turn a b z := by simp only [gx_turn, gx_at]; grind
  have s1 := gx_sgn (k := t) (v := gx_turn a b z) c0
  have s2 := gx_sgn (k := 1 - t) (v := gx_turn a b z) c1
  have s3 := gx_scale (p := b.2 - a.2) c0 (by grind)
  have hy : (gx_at a b t).2 = a.2 + t * (b.2 - a.2) := rfl
  unfold gx_cr
  rw [h1, h2, hy]
  generalize t * (b.2 - a.2) = Y at *
  generalize t * gx_turn a b z = T1 at *
  generalize (1 - t) * gx_turn a b z = T2 at *
  generalize gx_turn a b z = T at *
  clear h1 h2 hy
  rcases gx_tri a.2 b.2 with e | e | e <;> grind
/-- open simple paths -/
def gx_open (S : List ((Rat × Rat) × (Rat × Rat))) (a b : Rat × Rat) : Prop := S.Pairwise gx_hd ∧ (∀ s ∈ S, s.1 ≠ s.2) ∧ gx_path S a b ∧ ∀ s ∈ S, ∀ t : Rat, 0 ≤ t → t < 1 → gx_at s.1 s.2 t ≠ b
theorem gx_open_tail {s : (Rat × Rat) × (Rat × Rat)} {S : List ((Rat × Rat) × (Rat × Rat))} {a b : Rat × Rat} (h : gx_open (s :: S) a b) : gx_open S s.2 b :=
  ⟨(List.pairwise_cons.mp h.1).2, fun q hq => h.2.1 q (List.mem_cons_of_mem _ hq), h.2.2.1.2, fun q hq => h.2.2.2 q (List.mem_cons_of_mem _ hq)⟩
/-- the begin of an open path lies on its first side alone, and there at its begin -/
theorem gx_open_begin {S : List ((Rat × Rat) × (Rat × Rat))} {a b : Rat × Rat} (h : gx_open S a b) : ∀ q ∈ S, ∀ y : Rat, 0 < y → y ≤ 1 → gx_at q.1 q.2 y ≠ a := by
  cases S with
  | nil => intro q hq; cases hq
  | cons s S =>
    have ha : a = s.1 := h.2.2.1.1.symm
    subst ha
    intro q hq y y0 y1 k
    rcases List.mem_cons.mp hq with rfl | hq
    · have := gx_at_inj (h.2.1 q List.mem_cons_self) (k.trans (gx_at0 q.1 q.2).symm); grind
    · have hb : s.1 ≠ b := by have := h.2.2.2 s List.mem_cons_self 0 (by grind) (by grind); rwa [gx_at0] at this
      have := (gx_half h.2.2.1.2 (v := s.1) (fun p hp t t0 t1 k => (List.pairwise_cons.mp h.1).1 p hp 0 t (by grind) (by grind) t0 t1 (by rw [gx_at0]; exact k.symm)) hb).2 q hq
      exact this ⟨y, by grind, y1, k⟩
theorem gx_open_rev {S : List ((Rat × Rat) × (Rat × Rat))} {a b : Rat × Rat} (h : gx_open S a b) : gx_open (gx_rev S) b a := by
  induction S generalizing a with
  | nil => have := h.2.2.1; simp only [gx_path] at this; subst this; exact ⟨List.Pairwise.nil, (fun s hs => by cases hs), rfl, (fun s hs => by cases hs)⟩
  | cons s S ih =>
    have ht := ih (gx_open_tail h)
    have hp := gx_path_rev h.2.2.1
    have hbeg := gx_open_begin h
    have hbeg2 := gx_open_begin (gx_open_tail h)
    refine ⟨?_, ?_, hp, ?_⟩
    · rw [gx_rev_cons, List.pairwise_append]
      refine ⟨ht.1, List.pairwise_singleton _ _, ?_⟩
      intro q hq p hp t u t0 t1 u0 u1 k
      rw [List.mem_singleton] at hp; subst hp
      have hq' := gx_mem_rev hq
      simp only at k
      rw [gx_at_rev s.1 s.2, gx_at_rev q.2 q.1] at k
      by_cases e : u = 0
      · subst e
        have : gx_at s.1 s.2 (1 - 0) = s.2 := by simp only [gx_at]; grind
        rw [this] at k
        exact hbeg2 _ hq' (1 - t) (by grind) (by grind) k
      · have hb := h.2.2.2 s List.mem_cons_self (1 - u) (by grind) (by grind)
        have := (gx_half h.2.2.1.2 (v := gx_at s.1 s.2 (1 - u)) (fun p hp x x0 x1 k => (List.pairwise_cons.mp h.1).1 p hp (1 - u) x (by grind) (by grind) x0 x1 k.symm) hb).2 _ hq'
        exact this ⟨1 - t, by grind, by grind, k⟩
    · intro q hq k
      exact h.2.1 _ (gx_mem_rev hq) k.symm
    · intro q hq t t0 t1 k
      have hq' := gx_mem_rev hq
      rw [gx_at_rev q.2 q.1] at k
      exact hbeg _ hq' (1 - t) (by grind) (by grind) k
/-- two open paths that have their ends alone in common make a simple ring -/
theorem gx_close {S T : List ((Rat × Rat) × (Rat × Rat))} {a b : Rat × Rat} (hS : gx_open S a b) (hT : gx_open T b a) (hab : a ≠ b)
    (hx : ∀ s ∈ S, ∀ q ∈ T, ∀ t u : Rat, 0 ≤ t → t ≤ 1 → 0 ≤ u → u ≤ 1 → gx_at s.1 s.2 t = gx_at q.1 q.2 u → gx_at s.1 s.2 t = a ∨ gx_at s.1 s.2 t = b) : gx_simple (S ++ T) := by
  refine ⟨?_, ?_, a, gx_path_app hS.2.2.1 hT.2.2.1⟩
  · rw [List.pairwise_append]
    refine ⟨hS.1, hT.1, ?_⟩
    intro s hs q hq t u t0 t1 u0 u1 k
    rcases hx s hs q hq t u t0 (by grind) u0 (by grind) k with e | e
    · exact hT.2.2.2 q hq u u0 u1 (k.symm.trans e)
    · exact hS.2.2.2 s hs t t0 t1 e
  · intro s hs
    rcases List.mem_append.mp hs with hs | hs
    · exact hS.2.1 s hs
    · exact hT.2.1 s hs
/-- THE CUT: both parts run counterclockwise where the ring does and the chain is within -/
theorem gx_cut {P1 P2 C1 C2 : List ((Rat × Rat) × (Rat × Rat))} {g : (Rat × Rat) × (Rat × Rat)} (h1 : gx_simple (P1 ++ gx_rev (C1 ++ g :: C2))) (h2 : gx_simple (P2 ++ (C1 ++ g :: C2)))
    (hw : gx_wn (P1 ++ P2) (gx_at g.1 g.2 (1/2)) = 1) : gx_rr (P1 ++ gx_rev (C1 ++ g :: C2)) = 0 ∧ gx_rr (P2 ++ (C1 ++ g :: C2)) = 0 := by
  have n1 : P1 ++ gx_rev (C1 ++ g :: C2) ≠ [] := by rw [gx_rev_app, gx_rev_cons]; simp
  have n2 : P2 ++ (C1 ++ g :: C2) ≠ [] := by simp
  have hne : g.1 ≠ g.2 := h2.2.1 g (by simp)
  have e1 : gx_rr (P1 ++ gx_rev (C1 ++ g :: C2)) = gx_wn (gx_rev C1 ++ (P1 ++ gx_rev C2)) (gx_at g.2 g.1 (1/2)) - gx_off g.2 g.1 := by
    have hs : P1 ++ gx_rev (C1 ++ g :: C2) = (P1 ++ gx_rev C2) ++ ((g.2, g.1) :: gx_rev C1) := by rw [gx_rev_app, gx_rev_cons]; simp
    rw [hs] at h1 ⊢
    rw [gx_rot h1]; rfl
  have e2 : gx_rr (P2 ++ (C1 ++ g :: C2)) = gx_wn (C2 ++ (P2 ++ C1)) (gx_at g.1 g.2 (1/2)) - gx_off g.1 g.2 := by
    have hs : P2 ++ (C1 ++ g :: C2) = (P2 ++ C1) ++ (g :: C2) := by simp
    rw [hs] at h2 ⊢
    rw [gx_rot h2]; rfl
  have e3 : gx_at g.2 g.1 (1/2) = gx_at g.1 g.2 (1/2) := by rw [gx_at_rev]; congr 1; grind
  rw [e3, gx_off_rev hne] at e1
  simp only [gx_wn_app, gx_wn_rev] at e1 e2 hw
  rcases gx_sense h1 n1 with k1 | k1 <;> rcases gx_sense h2 n2 with k2 | k2 <;> omega
theorem gx_cut_wn (P1 P2 C : List ((Rat × Rat) × (Rat × Rat))) (z : Rat × Rat) : gx_wn (P1 ++ gx_rev C) z + gx_wn (P2 ++ C) z = gx_wn (P1 ++ P2) z := by
  simp only [gx_wn_app, gx_wn_rev]; omega
