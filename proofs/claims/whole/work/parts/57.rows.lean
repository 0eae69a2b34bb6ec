/-! rows of points; simple as the class and as the reference test it -/
def gx_sd : Rat × Rat → List (Rat × Rat) → Rat × Rat → List ((Rat × Rat) × (Rat × Rat))
  | a, [], z => [(a, z)]
  | a, b :: r, z => (a, b) :: gx_sd b r z
def gx_ringOf : List (Rat × Rat) → List ((Rat × Rat) × (Rat × Rat))
  | [] => []
  | v :: r => gx_sd v r v
theorem gx_sd_path (a : Rat × Rat) (r : List (Rat × Rat)) (z : Rat × Rat) : gx_path (gx_sd a r z) a z := by
  induction r generalizing a with
  | nil => exact ⟨rfl, rfl⟩
  | cons b r ih => exact ⟨rfl, ih b⟩
theorem gx_sd_len (a : Rat × Rat) (r : List (Rat × Rat)) (z : Rat × Rat) : (gx_sd a r z).length = r.length + 1 := by
  induction r generalizing a with
  | nil => rfl
  | cons b r ih => simp [gx_sd, ih]
theorem gx_sd_get (a : Rat × Rat) (r : List (Rat × Rat)) (z : Rat × Rat) (i : Nat) (h : i < (gx_sd a r z).length) :
    (gx_sd a r z)[i] = ((a :: r)[i]'(by rw [gx_sd_len] at h; simp; omega), (r ++ [z])[i]'(by rw [gx_sd_len] at h; simp; omega)) := by
  induction r generalizing a i with
  | nil =>
    rw [gx_sd_len] at h
    have : i = 0 := by simp at h; omega
    subst this; rfl
  | cons b r ih =>
    cases i with
    | zero => rfl
    | succ i =>
      have := ih b i (by rw [gx_sd_len] at h ⊢; simp at h; omega)
      simpa [gx_sd] using this
/-- the i-th point, counted round -/
def ig_at (l : List (Int × Int)) (i : Nat) : Int × Int := l.getD (i % l.length) (0, 0)
def ic_simple (l : List (Int × Int)) (closed : Bool) : Prop :=
  (∀ i, i < (if closed then l.length else l.length - 1) → ig_at l i ≠ ig_at l (i + 1)) ∧
  ∀ i j, i < j → j < (if closed then l.length else l.length - 1) →
    ic_meeting (ig_at l i) (ig_at l (i + 1)) (ig_at l j) (ig_at l (j + 1)) = if j = i + 1 ∨ (closed = true ∧ i = 0 ∧ j = (if closed then l.length else l.length - 1) - 1) then 1 else 0
def im_simple (l : List (Int × Int)) (closed : Bool) : Prop :=
  (∀ i, i < (if closed then l.length else l.length - 1) → ig_at l i ≠ ig_at l (i + 1)) ∧
  ∀ i j, i < j → j < (if closed then l.length else l.length - 1) →
    ((i + 1) % l.length = j → im_fold (ig_at l (i + 1)) (ig_at l i) (ig_at l (j + 1)) = false) ∧
    ((j + 1) % l.length = i → im_fold (ig_at l i) (ig_at l (i + 1)) (ig_at l j) = false) ∧
    ((i + 1) % l.length ≠ j → (j + 1) % l.length ≠ i → im_meet (ig_at l i) (ig_at l (i + 1)) (ig_at l j) (ig_at l (j + 1)) = false)
theorem ig_at_lt {l : List (Int × Int)} {i : Nat} (h : i < l.length) : ig_at l i = l[i] := by
  unfold ig_at; rw [Nat.mod_eq_of_lt h]; simp [h]
theorem ig_at_mod (l : List (Int × Int)) (i : Nat) : ig_at l (i % l.length) = ig_at l i := by
  unfold ig_at; rw [Nat.mod_mod]
theorem ig_at_ok {l : List (Int × Int)} (hl : ∀ p ∈ l, ig_ok p) (h0 : l ≠ []) (i : Nat) : ig_ok (ig_at l i) := by
  have : i % l.length < l.length := Nat.mod_lt _ (List.length_pos_iff.mpr h0)
  unfold ig_at; simp [this]; exact hl _ (List.getElem_mem this)
theorem ic_meeting_sym {a b p q : Int × Int} (ha : ig_ok a) (hb : ig_ok b) (hp : ig_ok p) (hq : ig_ok q) (hab : a ≠ b) (hpq : p ≠ q) : ic_meeting a b p q = ic_meeting p q a b := by
  have h0 := ic_meeting_iff ha hb hp hq hab hpq
  have h1 := ic_meeting_iff hp hq ha hb hpq hab
  have hs : gx_free (ig_c a) (ig_c b) (ig_c p) (ig_c q) ↔ gx_free (ig_c p) (ig_c q) (ig_c a) (ig_c b) :=
    ⟨fun h t s t0 t1 s0 s1 k => h s t s0 s1 t0 t1 k.symm, fun h t s t0 t1 s0 s1 k => h s t s0 s1 t0 t1 k.symm⟩
  have h2 : ic_meeting a b p q = 2 ↔ ic_meeting p q a b = 2 := by
    have hlow : ic_low a b p q = ic_low p q a b := by unfold ic_low; omega
    have hhigh : ic_high a b p q = ic_high p q a b := by unfold ic_high; omega
    rw [ic_meeting2 ha hb hp hq hab, ic_meeting2 hp hq ha hb hpq]
    constructor
    · rintro ⟨k1, k2, k3⟩
      rw [im_over_iff ha hb hp hq hab k1 k2] at k3
      have e := ig_line k1 k2
      have j1 : ig_turn p q a = 0 := by
        have tr1 := (ig_turn0 a b p).mpr k1
        have tr2 := (ig_turn0 a b q).mpr k2
        obtain ⟨x, hx⟩ := gx_par (ig_ne hab) tr1
        obtain ⟨y, hy⟩ := gx_par (ig_ne hab) tr2
        rw [← ig_turn0, hx, hy]; simp only [gx_turn, gx_at]; grind
      have j2 : ig_turn p q b = 0 := by
        have tr1 := (ig_turn0 a b p).mpr k1
        have tr2 := (ig_turn0 a b q).mpr k2
        obtain ⟨x, hx⟩ := gx_par (ig_ne hab) tr1
        obtain ⟨y, hy⟩ := gx_par (ig_ne hab) tr2
        rw [← ig_turn0, hx, hy]; simp only [gx_turn, gx_at]; grind
      refine ⟨j1, j2, ?_⟩
      rw [im_over_iff hp hq ha hb hpq j1 j2, ← hlow, ← hhigh]; exact k3
    · rintro ⟨k1, k2, k3⟩
      rw [im_over_iff hp hq ha hb hpq k1 k2] at k3
      have j1 : ig_turn a b p = 0 := by
        obtain ⟨x, hx⟩ := gx_par (ig_ne hpq) ((ig_turn0 p q a).mpr k1)
        obtain ⟨y, hy⟩ := gx_par (ig_ne hpq) ((ig_turn0 p q b).mpr k2)
        rw [← ig_turn0, hx, hy]; simp only [gx_turn, gx_at]; grind
      have j2 : ig_turn a b q = 0 := by
        obtain ⟨x, hx⟩ := gx_par (ig_ne hpq) ((ig_turn0 p q a).mpr k1)
        obtain ⟨y, hy⟩ := gx_par (ig_ne hpq) ((ig_turn0 p q b).mpr k2)
        rw [← ig_turn0, hx, hy]; simp only [gx_turn, gx_at]; grind
      refine ⟨j1, j2, ?_⟩
      rw [im_over_iff ha hb hp hq hab j1 j2, hlow, hhigh]; exact k3
  have c1 := ic_meeting_012 a b p q
  have c2 := ic_meeting_012 p q a b
  have : ic_meeting a b p q = 0 ↔ ic_meeting p q a b = 0 := h0.trans (hs.trans h1.symm)
  omega
theorem im_fold_sym (v a b : Int × Int) : im_fold v a b = im_fold v b a := by
  have h1 : ig_turn v a b = - ig_turn v b a := by unfold ig_turn; grind
  unfold im_fold
  rw [h1]
  congr 1
  · rw [decide_eq_decide]; omega
  · rw [decide_eq_decide]
    have : (a.1 - v.1) * (b.1 - v.1) + (a.2 - v.2) * (b.2 - v.2) = (b.1 - v.1) * (a.1 - v.1) + (b.2 - v.2) * (a.2 - v.2) := by grind
    rw [this]
theorem ig_simple_iff {l : List (Int × Int)} (hl : ∀ p ∈ l, ig_ok p) (closed : Bool) (h3 : closed = true → 3 ≤ l.length) : ic_simple l closed ↔ im_simple l closed := by
  unfold ic_simple im_simple
  refine and_congr_right (fun hz => ?_)
  refine forall_congr' (fun i => forall_congr' (fun j => forall_congr' (fun hij => forall_congr' (fun hj => ?_))))
  have hn : l ≠ [] := by intro k; subst k; cases closed <;> simp at hj
  have ok := ig_at_ok hl hn
  have d1 := hz i (by omega)
  have d2 := hz j hj
  have hm0 := ic_meeting_meet (ok i) (ok (i + 1)) (ok j) (ok (j + 1)) d1 d2
  cases closed with
  | false =>
    simp only [Bool.false_eq_true, if_false, false_and, or_false] at hj ⊢
    have e1 : (i + 1) % l.length = i + 1 := Nat.mod_eq_of_lt (by omega)
    have e2 : (j + 1) % l.length = j + 1 := Nat.mod_eq_of_lt (by omega)
    rw [e1, e2]
    by_cases k : j = i + 1
    · subst k
      rw [if_pos rfl, ic_meeting_next (ok _) (ok _) (ok _) d1 d2]
      exact ⟨fun h => ⟨fun _ => h, fun h => by omega, fun h => absurd rfl h⟩, fun h => h.1 rfl⟩
    · rw [if_neg k, hm0]
      exact ⟨fun h => ⟨fun h => by omega, fun h => by omega, fun _ _ => h⟩, fun h => h.2.2 (by omega) (by omega)⟩
  | true =>
    have h3' := h3 rfl
    simp only [if_true, true_and] at hj ⊢
    have e1 : (i + 1) % l.length = i + 1 := Nat.mod_eq_of_lt (by omega)
    rw [e1]
    by_cases k : j = i + 1
    · subst k
      rw [if_pos (Or.inl rfl), ic_meeting_next (ok _) (ok _) (ok _) d1 d2]
      have e2 : (i + 1 + 1) % l.length ≠ i := by
        by_cases f : i + 1 + 1 < l.length
        · rw [Nat.mod_eq_of_lt f]; omega
        · have : i + 1 + 1 = l.length := by omega
          rw [this, Nat.mod_self]; omega
      exact ⟨fun h => ⟨fun _ => h, fun h => absurd h e2, fun h => absurd rfl h⟩, fun h => h.1 rfl⟩
    · by_cases k2 : i = 0 ∧ j = l.length - 1
      · obtain ⟨k2, k3⟩ := k2
        have e2 : (j + 1) % l.length = i := by
          have : j + 1 = l.length := by omega
          rw [this, Nat.mod_self, k2]
        have e3 : ig_at l (j + 1) = ig_at l i := by rw [← ig_at_mod l (j + 1), e2]
        rw [if_pos (Or.inr ⟨k2, k3⟩), e3, e2]
        rw [e3] at d2
        rw [ic_meeting_sym (ok _) (ok _) (ok _) (ok _) d1 d2, ic_meeting_next (ok _) (ok _) (ok _) d2 d1, im_fold_sym]
        exact ⟨fun h => ⟨fun h => by omega, fun _ => h, fun _ h => absurd rfl h⟩, fun h => h.2.1 rfl⟩
      · rw [if_neg (by rintro (f | f); exact k f; exact k2 f), hm0]
        have e2 : (j + 1) % l.length ≠ i := by
          by_cases f : j + 1 < l.length
          · rw [Nat.mod_eq_of_lt f]; omega
          · have : j + 1 = l.length := by omega
            rw [this, Nat.mod_self]; omega
        exact ⟨fun h => ⟨fun h => by omega, fun h => absurd h e2, fun _ _ => h⟩, fun h => h.2.2 (by omega) e2⟩
