/-! RINGS AS LISTS: sides by index and by recursion; rotation; the list without its straight corners. -/
abbrev PT : Type := Int × Int
theorem gx_sd_app (a : Rat × Rat) (r : List (Rat × Rat)) (b : Rat × Rat) (t : List (Rat × Rat)) (z : Rat × Rat) : gx_sd a (r ++ b :: t) z = gx_sd a r b ++ gx_sd b t z := by
  induction r generalizing a with
  | nil => rfl
  | cons v r ih => simp [gx_sd, ih]
theorem gx_sd_rev (a : Rat × Rat) (r : List (Rat × Rat)) (z : Rat × Rat) : gx_rev (gx_sd a r z) = gx_sd z r.reverse a := by
  induction r generalizing a with
  | nil => rfl
  | cons v r ih => rw [List.reverse_cons, gx_sd_app]; simp only [gx_sd, gx_rev_cons, ih]
theorem gx_ringOf_app (a : Rat × Rat) (A : List (Rat × Rat)) (b : Rat × Rat) (B : List (Rat × Rat)) : gx_ringOf (a :: A ++ b :: B) = gx_sd a A b ++ gx_sd b B a := by
  show gx_sd a (A ++ b :: B) a = _
  rw [gx_sd_app]
def rgn (l : List PT) : List ((Rat × Rat) × (Rat × Rat)) := gx_ringOf (l.map ig_c)
theorem ig_at_getD {l : List PT} {i : Nat} (h : i < l.length) : ig_at l i = l.getD i (0, 0) := by
  unfold ig_at; rw [Nat.mod_eq_of_lt h]
theorem ig_at_len (l : List PT) (i : Nat) : ig_at l (i + l.length) = ig_at l i := by
  unfold ig_at; rw [Nat.add_mod_right]
theorem ig_at_mem {l : List PT} (h : l ≠ []) (i : Nat) : ig_at l i ∈ l := by
  have : i % l.length < l.length := Nat.mod_lt _ (List.length_pos_iff.mpr h)
  unfold ig_at; simp [this]
theorem ig_mem_at {l : List PT} {p : PT} (h : p ∈ l) : ∃ i, i < l.length ∧ ig_at l i = p := by
  obtain ⟨i, hi, e⟩ := List.getElem_of_mem h
  exact ⟨i, hi, by rw [ig_at_lt hi, e]⟩
theorem rgn_len (l : List PT) : (rgn l).length = l.length := by
  cases l with
  | nil => rfl
  | cons a r => simp [rgn, gx_ringOf, gx_sd_len]
theorem rgn_ix (l : List PT) : rgn l = (List.range l.length).map (fun i => (ig_c (ig_at l i), ig_c (ig_at l (i + 1)))) := by
  apply List.ext_getElem
  · simp [rgn_len]
  · intro i h1 h2
    rw [rgn_len] at h1
    cases l with
    | nil => simp at h1
    | cons a r =>
      simp only [List.getElem_map, List.getElem_range]
      have hh : i < (gx_sd (ig_c a) (r.map ig_c) (ig_c a)).length := by rw [gx_sd_len]; simpa using h1
      have := gx_sd_get (ig_c a) (r.map ig_c) (ig_c a) i hh
      show (gx_sd (ig_c a) (r.map ig_c) (ig_c a))[i] = _
      rw [this]
      have h1' : i < r.length + 1 := by simpa using h1
      congr 1
      · rw [ig_at_lt h1]
        cases i with
        | zero => rfl
        | succ i => simp
      · by_cases e : i < r.length
        · rw [ig_at_lt (by simp; omega)]
          rw [List.getElem_append_left (by simpa using e)]
          simp
        · have e2 : i = r.length := by omega
          subst e2
          rw [List.getElem_append_right (by simp)]
          have : ig_at (a :: r) (r.length + 1) = ig_at (a :: r) 0 := by
            have := ig_at_len (a :: r) 0
            simpa using this
          rw [this]
          simp [ig_at]
theorem rgn_mem {l : List PT} {s : (Rat × Rat) × (Rat × Rat)} : s ∈ rgn l ↔ ∃ i, i < l.length ∧ s = (ig_c (ig_at l i), ig_c (ig_at l (i + 1))) := by
  rw [rgn_ix, List.mem_map]
  constructor
  · rintro ⟨i, hi, e⟩
    exact ⟨i, List.mem_range.mp hi, e.symm⟩
  · rintro ⟨i, hi, e⟩
    exact ⟨i, List.mem_range.mpr hi, e.symm⟩
/-- the i-th side of l, the others behind it -/
theorem rgn_pw {l : List PT} {P : (Rat × Rat) × (Rat × Rat) → (Rat × Rat) × (Rat × Rat) → Prop} : (rgn l).Pairwise P ↔ ∀ i j, i < j → j < l.length → P (ig_c (ig_at l i), ig_c (ig_at l (i + 1))) (ig_c (ig_at l j), ig_c (ig_at l (j + 1))) := by
  rw [rgn_ix, List.pairwise_iff_getElem]
  constructor
  · intro h i j hij hj
    have := h i j (by simp; omega) (by simpa using hj) hij
    simpa using this
  · intro h i j hi hj hij
    have := h i j hij (by simpa using hj)
    simpa using this
theorem rgn_path {l : List PT} (h : l ≠ []) : ∃ a, gx_path (rgn l) a a := by
  cases l with
  | nil => exact absurd rfl h
  | cons a r => exact ⟨ig_c a, gx_sd_path _ _ _⟩
theorem gx_hd_free {a b p q : Rat × Rat} (h : gx_free a b p q) : gx_hd (a, b) (p, q) := fun t u t0 t1 u0 u1 k => h t u t0 (by grind) u0 (by grind) k
theorem rgn_simple {l : List PT} (hl : ∀ p ∈ l, ig_ok p) (h3 : 3 ≤ l.length) (h : ic_simple l true) : gx_simple (rgn l) := by
  have hn : l ≠ [] := by intro k; subst k; simp at h3
  have ok := ig_at_ok hl hn
  have hz : ∀ i, i < l.length → ig_at l i ≠ ig_at l (i + 1) := h.1
  have hs := h.2
  simp only [if_true, true_and] at hs
  have hz' : ∀ i, ig_at l i ≠ ig_at l (i + 1) := by
    intro i
    have := hz (i % l.length) (Nat.mod_lt _ (by omega))
    rw [ig_at_mod] at this
    have e : ig_at l (i % l.length + 1) = ig_at l (i + 1) := by
      rw [← ig_at_mod l (i % l.length + 1), ← ig_at_mod l (i + 1), Nat.mod_add_mod]
    rwa [e] at this
  refine ⟨?_, ?_, rgn_path hn⟩
  · rw [rgn_pw]
    intro i j hij hj
    have hm := hs i j hij hj
    have nx : ∀ k, ic_meeting (ig_at l k) (ig_at l (k + 1)) (ig_at l (k + 1)) (ig_at l (k + 2)) = 1 → gx_hd (ig_c (ig_at l k), ig_c (ig_at l (k + 1))) (ig_c (ig_at l (k + 1)), ig_c (ig_at l (k + 2))) := by
      intro k hk
      rw [ic_meeting_next (ok _) (ok _) (ok _) (hz' _) (hz' _)] at hk
      exact gx_hd_next (ig_ne (hz' _)) (ig_ne (hz' _)) ((im_fold_iff (hz' _) (hz' _)).mp hk)
    by_cases c1 : j = i + 1
    · subst c1
      rw [if_pos (Or.inl rfl)] at hm
      exact nx i hm
    · by_cases c2 : i = 0 ∧ j = l.length - 1
      · rw [if_pos (Or.inr c2)] at hm
        obtain ⟨c2, c3⟩ := c2
        have e0 : ig_at l (j + 1) = ig_at l 0 := by
          have : j + 1 = 0 + l.length := by omega
          rw [this, ig_at_len]
        have e1 : ig_at l (j + 2) = ig_at l 1 := by
          have : j + 2 = 1 + l.length := by omega
          rw [this, ig_at_len]
        subst c2
        rw [ic_meeting_sym (ok _) (ok _) (ok _) (ok _) (hz' _) (hz' _)] at hm
        have := nx j
        rw [e0, e1] at this
        rw [e0] at hm ⊢
        exact gx_hd_symm (this hm)
      · rw [if_neg (by rintro (f | f); exact c1 f; exact c2 f)] at hm
        exact gx_hd_free ((ic_meeting_iff (ok _) (ok _) (ok _) (ok _) (hz' _) (hz' _)).mp hm)
  · intro s hs
    obtain ⟨i, hi, e⟩ := rgn_mem.mp hs
    rw [e]
    exact ig_ne (hz i hi)
