/-! counting round a ring: runs -/
def cntN (f : Nat → Bool) : Nat → Nat
  | 0 => 0
  | k + 1 => cntN f k + if f k then 1 else 0
theorem cntN_first (f : Nat → Bool) (n : Nat) : cntN f (n + 1) = (if f 0 then 1 else 0) + cntN (fun k => f (k + 1)) n := by
  induction n with
  | zero => simp [cntN]
  | succ n ih => rw [cntN, ih, cntN]; omega
theorem cntN_congr {f g : Nat → Bool} {n : Nat} (h : ∀ k, k < n → f k = g k) : cntN f n = cntN g n := by
  induction n with
  | zero => rfl
  | succ n ih => rw [cntN, cntN, ih (fun k hk => h k (by omega)), h n (by omega)]
theorem cntN_shift {f : Nat → Bool} {n : Nat} (h : ∀ k, f (k + n) = f k) (i : Nat) : cntN (fun k => f (i + k)) n = cntN f n := by
  induction i with
  | zero => exact cntN_congr (fun k _ => by rw [Nat.zero_add])
  | succ i ih =>
    have h1 := cntN_first (fun k => f (i + k)) n
    have h2 : cntN (fun k => f (i + k)) (n + 1) = cntN (fun k => f (i + k)) n + if f (i + n) then 1 else 0 := rfl
    rw [h] at h2
    have h3 : cntN (fun k => f (i + (k + 1))) n = cntN (fun k => f (i + 1 + k)) n := cntN_congr (fun k _ => by congr 1; omega)
    simp only [Nat.add_zero] at h1
    omega
theorem cntN_le (f : Nat → Bool) (n : Nat) : cntN f n ≤ n := by
  induction n with
  | zero => exact Nat.le_refl _
  | succ n ih => rw [cntN]; split <;> omega
theorem cntN_mono (f : Nat → Bool) {m n : Nat} (h : m ≤ n) : cntN f m ≤ cntN f n := by
  induction n with
  | zero => have : m = 0 := by omega
            subst this; exact Nat.le_refl _
  | succ n ih =>
    by_cases c : m = n + 1
    · subst c; exact Nat.le_refl _
    · have := ih (by omega)
      rw [cntN]; omega
theorem cntN_one {f : Nat → Bool} {n a b : Nat} (h : cntN f n = 1) (ha : a < n) (hb : b < n) (fa : f a = true) (fb : f b = true) : a = b := by
  have key : ∀ a b, a < b → b < n → f a = true → f b = true → False := by
    intro a b hab hb fa fb
    have h1 : cntN f (a + 1) = cntN f a + 1 := by rw [cntN, if_pos fa]
    have h2 : cntN f (b + 1) = cntN f b + 1 := by rw [cntN, if_pos fb]
    have h3 := cntN_mono f (show a + 1 ≤ b by omega)
    have h4 := cntN_mono f (show b + 1 ≤ n by omega)
    omega
  rcases Nat.lt_trichotomy a b with c | c | c
  · exact (key a b c hb fa fb).elim
  · exact c
  · exact (key b a c ha fb fa).elim
theorem cntN_pos {f : Nat → Bool} {n : Nat} (h : 0 < cntN f n) : ∃ k, k < n ∧ f k = true := by
  induction n with
  | zero => simp [cntN] at h
  | succ n ih =>
    by_cases c : f n = true
    · exact ⟨n, by omega, c⟩
    · rw [cntN, if_neg c] at h
      obtain ⟨k, hk, e⟩ := ih (by omega)
      exact ⟨k, by omega, e⟩
/-- as many runs begin as end -/
theorem cntN_runs {f : Nat → Bool} {n : Nat} (h : ∀ k, f (k + n) = f k) (hn : 0 < n) : cntN (fun k => f k && !f (k + n - 1)) n = cntN (fun k => f k && !f (k + 1)) n := by
  have e1 : cntN (fun k => f k && !f (k + 1)) n = cntN (fun k => f (n - 1 + k) && !f k) n := by
    rw [← cntN_shift (f := fun k => f k && !f (k + 1)) (n := n) (fun k => by simp only [h, show k + n + 1 = k + 1 + n by omega]) (n - 1)]
    refine cntN_congr (fun k _ => ?_)
    show (f (n - 1 + k) && !f (n - 1 + k + 1)) = _
    rw [show n - 1 + k + 1 = k + n by omega, h]
  have e2 := cntN_shift h (n - 1)
  rw [e1]
  have gen : ∀ m, cntN (fun k => f k && !f (k + n - 1)) m + cntN (fun k => f (n - 1 + k)) m = cntN (fun k => f (n - 1 + k) && !f k) m + cntN f m := by
    intro m
    induction m with
    | zero => rfl
    | succ m ih =>
      rw [cntN, cntN, cntN, cntN]
      rw [show m + n - 1 = n - 1 + m by omega]
      cases f m <;> cases f (n - 1 + m) <;> simp <;> omega
  have := gen n
  omega
theorem cntN_run1 {f : Nat → Bool} {n i s : Nat} (h : ∀ k, f (k + n) = f k) (hi : i < n) (h1 : cntN (fun k => f k && !f (k + n - 1)) n = 1) (hst : (f i && !f (i + n - 1)) = true) (hs : s = cntN f n) :
    0 < s ∧ s < n ∧ (∀ k, k < s → f (i + k) = true) ∧ ∀ k, s ≤ k → k < n → f (i + k) = false := by
  have hst' : f i = true ∧ f (i + n - 1) = false := by simpa using hst
  have anti : ∀ k, 0 < k → k < n → f (i + k) = true → f (i + k - 1) = true := by
    intro k k0 k1 fk
    refine Classical.byContradiction (fun g => ?_)
    have g : f (i + k - 1) = false := by simpa using g
    have hm : (i + k) % n < n := Nat.mod_lt _ (by omega)
    have hmod : ∀ x, f (x % n) = f x := by
      intro x
      have : ∀ q y, f (y + q * n) = f y := by
        intro q
        induction q with
        | zero => intro y; simp
        | succ q ih => intro y; rw [Nat.succ_mul, ← Nat.add_assoc, h, ih]
      conv => rhs; rw [← Nat.mod_add_div x n, Nat.mul_comm, this]
    have e1 : f ((i + k) % n) = true := by rw [hmod, fk]
    have e2 : f ((i + k) % n + n - 1) = false := by
      have : ((i + k) % n + n - 1) % n = (i + k - 1) % n := by
        rcases Nat.lt_or_ge (i + k) n with c | c
        · rw [Nat.mod_eq_of_lt c, show i + k + n - 1 = (i + k - 1) + n by omega, Nat.add_mod_right]
        · have e : (i + k) % n = i + k - n := by rw [Nat.mod_eq_sub_mod c, Nat.mod_eq_of_lt (by omega)]
          rw [e, show i + k - n + n - 1 = i + k - 1 by omega]
      rw [← hmod, this, hmod, g]
    have := cntN_one h1 hi hm hst (by simp [e1, e2])
    rcases Nat.lt_or_ge (i + k) n with c | c
    · rw [Nat.mod_eq_of_lt c] at this; omega
    · have e : (i + k) % n = i + k - n := by rw [Nat.mod_eq_sub_mod c, Nat.mod_eq_of_lt (by omega)]
      omega
  have gen : ∀ m, m ≤ n → ∃ s', s' ≤ m ∧ (∀ k, k < m → (f (i + k) = true ↔ k < s')) ∧ cntN (fun k => f (i + k)) m = s' := by
    intro m
    induction m with
    | zero => intro _; exact ⟨0, Nat.le_refl _, fun k hk => by omega, rfl⟩
    | succ m ih =>
      intro hm
      obtain ⟨s', a1, a2, a3⟩ := ih (by omega)
      by_cases c : f (i + m) = true
      · have e : s' = m := by
          by_cases m0 : m = 0
          · omega
          · have := anti m (by omega) (by omega) c
            rw [show i + m - 1 = i + (m - 1) by omega] at this
            have := (a2 (m - 1) (by omega)).mp this
            omega
        refine ⟨m + 1, Nat.le_refl _, fun k hk => ?_, ?_⟩
        · by_cases ck : k = m
          · subst ck; exact ⟨fun _ => by omega, fun _ => c⟩
          · rw [a2 k (by omega), e]; omega
        · rw [cntN, a3, if_pos c, e]
      · refine ⟨s', by omega, fun k hk => ?_, ?_⟩
        · by_cases ck : k = m
          · subst ck; exact ⟨fun g => absurd g c, fun g => by omega⟩
          · exact a2 k (by omega)
        · rw [cntN, a3, if_neg c, Nat.add_zero]
  obtain ⟨s', a1, a2, a3⟩ := gen n (Nat.le_refl _)
  rw [cntN_shift h, ← hs] at a3
  subst a3
  refine ⟨(a2 0 (by omega)).mp hst'.1, ?_, fun k hk => (a2 k (by omega)).mpr hk, fun k h1 h2 => ?_⟩
  · have : ¬ (n - 1 < s) := by
      intro g
      have := (a2 (n - 1) (by omega)).mpr g
      rw [show i + (n - 1) = i + n - 1 by omega, hst'.2] at this
      cases this
    omega
  · cases e : f (i + k) with
    | false => rfl
    | true => have := (a2 k h2).mp e; omega
theorem cntN_filter (f : Nat → Bool) (n : Nat) : ((List.range n).filter f).length = cntN f n := by
  induction n with
  | zero => rfl
  | succ n ih =>
    rw [List.range_succ, List.filter_append, List.length_append, ih, cntN]
    congr 1
    cases e : f n <;> simp [e]
