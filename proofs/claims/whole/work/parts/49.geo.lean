/-! twice the area has the ring's sense -/
def gx_S (f : Nat → Int) : Nat → Int
  | 0 => 0
  | n + 1 => gx_S f n + f n
theorem gx_S_add (f g : Nat → Int) (n : Nat) : gx_S (fun x => f x + g x) n = gx_S f n + gx_S g n := by
  induction n with
  | zero => rfl
  | succ n ih => simp only [gx_S, ih]; omega
theorem gx_S_ind (k : Int) (m n : Nat) (h : m ≤ n) : gx_S (fun x => if x < m then k else 0) n = k * m := by
  induction n with
  | zero => have : m = 0 := by omega
            subst this; simp [gx_S]
  | succ n ih =>
    simp only [gx_S]
    by_cases e : m ≤ n
    · rw [ih e, if_neg (by omega)]; omega
    · have : m = n + 1 := by omega
      subst this
      have h2 : ∀ j, j ≤ n → gx_S (fun x => if x < n + 1 then k else 0) j = k * j := by
        intro j hj
        induction j with
        | zero => simp [gx_S]
        | succ j ih2 => simp only [gx_S]; rw [ih2 (by omega), if_pos (by omega)]; grind
      rw [h2 n (by omega), if_pos (by omega)]; grind
theorem gx_S_pos (f : Nat → Int) (n : Nat) (h : ∀ x, x < n → 0 ≤ f x) : 0 ≤ gx_S f n := by
  induction n with
  | zero => simp [gx_S]
  | succ n ih => have := ih (fun x hx => h x (by omega)); have := h n (by omega); simp only [gx_S]; omega
theorem gx_S_pos1 (f : Nat → Int) (n k : Nat) (h : ∀ x, x < n → 0 ≤ f x) (hk : k < n) (h1 : 0 < f k) : 0 < gx_S f n := by
  induction n with
  | zero => omega
  | succ n ih =>
    simp only [gx_S]
    have h2 := h n (by omega)
    by_cases e : k = n
    · subst e; have := gx_S_pos f k (fun x hx => h x (by omega)); omega
    · have := ih (fun x hx => h x (by omega)) (by omega); omega
/-- signs and places: how many, by sign, are right of x -/
def gx_W : List (Int × Rat) → Rat → Int
  | [], _ => 0
  | p :: l, x => (if x < p.2 then p.1 else 0) + gx_W l x
def gx_M : List (Int × Rat) → Rat
  | [] => 0
  | p :: l => (p.1 : Rat) * p.2 + gx_M l
def gx_WN : List (Int × Nat) → Nat → Int
  | [], _ => 0
  | p :: l, x => (if x < p.2 then p.1 else 0) + gx_WN l x
def gx_MN : List (Int × Nat) → Int
  | [] => 0
  | p :: l => p.1 * p.2 + gx_MN l
theorem gx_layerN (l : List (Int × Nat)) (n : Nat) (h : ∀ p ∈ l, p.2 ≤ n) : gx_S (gx_WN l) n = gx_MN l := by
  induction l with
  | nil =>
    have : ∀ n, gx_S (gx_WN []) n = 0 := by intro n; induction n with
      | zero => rfl
      | succ n ih => show gx_S (gx_WN []) n + gx_WN [] n = 0; rw [ih]; rfl
    rw [this]; rfl
  | cons p l ih =>
    have h1 := ih (fun q hq => h q (List.mem_cons_of_mem _ hq))
    have h2 := gx_S_ind p.1 p.2 n (h p List.mem_cons_self)
    have h3 := gx_S_add (fun x => if x < p.2 then p.1 else 0) (gx_WN l) n
    have h4 : gx_WN (p :: l) = fun x => (if x < p.2 then p.1 else 0) + gx_WN l x := by funext x; rfl
    rw [h4, h3, h2, h1]; rfl
theorem gx_den (q : Rat) (h : 0 ≤ q) : ∃ D N : Nat, 0 < D ∧ q * D = N := by
  refine ⟨q.den, q.num.toNat, Nat.pos_of_ne_zero q.den_nz, ?_⟩
  have h1 : (q.num.toNat : Int) = q.num := Int.toNat_of_nonneg (Rat.num_nonneg.mpr h)
  have h2 : q = (q.num : Rat) / (q.den : Rat) := by rw [← Rat.mkRat_eq_div, Rat.mkRat_self]
  have h3 : (q.den : Rat) ≠ 0 := by have := q.den_nz; simpa using this
  have h4 : q * q.den = (q.num : Rat) := by
    have := Rat.div_mul_cancel (a := (q.num : Rat)) h3
    rw [← h2] at this; exact this
  have h5 : (q.num : Rat) = ((q.num.toNat : Int) : Rat) := by rw [h1]
  rw [h4, h5]; exact Rat.intCast_natCast _
theorem gx_dens (l : List Rat) (h : ∀ q ∈ l, 0 ≤ q) : ∃ D : Nat, 0 < D ∧ ∀ q ∈ l, ∃ N : Nat, q * D = N := by
  induction l with
  | nil => exact ⟨1, by omega, by simp⟩
  | cons q l ih =>
    obtain ⟨D, D0, hD⟩ := ih (fun p hp => h p (List.mem_cons_of_mem _ hp))
    obtain ⟨E, N, E0, hE⟩ := gx_den q (h q List.mem_cons_self)
    refine ⟨E * D, Nat.mul_pos E0 D0, ?_⟩
    intro p hp
    rcases List.mem_cons.mp hp with rfl | hp
    · refine ⟨N * D, ?_⟩
      have : ((E * D : Nat) : Rat) = (E : Rat) * D := by simp
      have h2 : ((N * D : Nat) : Rat) = (N : Rat) * D := by simp
      rw [this, h2]; grind
    · obtain ⟨M, hM⟩ := hD p hp
      refine ⟨M * E, ?_⟩
      have : ((E * D : Nat) : Rat) = (E : Rat) * D := by simp
      have h2 : ((M * E : Nat) : Rat) = (M : Rat) * E := by simp
      rw [this, h2]; grind
theorem gx_toN (l : List (Int × Rat)) (D : Nat) (D0 : 0 < D) (h : ∀ p ∈ l, ∃ N : Nat, p.2 * D = N) : ∃ m : List (Int × Nat), (∀ y : Nat, gx_WN m y = gx_W l ((y : Rat) / D)) ∧ gx_M l * D = ((gx_MN m : Int) : Rat) := by
  have hD : (0 : Rat) < D := by have := Rat.natCast_pos.mpr D0; exact this
  induction l with
  | nil => exact ⟨[], fun y => rfl, by simp [gx_M, gx_MN]⟩
  | cons p l ih =>
    obtain ⟨m, h1, h2⟩ := ih (fun q hq => h q (List.mem_cons_of_mem _ hq))
    obtain ⟨N, hN⟩ := h p List.mem_cons_self
    refine ⟨(p.1, N) :: m, ?_, ?_⟩
    · intro y
      have e : ((y : Rat) / D < p.2) ↔ y < N := by rw [Rat.div_lt_iff hD, hN]; exact Rat.natCast_lt_natCast
      simp only [gx_WN, gx_W, h1, e]
    · simp only [gx_M, gx_MN]
      rw [Rat.intCast_add, Rat.intCast_mul, ← h2]
      have : ((N : Int) : Rat) = p.2 * D := by rw [hN]; rfl
      rw [this]; grind
theorem gx_bdN (m : List (Int × Nat)) : ∃ n : Nat, ∀ p ∈ m, p.2 ≤ n := by
  induction m with
  | nil => exact ⟨0, by simp⟩
  | cons p m ih =>
    obtain ⟨n, hn⟩ := ih
    refine ⟨n + p.2, ?_⟩
    intro q hq
    rcases List.mem_cons.mp hq with rfl | hq
    · omega
    · have := hn q hq; omega
theorem gx_layer (l : List (Int × Rat)) (h0 : ∀ p ∈ l, 0 ≤ p.2) (hW : ∀ x, 0 ≤ gx_W l x) : 0 ≤ gx_M l ∧ ∀ x, 0 ≤ x → 0 < gx_W l x → 0 < gx_M l := by
  have key : ∀ x, 0 ≤ x → 0 ≤ gx_M l ∧ (0 < gx_W l x → 0 < gx_M l) := by
    intro x hx
    obtain ⟨D, D0, hD⟩ := gx_dens (x :: l.map (fun p => p.2)) (by
      intro q hq
      rcases List.mem_cons.mp hq with rfl | hq
      · exact hx
      · obtain ⟨p, hp, rfl⟩ := List.mem_map.mp hq; exact h0 p hp)
    have hD1 : (0 : Rat) < D := by have := Rat.natCast_pos.mpr D0; exact this
    obtain ⟨m, h1, h2⟩ := gx_toN l D D0 (fun p hp => hD p.2 (List.mem_cons_of_mem _ (List.mem_map.mpr ⟨p, hp, rfl⟩)))
    obtain ⟨X, hX⟩ := hD x List.mem_cons_self
    obtain ⟨n, hn⟩ := gx_bdN m
    have hl := gx_layerN m (n + X + 1) (fun p hp => by have := hn p hp; omega)
    have hxX : (X : Rat) / D = x := by rw [← hX]; exact Rat.mul_div_cancel (by grind)
    have hp1 := gx_S_pos (gx_WN m) (n + X + 1) (fun y _ => by rw [h1]; exact hW _)
    rw [hl] at hp1
    have hp2 : (0 : Rat) ≤ gx_M l * D := by rw [h2]; exact Rat.intCast_nonneg.mpr hp1
    refine ⟨?_, ?_⟩
    · by_cases e : 0 ≤ gx_M l
      · exact e
      · have := Rat.mul_pos (a := - gx_M l) (b := (D : Rat)) (by grind) hD1
        grind
    · intro hw
      have hp3 := gx_S_pos1 (gx_WN m) (n + X + 1) X (fun y _ => by rw [h1]; exact hW _) (by omega) (by rw [h1, hxX]; exact hw)
      rw [hl] at hp3
      have hp4 : (0 : Rat) < gx_M l * D := by rw [h2]; exact Rat.intCast_pos.mpr hp3
      by_cases e : 0 < gx_M l
      · exact e
      · have := Rat.mul_nonneg (a := - gx_M l) (b := (D : Rat)) (by grind) (by grind)
        grind
  exact ⟨(key 0 (by grind)).1, fun x hx => (key x hx).2⟩
