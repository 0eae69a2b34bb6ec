/-! twice the area, height by height -/
def gx_area : List ((Rat × Rat) × (Rat × Rat)) → Rat
  | [] => 0
  | s :: S => (s.1.1 * s.2.2 - s.1.2 * s.2.1) + gx_area S
def gx_lev (h : Rat) (s : (Rat × Rat) × (Rat × Rat)) : Int × Rat := if s.1.2 < h ∧ h < s.2.2 then (1, gx_x s h) else if s.2.2 < h ∧ h < s.1.2 then (-1, gx_x s h) else (0, 0)
def gx_Q (f : Nat → Rat) : Nat → Rat
  | 0 => 0
  | n + 1 => gx_Q f n + f n
theorem gx_Q_add (f g : Nat → Rat) (n : Nat) : gx_Q (fun x => f x + g x) n = gx_Q f n + gx_Q g n := by
  induction n with
  | zero => simp only [gx_Q]; grind
  | succ n ih => simp only [gx_Q, ih]; grind
theorem gx_Q_pos (f : Nat → Rat) (n : Nat) (h : ∀ x, x < n → 0 ≤ f x) : 0 ≤ gx_Q f n := by
  induction n with
  | zero => simp only [gx_Q]; grind
  | succ n ih => have := ih (fun x hx => h x (by omega)); have := h n (by omega); simp only [gx_Q]; grind
theorem gx_Q_pos1 (f : Nat → Rat) (n k : Nat) (h : ∀ x, x < n → 0 ≤ f x) (hk : k < n) (h1 : 0 < f k) : 0 < gx_Q f n := by
  induction n with
  | zero => omega
  | succ n ih =>
    simp only [gx_Q]
    have h2 := h n (by omega)
    by_cases e : k = n
    · subst e; have := gx_Q_pos f k (fun x hx => h x (by omega)); grind
    · have := ih (fun x hx => h x (by omega)) (by omega); grind
theorem gx_lev_W {S : List ((Rat × Rat) × (Rat × Rat))} {x h : Rat} (hg : ∀ s ∈ S, s.1.2 ≠ h ∧ s.2.2 ≠ h) : gx_W (S.map (gx_lev h)) x = gx_wn S (x, h) := by
  induction S with
  | nil => rfl
  | cons s S ih =>
    have h1 := ih (fun q hq => hg q (List.mem_cons_of_mem _ hq))
    have h3 := hg s List.mem_cons_self
    simp only [List.map_cons, gx_W, gx_wn, h1]
    congr 1
    unfold gx_lev gx_cr
    by_cases hne : s.1.2 = s.2.2
    · have n1 : ¬ (s.1.2 < h ∧ h < s.2.2) := by rw [hne]; intro k; grind
      have n2 : ¬ (s.2.2 < h ∧ h < s.1.2) := by rw [hne]; intro k; grind
      have n3 : ¬ (s.1.2 ≤ h ∧ h < s.2.2 ∧ 0 < gx_turn s.1 s.2 (x, h)) := by rw [hne]; intro k; have := k.1; have := k.2.1; grind
      have n4 : ¬ (s.2.2 ≤ h ∧ h < s.1.2 ∧ gx_turn s.1 s.2 (x, h) < 0) := by rw [hne]; intro k; have := k.1; have := k.2.1; grind
      rw [if_neg n1, if_neg n2]
      show (if x < 0 then (0 : Int) else 0) = if s.1.2 ≤ h ∧ h < s.2.2 ∧ 0 < gx_turn s.1 s.2 (x, h) then (1 : Int) else if s.2.2 ≤ h ∧ h < s.1.2 ∧ gx_turn s.1 s.2 (x, h) < 0 then -1 else 0
      rw [if_neg n3, if_neg n4]; split <;> rfl
    have ht := gx_turn_x (z := (x, h)) hne
    rw [ht]
    simp only
    rcases gx_tri s.1.2 s.2.2 with e | e | e
    · have := gx_sgn (k := s.2.2 - s.1.2) (v := gx_x s h - x) (by grind)
      grind
    · exact absurd e hne
    · have := gx_sgn (k := s.1.2 - s.2.2) (v := gx_x s h - x) (by grind)
      grind
/-- the sum of a rising side's places at the middles of the heights -/
theorem gx_rise (a1 b1 : Rat) (A B : Nat) (hAB : A < B) (n : Nat) (f : Nat → Rat) (hf : ∀ y : Nat, f y = if A ≤ y ∧ y < B then a1 + ((y : Rat) + 1/2 - A) / ((B : Rat) - A) * (b1 - a1) else 0) :
    gx_Q f n = if n ≤ A then 0 else if n ≤ B then ((n : Rat) - A) * a1 + (((n : Rat) - A) * ((n : Rat) - A)) / (2 * ((B : Rat) - A)) * (b1 - a1) else ((B : Rat) - A) * (a1 + b1) / 2 := by
  have hd : (A : Rat) < B := Rat.natCast_lt_natCast.mpr hAB
  have hd2 : (B : Rat) - A ≠ 0 := by grind
  induction n with
  | zero => rw [if_pos (by omega)]; rfl
  | succ n ih =>
    have hc : ((n + 1 : Nat) : Rat) = (n : Rat) + 1 := by simp
    simp only [gx_Q]
    rw [ih, hf n, hc]
    by_cases e1 : n < A
    · rw [if_pos (by omega), if_neg (by omega), if_pos (by omega)]; grind
    · by_cases e2 : n = A
      · subst e2
        rw [if_pos (by omega), if_pos (by omega), if_neg (by omega), if_pos (by omega)]; grind
      · by_cases e3 : n < B
        · rw [if_neg (by omega), if_pos (by omega), if_pos (by omega), if_neg (by omega), if_pos (by omega)]
          have hd3 : 2 * ((B : Rat) - A) ≠ 0 := by grind
          grind
        · by_cases e4 : n = B
          · subst e4
            rw [if_neg (by omega), if_pos (by omega), if_neg (by omega), if_neg (by omega), if_neg (by omega)]
            grind
          · rw [if_neg (by omega), if_neg (by omega), if_neg (by omega), if_neg (by omega), if_neg (by omega)]; grind
/-- a side's sum over all heights -/
theorem gx_side_sum {s : (Rat × Rat) × (Rat × Rat)} {A B n : Nat} (hA : s.1.2 = A) (hB : s.2.2 = B) (hn : A ≤ n ∧ B ≤ n) :
    gx_Q (fun y => ((gx_lev ((y : Rat) + 1/2) s).1 : Rat) * (gx_lev ((y : Rat) + 1/2) s).2) n = (s.1.1 + s.2.1) * (s.2.2 - s.1.2) / 2 := by
  have hy : ∀ (y K : Nat), (((K : Rat) < (y : Rat) + 1/2) ↔ K ≤ y) ∧ (((y : Rat) + 1/2 < (K : Rat)) ↔ y < K) := by
    intro y K
    have h1 : K ≤ y ↔ (K : Rat) ≤ y := Rat.natCast_le_natCast.symm
    have h2 : y + 1 ≤ K ↔ ((y + 1 : Nat) : Rat) ≤ K := Rat.natCast_le_natCast.symm
    have h3 : ((y + 1 : Nat) : Rat) = (y : Rat) + 1 := by simp
    rw [h3] at h2
    constructor
    · constructor
      · intro h
        by_cases e : K ≤ y
        · exact e
        · have := h2.mp (by omega); grind
      · intro h; have := h1.mp h; grind
    · constructor
      · intro h
        by_cases e : y < K
        · exact e
        · have := h1.mp (by omega); grind
      · intro h; have := h2.mp (by omega); grind
  rcases Nat.lt_trichotomy A B with e | e | e
  · rw [gx_rise s.1.1 s.2.1 A B e n _ (by
      intro y
      unfold gx_lev gx_x
      rw [hA, hB]
      by_cases k : A ≤ y ∧ y < B
      · rw [if_pos ⟨(hy y A).1.mpr k.1, (hy y B).2.mpr k.2⟩, if_pos k]; simp
      · rw [if_neg (fun j => k ⟨(hy y A).1.mp j.1, (hy y B).2.mp j.2⟩), if_neg k, if_neg (fun j => by have := (hy y B).1.mp j.1; have := (hy y A).2.mp j.2; omega)]; simp)]
    rw [hA, hB, if_neg (by omega)]
    split
    · have : n = B := by omega
      subst this
      have hd : (A : Rat) < n := Rat.natCast_lt_natCast.mpr e
      have hd3 : 2 * ((n : Rat) - A) ≠ 0 := by grind
      grind
    · grind
  · subst e
    have : ∀ m, gx_Q (fun y => ((gx_lev ((y : Rat) + 1/2) s).1 : Rat) * (gx_lev ((y : Rat) + 1/2) s).2) m = 0 := by
      intro m
      induction m with
      | zero => rfl
      | succ m ih =>
        simp only [gx_Q, ih]
        unfold gx_lev
        rw [hA, hB, if_neg (fun j => by have := (hy m A).1.mp j.1; have := (hy m A).2.mp j.2; omega), if_neg (fun j => by have := (hy m A).1.mp j.1; have := (hy m A).2.mp j.2; omega)]; simp; grind
    rw [this, hA, hB]; grind
  · have hneg : ∀ m, gx_Q (fun y => ((gx_lev ((y : Rat) + 1/2) s).1 : Rat) * (gx_lev ((y : Rat) + 1/2) s).2) m = - gx_Q (fun y => if B ≤ y ∧ y < A then s.2.1 + ((y : Rat) + 1/2 - B) / ((A : Rat) - B) * (s.1.1 - s.2.1) else 0) m := by
      intro m
      have hd : (B : Rat) < A := Rat.natCast_lt_natCast.mpr e
      have hd1 : (A : Rat) - B ≠ 0 := by grind
      have hd2 : (B : Rat) - A ≠ 0 := by grind
      induction m with
      | zero => simp only [gx_Q]; grind
      | succ m ih =>
        simp only [gx_Q, ih]
        unfold gx_lev gx_x
        rw [hA, hB, if_neg (fun j => by have := (hy m A).1.mp j.1; have := (hy m B).2.mp j.2; omega)]
        by_cases k : B ≤ m ∧ m < A
        · rw [if_pos ⟨(hy m B).1.mpr k.1, (hy m A).2.mpr k.2⟩, if_pos k]
          have hm1 : (((-1 : Int)) : Rat) = -1 := by rfl
          simp only [hm1]; grind
        · rw [if_neg (fun j => k ⟨(hy m B).1.mp j.1, (hy m A).2.mp j.2⟩), if_neg k]; simp; grind
    rw [hneg, gx_rise s.2.1 s.1.1 B A e n _ (fun y => rfl), hA, hB, if_neg (by omega)]
    split
    · have : n = A := by omega
      subst this
      have hd : (B : Rat) < n := Rat.natCast_lt_natCast.mpr e
      have hd3 : 2 * ((n : Rat) - B) ≠ 0 := by grind
      grind
    · grind
