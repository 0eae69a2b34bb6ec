/-! THE REGISTER'S SENSE -/
section WFD
variable {R R' : AR}
/-- parents, and who ended -/
def WP (R : AR) : Prop := (∀ l, 1 ≤ l → l ≤ R.1 7 0 → (R.1 11 l = 0 → R.1 14 l = 0) ∧ (R.1 11 l ≠ 0 → 1 ≤ R.1 13 l ∧ (R.1 14 l ≠ 0 → R.1 13 l < R.1 14 l) ∧ (R.1 16 (R.1 11 l) = 1 ∨ R.1 16 (R.1 11 l) = 2) ∧ ∀ l', 1 ≤ l' → l' ≤ R.1 7 0 → (R.1 12 l' = R.1 11 l ↔ l' = R.1 13 l ∨ (R.1 14 l ≠ 0 ∧ l' = R.1 14 l)))) ∧
  ∀ l, 1 ≤ l → l ≤ R.1 7 0 → R.1 12 l ≠ 0 → ∃ l', 1 ≤ l' ∧ l' ≤ R.1 7 0 ∧ R.1 11 l' = R.1 12 l
/-- nothing names a lot behind its end -/
def WO (R : AR) : Prop := ∀ l, 1 ≤ l → l ≤ R.1 7 0 → R.1 12 l ≠ 0 → l ∈ aNm R (R.1 12 l) ∧ ∀ d, 1 ≤ d → d ≤ R.1 15 0 → l ∈ aNm R d → d ≤ R.1 12 l ∧ R.1 17 d ≤ R.1 17 (R.1 12 l)
def WQ (R : AR) : Prop := (∀ d, 1 ≤ d → d ≤ R.1 15 0 → ∀ l, l ∈ aNm R d → R.1 11 l = 0 ∨ (R.1 11 l < d ∧ R.1 17 (R.1 11 l) ≤ R.1 17 d)) ∧ (∀ e, 1 ≤ e → e ≤ R.1 25 0 → R.1 28 e ∈ aNm R (R.1 26 e)) ∧ ∀ d, 1 ≤ d → d ≤ R.1 15 0 → R.1 16 d = 5 → R.1 26 (R.1 18 d) < d
def WSh (R : AR) : Prop := ∀ l, 1 ≤ l → l ≤ R.1 7 0 → (R.1 11 l = 0 → ∀ p, aSh R l p = if p = 0 then 5040 else 0) ∧ (R.1 11 l ≠ 0 → ∀ p, p < 100 → aSh R l p = aSh R (R.1 13 l) p + oN R (R.1 13 l) p (R.1 17 (R.1 11 l)) (R.1 11 l) (R.1 15 0)) ∧ gx_S (aSh R l) 100 = 5040 ∧ ∀ p day ent, p < 100 → 0 ≤ aShare R l p day ent
/-- lots in being together don't overlap -/
def WX (R : AR) : Prop := ∀ l l' day ent, 1 ≤ l → l ≤ R.1 7 0 → 1 ≤ l' → l' ≤ R.1 7 0 → l ≠ l' → aB R l day ent → aB R l' day ent → ∀ z, gx_wn (rgn (aRing R l)) z + gx_wn (rgn (aRing R l')) z ≤ 1
/-- a released easement -/
def WE (R : AR) : Prop := ∀ e, 1 ≤ e → e ≤ R.1 25 0 → R.1 27 e ≠ 0 → ∀ l, 1 ≤ l → l ≤ R.1 7 0 → aIh R e l = true → l ∈ aNm R (R.1 27 e) ∨ (R.1 12 l ≠ 0 ∧ R.1 12 l < R.1 27 e ∧ R.1 17 (R.1 12 l) ≤ R.1 17 (R.1 27 e))
def wEnd (R : AR) (d : Nat) : Nat := if d = 0 then 0 else R.1 24 d
def nlt (R : AR) (d : Nat) : Nat := if d = 0 then 1 else R.1 22 d
def net (R : AR) (d : Nat) : Nat := if d = 0 then 0 else R.1 23 d
def bdOK (R : AR) (d : Nat) (b : List Int) : Prop := (2 ≤ b.length ∧ b.length ≤ 40) ∧ (∀ w ∈ b, 0 ≤ w ∧ w ≤ 700000000) ∧ b.getD 0 0 % 65536 = b.length ∧ R.1 24 d = wEnd R (d - 1) + b.length + 2 ∧ ∀ i, i < b.length + 2 → aLg R (wEnd R (d - 1) + i) = (wrec b).getD i 0
/-- the log -/
def WL (R : AR) : Prop := (∃ bd : Nat → List Int, ∀ d, 1 ≤ d → d ≤ R.1 15 0 → bdOK R d (bd d)) ∧ R.1 30 0 ≤ wEnd R (R.1 15 0) ∧ (R.1 2 0 = 0 → R.1 30 0 = wEnd R (R.1 15 0))
/-- how many there were -/
def WC (R : AR) : Prop := (R.1 7 0 = 0 → R.1 15 0 = 0 ∧ R.1 25 0 = 0 ∧ R.1 30 0 = 0 ∧ R.1 2 0 = 0) ∧ (1 ≤ R.1 7 0 → ∀ d, d ≤ R.1 15 0 → (1 ≤ nlt R d ∧ nlt R d ≤ R.1 7 0 ∧ net R d ≤ R.1 25 0) ∧ (∀ l, 1 ≤ l → l ≤ R.1 7 0 → (R.1 11 l ≤ d ↔ l ≤ nlt R d)) ∧ ∀ e, 1 ≤ e → e ≤ R.1 25 0 → (R.1 26 e ≤ d ↔ e ≤ net R d))
def WF (R : AR) : Prop := WR R ∧ WI R ∧ WN R ∧ WNl R ∧ WT R ∧ WP R ∧ WO R ∧ WQ R ∧ WSh R ∧ WX R ∧ WE R ∧ WL R ∧ WC R
theorem WF.r (h : WF R) : WR R := h.1
theorem WF.i (h : WF R) : WI R := h.2.1
theorem WF.n (h : WF R) : WN R := h.2.2.1
theorem WF.nl (h : WF R) : WNl R := h.2.2.2.1
theorem WF.t (h : WF R) : WT R := h.2.2.2.2.1
theorem WF.p (h : WF R) : WP R := h.2.2.2.2.2.1
theorem WF.o (h : WF R) : WO R := h.2.2.2.2.2.2.1
theorem WF.q (h : WF R) : WQ R := h.2.2.2.2.2.2.2.1
theorem WF.sh (h : WF R) : WSh R := h.2.2.2.2.2.2.2.2.1
theorem WF.x (h : WF R) : WX R := h.2.2.2.2.2.2.2.2.2.1
theorem WF.e (h : WF R) : WE R := h.2.2.2.2.2.2.2.2.2.2.1
theorem WF.l (h : WF R) : WL R := h.2.2.2.2.2.2.2.2.2.2.2.1
theorem WF.c (h : WF R) : WC R := h.2.2.2.2.2.2.2.2.2.2.2.2
theorem WF.dl (h : WF R) {l : Nat} (a : 1 ≤ l) (b : l ≤ R.1 7 0) : R.1 11 l ≤ R.1 15 0 ∧ R.1 12 l ≤ R.1 15 0 ∧ R.1 13 l < l ∧ R.1 14 l < l ∧ (R.1 11 l = 0 ↔ R.1 13 l = 0) := (h.1.2.2.1 l a b).2
theorem oN_congr {R R' : AR} {l l' p : Nat} {y y' e e' : Int} {n : Nat} (h : ∀ d, 1 ≤ d → d ≤ n → oT R l p y e d = oT R' l' p y' e' d) : oN R l p y e n = oN R' l' p y' e' n := by
  induction n with
  | zero => rfl
  | succ n ih =>
    show oN R l p y e n + oT R l p y e (n + 1) = oN R' l' p y' e' n + oT R' l' p y' e' (n + 1)
    rw [ih (fun d a b => h d a (by omega)), h (n + 1) (by omega) (Nat.le_refl _)]
theorem oN_zero {l p : Nat} {y e : Int} {n : Nat} (h : ∀ d, 1 ≤ d → d ≤ n → oT R l p y e d = 0) : oN R l p y e n = 0 := by
  induction n with
  | zero => rfl
  | succ n ih =>
    show oN R l p y e n + oT R l p y e (n + 1) = 0
    rw [ih (fun d a b => h d a (by omega)), h (n + 1) (by omega) (Nat.le_refl _)]; rfl
/-- transfers of a lot: in force alike -/
theorem oT_force {l p d : Nat} {y e y' e' : Int} (h : R.1 16 d = 3 → R.1 18 d = l → (aF R d y e ↔ aF R d y' e')) : oT R l p y e d = oT R l p y' e' d := by
  unfold oT
  by_cases c : R.1 16 d = 3 ∧ R.1 18 d = l
  · have := h c.1 c.2
    by_cases q : aF R d y e
    · rw [if_pos (show R.1 16 d = 3 ∧ R.1 18 d = l ∧ aF R d y e from ⟨c.1, c.2, q⟩), if_pos (show R.1 16 d = 3 ∧ R.1 18 d = l ∧ aF R d y' e' from ⟨c.1, c.2, this.mp q⟩)]
    · rw [if_neg (fun f => q f.2.2), if_neg (fun f => q (this.mpr f.2.2))]
  · rw [if_neg (fun f => c ⟨f.1, f.2.1⟩), if_neg (fun f => c ⟨f.1, f.2.1⟩)]
theorem oT_not {l p d : Nat} {y e : Int} (h : ¬ (R.1 16 d = 3 ∧ R.1 18 d = l ∧ aF R d y e)) : oT R l p y e d = 0 := by
  unfold oT; rw [if_neg h]
theorem gx_S_one (c : Int) (m n : Nat) (h : m < n) : gx_S (fun x => if m = x then c else 0) n = c := by
  induction n with
  | zero => omega
  | succ n ih =>
    show gx_S _ n + (if m = n then c else 0) = c
    by_cases e : m = n
    · rw [if_pos e]
      have : gx_S (fun x => if m = x then c else 0) n = gx_S (fun _ => 0) n := gx_S_congr (fun k hk => if_neg (by omega))
      rw [this]
      have z : ∀ j, gx_S (fun _ => (0 : Int)) j = 0 := by
        intro j; induction j with
        | zero => rfl
        | succ j ih => show gx_S _ j + 0 = 0; rw [ih]; rfl
      rw [z]; omega
    · rw [if_neg e, ih (by omega)]; omega
theorem gx_S_zero (n : Nat) : gx_S (fun _ => (0 : Int)) n = 0 := by
  induction n with
  | zero => rfl
  | succ j ih => show gx_S _ j + 0 = 0; rw [ih]; rfl
theorem gx_S_sub (f g : Nat → Int) (n : Nat) : gx_S (fun x => f x - g x) n = gx_S f n - gx_S g n := by
  induction n with
  | zero => rfl
  | succ n ih => show gx_S _ n + (f n - g n) = gx_S f n + f n - (gx_S g n + g n); rw [ih]; omega
theorem oT_sum (wt : WT R) {l d : Nat} {y e : Int} (h1 : 1 ≤ d) (h2 : d ≤ R.1 15 0) : gx_S (fun p => oT R l p y e d) 100 = 0 := by
  by_cases c : R.1 16 d = 3 ∧ R.1 18 d = l ∧ aF R d y e
  · have t := wt d h1 h2 c.1
    have : (fun p => oT R l p y e d) = fun p => (if R.1 20 d = p then (R.1 21 d : Int) else 0) - (if R.1 19 d = p then (R.1 21 d : Int) else 0) := by
      funext p; unfold oT; rw [if_pos c]
    rw [this, gx_S_sub, gx_S_one _ _ _ t.2, gx_S_one _ _ _ t.1]; omega
  · have : (fun p => oT R l p y e d) = fun _ => 0 := by funext p; exact oT_not c
    rw [this, gx_S_zero]
theorem oN_sum (wt : WT R) {l : Nat} {y e : Int} : ∀ n, n ≤ R.1 15 0 → gx_S (fun p => oN R l p y e n) 100 = 0 := by
  intro n
  induction n with
  | zero => intro _; exact gx_S_zero 100
  | succ n ih =>
    intro h
    have : (fun p => oN R l p y e (n + 1)) = fun p => oN R l p y e n + oT R l p y e (n + 1) := rfl
    rw [this, gx_S_add, ih (by omega), oT_sum wt (by omega) h]; rfl
theorem aShare_sum (h : WF R) {l : Nat} {y e : Int} (h1 : 1 ≤ l) (h2 : l ≤ R.1 7 0) : gx_S (fun p => aShare R l p y e) 100 = 5040 := by
  have : (fun p => aShare R l p y e) = fun p => aSh R l p + oN R l p y e (R.1 15 0) := rfl
  rw [this, gx_S_add, oN_sum h.t _ (Nat.le_refl _)]
  have := (h.sh l h1 h2).2.2.1
  rw [this]; rfl
theorem gx_S_le {f : Nat → Int} {n k : Nat} (h : ∀ x, x < n → 0 ≤ f x) (hk : k < n) : f k ≤ gx_S f n := by
  induction n with
  | zero => omega
  | succ n ih =>
    show f k ≤ gx_S f n + f n
    have h2 := h n (by omega)
    by_cases e : k = n
    · subst e; have := gx_S_pos f k (fun x hx => h x (by omega)); omega
    · have := ih (fun x hx => h x (by omega)) (by omega); omega
theorem aShare_bd (h : WF R) {l p : Nat} {y e : Int} (h1 : 1 ≤ l) (h2 : l ≤ R.1 7 0) (hp : p < 100) : 0 ≤ aShare R l p y e ∧ aShare R l p y e ≤ 5040 := by
  have s := (h.sh l h1 h2).2.2.2
  refine ⟨s p y e hp, ?_⟩
  have := gx_S_le (f := fun p => aShare R l p y e) (n := 100) (fun x hx => s x y e hx) hp
  rw [aShare_sum h h1 h2] at this
  exact this
theorem WF.sb (h : WF R) : WSb R := by
  intro l p day ent h1 h2 hp
  have := aShare_bd (y := day) (e := ent) h h1 h2 hp
  unfold inR; omega
theorem WF.trn (h : WF R) {d : Nat} (h1 : 1 ≤ d) (h2 : d ≤ R.1 15 0) (hk : R.1 16 d = 3) : R.1 18 d ∈ aNm R d := by
  rw [(h.nl d h1 h2).2.2.1 (Or.inr hk)]; exact List.mem_singleton.mpr rfl
theorem WF.sa (h : WF R) : WSa R := by
  intro l h1 h2
  obtain ⟨s0, s1, _, _⟩ := h.sh l h1 h2
  refine ⟨s0, fun c day ent hf => ?_⟩
  have dl := h.dl h1 h2
  obtain ⟨pp, _, _, pe⟩ := (h.p.1 l h1 h2).2 c
  have al : R.1 13 l ≤ R.1 7 0 := by omega
  have ea : R.1 12 (R.1 13 l) = R.1 11 l := (pe (R.1 13 l) pp al).mpr (Or.inl rfl)
  obtain ⟨o1, o2⟩ := h.o (R.1 13 l) pp al (by omega)
  rw [ea] at o1 o2
  constructor
  · rcases h.q.1 (R.1 11 l) (by omega) dl.1 _ o1 with q | q
    · exact Or.inl q
    · refine Or.inr ⟨?_, ?_⟩
      · have := hf.1; omega
      · have := hf.2; omega
  · intro p hp
    rw [s1 c p hp]
    refine congrArg (fun v => aSh R (R.1 13 l) p + v) (oN_congr (fun d d1 d2 => oT_force (fun k1 k2 => ?_)))
    have nm := h.trn d1 d2 k1
    rw [k2] at nm
    have := o2 d d1 d2 nm
    refine ⟨fun _ => ⟨?_, ?_⟩, fun _ => ⟨?_, ?_⟩⟩
    · have := hf.1; omega
    · have := hf.2; omega
    · omega
    · omega
theorem rgn_le1 {l : List PT} (h : gx_simple (rgn l)) (hw : ∀ z, 0 ≤ gx_wn (rgn l) z) (h0 : l ≠ []) (z : Rat × Rat) : gx_wn (rgn l) z ≤ 1 := by
  have n0 : rgn l ≠ [] := by
    intro k
    have := rgn_len l
    rw [k] at this
    exact h0 (List.length_eq_zero_iff.mp this.symm)
  rcases gx_01 h (gx_ccw h n0 hw) z with k | k <;> omega
/-- the lots that an easement has come to, as of a day -/
theorem WF.reach (h : WF R) {e : Nat} {r : Int} (e1 : 1 ≤ e) (e2 : e ≤ R.1 25 0) (hs : aS R e r (R.1 15 0)) (hn : ∀ x, 1 ≤ x → x ≤ R.1 7 0 → aBu R e x r (R.1 15 0) → ¬ aLate R x r) : ∀ n l, l < n → 1 ≤ l → l ≤ R.1 7 0 → aIh R e l = true → aB R l r (R.1 15 0) ∨ (R.1 12 l ≠ 0 ∧ (R.1 17 (R.1 12 l) : Int) ≤ r) := by
  intro n
  induction n with
  | zero => intro l hl; omega
  | succ n ih =>
    intro l hl l1 l2 hi
    have dl := h.dl l1 l2
    have fin : (R.1 11 l = 0 ∨ (R.1 17 (R.1 11 l) : Int) ≤ r) → aB R l r (R.1 15 0) ∨ (R.1 12 l ≠ 0 ∧ (R.1 17 (R.1 12 l) : Int) ≤ r) := by
      intro q
      by_cases c : R.1 12 l ≠ 0 ∧ (R.1 17 (R.1 12 l) : Int) ≤ r
      · exact Or.inr c
      · refine Or.inl ⟨q.imp (fun a => a) (fun a => ⟨a, by omega⟩), fun f => c ⟨f.1, f.2.1⟩⟩
    rcases (h.i e l e1 e2 l1 l2).mp hi with q | ⟨q1, q2, q3⟩
    · refine fin ?_
      have m := h.q.2.1 e e1 e2
      have we := h.r.2.2.2.2.1 e e1 e2
      rw [← q] at m
      rcases h.q.1 _ we.1.1 we.1.2 l m with k | k
      · exact Or.inl k
      · right; have := hs.1.1; omega
    · obtain ⟨pp, plt, _, pe⟩ := (h.p.1 l l1 l2).2 q1
      have hA : ∃ A, 1 ≤ A ∧ A < l ∧ aIh R e A = true ∧ R.1 12 A = R.1 11 l := by
        rcases q3 with q3 | ⟨q3, q4⟩
        · exact ⟨R.1 13 l, pp, dl.2.2.1, q3, (pe _ pp (by omega)).mpr (Or.inl rfl)⟩
        · exact ⟨R.1 14 l, by omega, dl.2.2.2.1, q4, (pe _ (by omega) (by omega)).mpr (Or.inr ⟨q3, rfl⟩)⟩
      obtain ⟨A, a1, a2, a3, a4⟩ := hA
      rcases ih A (by omega) a1 (by omega) a3 with k | k
      · exfalso
        have kb := k.2
        rw [a4] at kb
        have hlt : ¬ (R.1 17 (R.1 11 l) : Int) ≤ r := fun f => kb ⟨q1, f, by omega⟩
        refine hn A a1 (by omega) ⟨a3, hs, k⟩ ⟨R.1 11 l, by omega, dl.1, by omega, ?_⟩
        have := (h.o A a1 (by omega) (by omega)).1
        rw [a4] at this; exact this
      · rw [a4] at k
        exact fin (Or.inr k.2)
/-- one of them is in being while the easement stands -/
theorem WF.some (h : WF R) {e : Nat} {y : Int} (e1 : 1 ≤ e) (e2 : e ≤ R.1 25 0) (hq : y < (R.1 17 (R.1 27 e) : Int)) : ∀ n l, R.1 7 0 - l < n → 1 ≤ l → l ≤ R.1 7 0 → aIh R e l = true → (R.1 11 l = 0 ∨ (R.1 17 (R.1 11 l) : Int) ≤ y) → ∃ x, 1 ≤ x ∧ x ≤ R.1 7 0 ∧ aIh R e x = true ∧ aB R x y (R.1 15 0) := by
  intro n
  induction n with
  | zero => intro l hl; omega
  | succ n ih =>
    intro l hl l1 l2 hi hb
    have dl := h.dl l1 l2
    by_cases c : R.1 12 l ≠ 0 ∧ (R.1 17 (R.1 12 l) : Int) ≤ y
    · obtain ⟨x, x1, x2, x3⟩ := h.p.2 l l1 l2 c.1
      have dx := h.dl x1 x2
      obtain ⟨pp, plt, _, pe⟩ := (h.p.1 x x1 x2).2 (by omega)
      have hl' := (pe l l1 l2).mp x3.symm
      have hlt : l < x := by rcases hl' with q | q <;> omega
      have o := h.o l l1 l2 c.1
      have gr : R.1 26 e ≤ R.1 12 l ∧ R.1 17 (R.1 26 e) ≤ R.1 17 (R.1 12 l) := by
        have we := h.r.2.2.2.2.1 e e1 e2
        rcases (h.i e l e1 e2 l1 l2).mp hi with q | ⟨q1, q2, q3⟩
        · have m := h.q.2.1 e e1 e2
          rw [← q] at m
          exact o.2 _ we.1.1 we.1.2 m
        · have n1 := h.q.1 (R.1 12 l) (by omega) dl.2.1 l o.1
          have f := q2.1
          unfold aF at f
          omega
      refine ih x (by omega) x1 x2 ((h.i e x e1 e2 x1 x2).mpr (Or.inr ⟨by omega, ?_, ?_⟩)) (Or.inr (by rw [x3]; exact c.2))
      · rw [x3]
        refine ⟨⟨by omega, by omega⟩, fun f => ?_⟩
        have := f.2.1; omega
      · rcases hl' with q | ⟨q1, q2⟩
        · exact Or.inl (by rw [← q]; exact hi)
        · exact Or.inr ⟨q1, by rw [← q2]; exact hi⟩
    · exact ⟨l, l1, l2, hi, hb.imp (fun a => a) (fun a => ⟨a, by omega⟩), fun f => c ⟨f.1, f.2.1⟩⟩
/-- no easement is released twice -/
theorem WF.once (h : WF R) {e : Nat} {y : Int} (e1 : 1 ≤ e) (e2 : e ≤ R.1 25 0) (hs : aS R e y (R.1 15 0)) (hn : ∀ x, 1 ≤ x → x ≤ R.1 7 0 → aBu R e x y (R.1 15 0) → ¬ aLate R x y) : R.1 27 e = 0 := by
  refine Classical.byContradiction fun c => ?_
  have we := h.r.2.2.2.2.1 e e1 e2
  have hq : y < (R.1 17 (R.1 27 e) : Int) := by
    have : ¬ (R.1 17 (R.1 27 e) : Int) ≤ y := fun f => hs.2 ⟨c, f, by omega⟩
    omega
  have l1 := we.2.2.1
  have l2 := we.2.2.2
  have hb : R.1 11 (R.1 28 e) = 0 ∨ (R.1 17 (R.1 11 (R.1 28 e)) : Int) ≤ y := by
    rcases h.q.1 _ we.1.1 we.1.2 _ (h.q.2.1 e e1 e2) with k | k
    · exact Or.inl k
    · right; have := hs.1.1; omega
  obtain ⟨x, x1, x2, x3, x4⟩ := h.some e1 e2 hq _ _ (Nat.lt_succ_self _) l1 l2 ((h.i e _ e1 e2 l1 l2).mpr (Or.inl rfl)) hb
  refine hn x x1 x2 ⟨x3, hs, x4⟩ ?_
  rcases h.e e e1 e2 c x x1 x2 x3 with k | k
  · exact ⟨_, by omega, we.2.1, hq, k⟩
  · have dx := h.dl x1 x2
    have : ¬ (R.1 17 (R.1 12 x) : Int) ≤ y := fun f => x4.2 ⟨k.1, f, by omega⟩
    exact ⟨R.1 12 x, by omega, dx.2.1, by omega, (h.o x x1 x2 k.1).1⟩
end WFD
