/-! THE REFINED RING: the other's corners that lie on it made corners -/
theorem nodup_len {α : Type} [DecidableEq α] {l m : List α} (h : l.Nodup) (hs : ∀ x ∈ l, x ∈ m) : l.length ≤ m.length := by
  induction l generalizing m with
  | nil => simp
  | cons a l ih =>
    rw [List.nodup_cons] at h
    have ha := hs a (by simp)
    have := ih (m := m.erase a) h.2 (fun x hx => by
      have hne : x ≠ a := by intro e; rw [e] at hx; exact h.1 hx
      exact (List.mem_erase_of_ne hne).mpr (hs x (by simp [hx])))
    rw [List.length_erase_of_mem ha] at this
    have : 0 < m.length := List.length_pos_of_mem ha
    simp; omega
def ig_near (O : List PT) (x b : PT) : PT := O.foldl (fun nr c => if c ≠ x ∧ im_on x nr c = true then c else nr) b
def ig_rs (O : List PT) : Nat → PT → PT → List PT
  | 0, _, _ => []
  | n + 1, x, b => if x = b then [] else x :: ig_rs O n (ig_near O x b) b
def ig_refine (A O : List PT) : List PT := (List.range A.length).flatMap (fun i => ig_rs O (O.length + 1) (ig_at A i) (ig_at A (i + 1)))
/-- strictly within the side from x to b -/
def ig_ins (x b c : PT) : Prop := ∃ w : Rat, 0 < w ∧ w < 1 ∧ ig_c c = gx_at (ig_c x) (ig_c b) w
theorem ig_near_gen (x b : PT) (hxb : x ≠ b) (O : List PT) : ∀ (nr : PT) (u : Rat), 0 < u → u ≤ 1 → ig_c nr = gx_at (ig_c x) (ig_c b) u →
    ∃ v : Rat, 0 < v ∧ v ≤ u ∧ ig_c (O.foldl (fun nr c => if c ≠ x ∧ im_on x nr c = true then c else nr) nr) = gx_at (ig_c x) (ig_c b) v ∧ (O.foldl (fun nr c => if c ≠ x ∧ im_on x nr c = true then c else nr) nr = nr ∨ O.foldl (fun nr c => if c ≠ x ∧ im_on x nr c = true then c else nr) nr ∈ O) ∧ ∀ c ∈ O, ∀ w : Rat, 0 < w → w ≤ u → ig_c c = gx_at (ig_c x) (ig_c b) w → v ≤ w := by
  have hn := ig_ne hxb
  induction O with
  | nil => intro nr u u0 u1 e; exact ⟨u, u0, by grind, e, Or.inl rfl, fun c hc => by simp at hc⟩
  | cons c O ih =>
    intro nr u u0 u1 e
    rw [List.foldl_cons]
    by_cases k : c ≠ x ∧ im_on x nr c = true
    · rw [if_pos k]
      obtain ⟨w', w0, w1, ew⟩ := (im_on_iff _ _ _).mp k.2
      rw [gx_sub1 e] at ew
      have hw : w' ≠ 0 := by
        intro f
        rw [f, Rat.zero_mul, gx_at0] at ew
        exact k.1 (ig_c_inj.mp ew.symm)
      have p1 : 0 < w' * u := Rat.mul_pos (by grind) u0
      have p2 : w' * u ≤ u := by
        have := Rat.mul_nonneg (show 0 ≤ 1 - w' by grind) (Rat.le_of_lt u0)
        grind
      obtain ⟨v, v0, v1, v2, v3, v4⟩ := ih c (w' * u) p1 (by grind) ew.symm
      refine ⟨v, v0, by grind, v2, ?_, ?_⟩
      · rcases v3 with f | f
        · right; rw [f]; simp
        · right; simp [f]
      · intro d hd w w0 w1 ed
        rcases List.mem_cons.mp hd with f | f
        · rw [f] at ed
          have := gx_at_inj hn (ed.symm.trans ew.symm)
          grind
        · by_cases g : w ≤ w' * u
          · exact v4 d f w w0 g ed
          · grind
    · rw [if_neg k]
      obtain ⟨v, v0, v1, v2, v3, v4⟩ := ih nr u u0 u1 e
      refine ⟨v, v0, v1, v2, ?_, ?_⟩
      · rcases v3 with f | f
        · exact Or.inl f
        · right; simp [f]
      · intro d hd w w0 w1 ed
        rcases List.mem_cons.mp hd with f | f
        · exfalso
          apply k
          rw [f] at ed
          refine ⟨fun g => ?_, (im_on_iff _ _ _).mpr ⟨w / u, ?_, ?_, ?_⟩⟩
          · rw [g] at ed
            have := gx_at_inj hn ((gx_at0 _ _).trans ed)
            grind
          · exact (gx_divle (Rat.le_of_lt w0) w1 u0).1
          · exact (gx_divle (Rat.le_of_lt w0) w1 u0).2
          · rw [gx_sub1 e, Rat.div_mul_cancel (by grind)]; exact ed.symm
        · exact v4 d f w w0 w1 ed
theorem ig_near_spec {x b : PT} (hxb : x ≠ b) (O : List PT) : ∃ v : Rat, 0 < v ∧ v ≤ 1 ∧ ig_c (ig_near O x b) = gx_at (ig_c x) (ig_c b) v ∧ (ig_near O x b = b ∨ ig_near O x b ∈ O) ∧ ∀ c ∈ O, ∀ w : Rat, 0 < w → w ≤ 1 → ig_c c = gx_at (ig_c x) (ig_c b) w → v ≤ w :=
  ig_near_gen x b hxb O b 1 (by grind) (by grind) (gx_at1 _ _).symm
theorem countP_lt {O : List PT} {P Q : PT → Bool} (h : ∀ c ∈ O, P c = true → Q c = true) {d : PT} (hd : d ∈ O) (h1 : Q d = true) (h2 : P d = false) : O.countP P < O.countP Q := by
  induction O with
  | nil => simp at hd
  | cons c O ih =>
    rw [List.countP_cons, List.countP_cons]
    have hle : O.countP P ≤ O.countP Q := List.countP_mono_left (fun c hc => h c (by simp [hc]))
    rcases List.mem_cons.mp hd with f | f
    · subst f
      rw [h1, h2]; simp; omega
    · have := ih (fun c hc => h c (by simp [hc])) f
      have hc := h c (by simp)
      cases e1 : P c <;> cases e2 : Q c <;> simp <;> first | omega | (rw [e1, e2] at hc; simp at hc)
def ig_cnt (O : List PT) (x b : PT) : Nat := O.countP (fun c => im_on x b c && decide (c ≠ x) && decide (c ≠ b))
theorem ig_cnt_le (O : List PT) (x b : PT) : ig_cnt O x b ≤ O.length := List.countP_le_length
theorem ig_cnt_lt {O : List PT} {x b : PT} (hxb : x ≠ b) (h : ig_near O x b ≠ b) : ig_cnt O (ig_near O x b) b < ig_cnt O x b := by
  obtain ⟨v, v0, v1, e, h1, _⟩ := ig_near_spec hxb O
  have hy : ig_near O x b ∈ O := h1.resolve_left h
  have hn := ig_ne hxb
  generalize ig_near O x b = y at *
  refine countP_lt (fun c _ hc => ?_) hy ?_ ?_
  · simp only [Bool.and_eq_true, decide_eq_true_eq] at hc ⊢
    obtain ⟨⟨c1, c2⟩, c3⟩ := hc
    obtain ⟨w, w0, w1, ew⟩ := (im_on_iff _ _ _).mp c1
    refine ⟨⟨(im_on_iff _ _ _).mpr ((gx_on_sub (Rat.le_of_lt v0) v1 e).2 ⟨w, w0, w1, ew⟩), fun f => ?_⟩, c3⟩
    rw [gx_sub2 e, f] at ew
    have k := gx_at_inj hn (ew.trans (gx_at0 _ _).symm)
    have := Rat.mul_nonneg w0 (show 0 ≤ 1 - v by grind)
    grind
  · simp only [Bool.and_eq_true, decide_eq_true_eq]
    refine ⟨⟨(im_on_iff _ _ _).mpr ⟨v, Rat.le_of_lt v0, v1, e.symm⟩, fun f => ?_⟩, h⟩
    rw [f] at e
    have := gx_at_inj hn ((gx_at0 _ _).trans e)
    grind
  · simp
theorem ig_near_ne {O : List PT} {x b : PT} (hxb : x ≠ b) : ig_near O x b ≠ x := by
  obtain ⟨v, v0, v1, e, _⟩ := ig_near_spec hxb O
  intro f
  rw [f] at e
  have := gx_at_inj (ig_ne hxb) ((gx_at0 _ _).trans e)
  grind
theorem ig_rs_nil (O : List PT) (n : Nat) (b : PT) : ig_rs O n b b = [] := by
  cases n with
  | zero => rfl
  | succ n => rw [ig_rs, if_pos rfl]
theorem ig_rs_fuel {O : List PT} : ∀ (n m : Nat) (x b : PT), ig_cnt O x b < n → ig_cnt O x b < m → ig_rs O n x b = ig_rs O m x b := by
  intro n
  induction n with
  | zero => intro m x b h; omega
  | succ n ih =>
    intro m x b h g
    cases m with
    | zero => omega
    | succ m =>
      by_cases c : x = b
      · subst c; rw [ig_rs_nil, ig_rs_nil]
      · rw [ig_rs, ig_rs, if_neg c, if_neg c]
        by_cases c2 : ig_near O x b = b
        · rw [c2, ig_rs_nil, ig_rs_nil]
        · have := ig_cnt_lt c c2
          rw [ih m _ b (by omega) (by omega)]
/-- what the row of a side is -/
theorem ig_rs_spec {O : List PT} : ∀ (n : Nat) (x b : PT), x ≠ b → ig_cnt O x b < n → ∀ (S T : List ((Rat × Rat) × (Rat × Rat))), gx_simple (S ++ (ig_c x, ig_c b) :: T) →
    ∃ r, ig_rs O n x b = x :: r ∧ gx_simple (S ++ (gx_sd (ig_c x) (r.map ig_c) (ig_c b) ++ T)) ∧ (∀ z, gx_wn (S ++ (gx_sd (ig_c x) (r.map ig_c) (ig_c b) ++ T)) z = gx_wn (S ++ (ig_c x, ig_c b) :: T) z) ∧ (∀ s ∈ gx_sd (ig_c x) (r.map ig_c) (ig_c b), ∀ z, gx_on s.1 s.2 z → gx_on (ig_c x) (ig_c b) z) ∧ (∀ p ∈ r, p ∈ O) ∧ ∀ p ∈ O, ig_ins x b p → p ∈ r := by
  intro n
  induction n with
  | zero => intro x b _ h; omega
  | succ n ih =>
    intro x b hxb hn S T hs
    obtain ⟨v, v0, v1, e, h1, h2⟩ := ig_near_spec hxb O
    rw [ig_rs, if_neg hxb]
    by_cases c : ig_near O x b = b
    · refine ⟨[], by rw [c, ig_rs_nil], hs, fun _ => rfl, ?_, by simp, ?_⟩
      · intro s hs' z hz
        have : s = (ig_c x, ig_c b) := by simpa [gx_sd] using hs'
        rw [this] at hz; exact hz
      · intro p hp hi
        exfalso
        obtain ⟨w, w0, w1, ew⟩ := hi
        have := h2 p hp w w0 (Rat.le_of_lt w1) ew
        rw [c] at e
        have := gx_at_inj (ig_ne hxb) ((gx_at1 _ _).trans e)
        grind
    · have hv : v < 1 := by
        by_cases f : v < 1
        · exact f
        · exfalso
          have : v = 1 := by grind
          rw [this, gx_at1] at e
          exact c (ig_c_inj.mp e)
      have hO := h1.resolve_left c
      have hcnt := ig_cnt_lt hxb c
      generalize ig_near O x b = y at *
      have hs2 := (gx_sub_simple v0 hv e (ig_ne hxb)).mp hs
      have hs3 : gx_simple ((S ++ [(ig_c x, ig_c y)]) ++ (ig_c y, ig_c b) :: T) := by simpa using hs2
      obtain ⟨r, r1, r2, r3, r4, r5, r6⟩ := ih y b c (by omega) _ T hs3
      have hon := fun z => gx_on_sub (z := z) (Rat.le_of_lt v0) v1 e
      refine ⟨y :: r, by rw [r1], ?_, ?_, ?_, ?_, ?_⟩
      · simpa [gx_sd] using r2
      · intro z
        have := r3 z
        rw [← gx_sub_wn v0 hv e]
        simpa [gx_sd] using this
      · intro s hs' z hz
        rcases List.mem_cons.mp (show s ∈ (ig_c x, ig_c y) :: gx_sd (ig_c y) (r.map ig_c) (ig_c b) from hs') with f | f
        · rw [f] at hz; exact (hon z).1 hz
        · exact (hon z).2 (r4 s f z hz)
      · intro p hp
        rcases List.mem_cons.mp hp with f | f
        · rw [f]; exact hO
        · exact r5 p f
      · intro p hp hi
        obtain ⟨w, w0, w1, ew⟩ := hi
        have hle := h2 p hp w w0 (Rat.le_of_lt w1) ew
        by_cases f : w = v
        · rw [f] at ew
          have : p = y := ig_c_inj.mp (ew.trans e.symm)
          rw [this]; simp
        · refine List.mem_cons_of_mem _ (r6 p hp ⟨(w - v) / (1 - v), ?_, ?_, ?_⟩)
          · rw [Rat.lt_div_iff (by grind)]; grind
          · rw [Rat.div_lt_iff (by grind)]; grind
          · rw [gx_sub2 e, Rat.div_mul_cancel (by grind)]
            have : v + (w - v) = w := by grind
            rw [this]; exact ew
