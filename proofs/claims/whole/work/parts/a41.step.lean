/-! a deed accepted -/
section STP
variable {R R' : AR} {kd dy m pa pb rel g o : Nat} {ns : List Nat} {body : List Int}
def DStp (R R' : AR) (kd dy : Nat) (ns : List Nat) (m pa pb rel g o : Nat) (body : List Int) : Prop :=
  (R'.1 15 0 = R.1 15 0 + 1 ∧ R'.1 7 0 = R.1 7 0 + m ∧ R'.1 25 0 = R.1 25 0 + g ∧ R'.1 30 0 = R.1 30 0 + (wrec body).length ∧ R'.1 31 0 = R.1 31 0 ∧ R'.1 2 0 = R.1 2 0 ∧ R'.1 3 0 = R.1 3 0) ∧
  (∀ d, d ≤ R.1 15 0 → (∀ f, 16 ≤ f → f ≤ 24 → R'.1 f d = R.1 f d) ∧ aNm R' d = aNm R d) ∧
  (R'.1 16 (R.1 15 0 + 1) = kd ∧ R'.1 17 (R.1 15 0 + 1) = dy ∧ R'.1 22 (R.1 15 0 + 1) = R.1 7 0 + m ∧ R'.1 23 (R.1 15 0 + 1) = R.1 25 0 + g ∧ R'.1 24 (R.1 15 0 + 1) = R.1 30 0 + (wrec body).length ∧ aNm R' (R.1 15 0 + 1) = ns) ∧
  (∀ l, l ≤ R.1 7 0 → aRing R' l = aRing R l ∧ (R'.1 11 l = R.1 11 l ∧ R'.1 13 l = R.1 13 l ∧ R'.1 14 l = R.1 14 l) ∧ R'.1 12 l = (if m ≠ 0 ∧ l ∈ ns then R.1 15 0 + 1 else R.1 12 l) ∧ (∀ p, aSh R' l p = aSh R l p) ∧ ∀ e, e ≤ R.1 25 0 → aIh R' e l = aIh R e l) ∧
  (∀ l, R.1 7 0 < l → l ≤ R.1 7 0 + m → (R'.1 11 l = R.1 15 0 + 1 ∧ R'.1 12 l = 0 ∧ R'.1 13 l = pa ∧ R'.1 14 l = pb) ∧ rg_ok (aRing R' l) ∧ (∀ p, p < 100 → aSh R' l p = aShare R pa p dy (R.1 15 0)) ∧ ∀ e, 1 ≤ e → e ≤ R.1 25 0 → (aIh R' e l = true ↔ ∃ x, x ∈ ns ∧ aS R e dy (R.1 15 0) ∧ aIh R e x = true)) ∧
  (∀ e, e ≤ R.1 25 0 → R'.1 26 e = R.1 26 e ∧ R'.1 28 e = R.1 28 e ∧ R'.1 27 e = if rel ≠ 0 ∧ e = rel then R.1 15 0 + 1 else R.1 27 e) ∧
  (g = 1 → R'.1 26 (R.1 25 0 + 1) = R.1 15 0 + 1 ∧ R'.1 27 (R.1 25 0 + 1) = 0 ∧ R'.1 28 (R.1 25 0 + 1) = o ∧ ∀ l, l ≤ R.1 7 0 → aIh R' (R.1 25 0 + 1) l = decide (l = o)) ∧
  ∀ i, aLg R' i = lgapp (aLg R) (R.1 30 0) (wrec body) i
def DCnd (R R' : AR) (kd dy : Nat) (ns : List Nat) (m pa pb rel g o : Nat) (body : List Int) : Prop :=
  (1 ≤ R.1 7 0 ∧ R.1 2 0 = 0 ∧ R.1 15 0 < 600 ∧ dy ≤ 30000 ∧ (1 ≤ kd ∧ kd ≤ 5) ∧ R.1 7 0 + m ≤ 300 ∧ R.1 25 0 + g ≤ 200 ∧ R.1 30 0 + (wrec body).length ≤ 12000 ∧ g ≤ 1) ∧
  (ns.length ≤ 300 ∧ ∀ x, x ∈ ns → (1 ≤ x ∧ x ≤ R.1 7 0) ∧ aB R x dy (R.1 15 0) ∧ ¬ aLate R x dy) ∧
  ((m ≠ 0 ↔ kd = 1 ∨ kd = 2) ∧ (rel ≠ 0 ↔ kd = 5) ∧ (g = 1 ↔ kd = 4)) ∧
  (m ≠ 0 → 1 ≤ pa ∧ (pb ≠ 0 → pa < pb) ∧ (∀ x, x ∈ ns ↔ x = pa ∨ (pb ≠ 0 ∧ x = pb)) ∧ (∀ l z, R.1 7 0 < l → l ≤ R.1 7 0 + m → gx_wn (rgn (aRing R' l)) z ≤ gx_wn (rgn (aRing R pa)) z + (if pb = 0 then 0 else gx_wn (rgn (aRing R pb)) z)) ∧ ∀ l l' z, R.1 7 0 < l → l ≤ R.1 7 0 + m → R.1 7 0 < l' → l' ≤ R.1 7 0 + m → l ≠ l' → gx_wn (rgn (aRing R' l)) z + gx_wn (rgn (aRing R' l')) z ≤ 1) ∧
  ((kd = 1 ∨ kd = 3 → ns = [R'.1 18 (R.1 15 0 + 1)]) ∧ (kd = 2 ∨ kd = 4 → ns = [R'.1 18 (R.1 15 0 + 1), R'.1 19 (R.1 15 0 + 1)]) ∧ R'.1 18 (R.1 15 0 + 1) ≤ 300 ∧ R'.1 19 (R.1 15 0 + 1) ≤ 300 ∧ R'.1 20 (R.1 15 0 + 1) ≤ 300 ∧ R'.1 21 (R.1 15 0 + 1) ≤ 25401600) ∧
  (kd = 3 → R'.1 19 (R.1 15 0 + 1) < 100 ∧ R'.1 20 (R.1 15 0 + 1) < 100 ∧ (R'.1 21 (R.1 15 0 + 1) : Int) ≤ aShare R (R'.1 18 (R.1 15 0 + 1)) (R'.1 19 (R.1 15 0 + 1)) dy (R.1 15 0)) ∧
  (kd = 5 → R'.1 18 (R.1 15 0 + 1) = rel ∧ rel ≤ R.1 25 0 ∧ aS R rel dy (R.1 15 0) ∧ ∀ x, x ∈ ns ↔ (1 ≤ x ∧ x ≤ R.1 7 0) ∧ aBu R rel x dy (R.1 15 0)) ∧
  (kd = 4 → o ∈ ns) ∧
  ((2 ≤ body.length ∧ body.length ≤ 40) ∧ (∀ w ∈ body, 0 ≤ w ∧ w ≤ 700000000) ∧ body.getD 0 0 % 65536 = body.length) ∧
  ((aRow R').length ≤ 32 ∧ ∀ p ∈ aRow R', ig_ok p)
theorem st_12 (h : WF R) (s : DStp R R' kd dy ns m pa pb rel g o body) (c : DCnd R R' kd dy ns m pa pb rel g o body) {x : Nat} (hx : x ∈ ns) : R.1 12 x = 0 := by
  obtain ⟨⟨x1, x2⟩, x3, x4⟩ := c.2.1.2 x hx
  refine Classical.byContradiction fun f => x4 ?_
  have dl := h.dl x1 x2
  have : ¬ (R.1 17 (R.1 12 x) : Int) ≤ dy := fun q => x3.2 ⟨f, q, by omega⟩
  exact ⟨R.1 12 x, by omega, dl.2.1, by omega, (h.o x x1 x2 f).1⟩
theorem st_late (h : WF R) (s : DStp R R' kd dy ns m pa pb rel g o body) (c : DCnd R R' kd dy ns m pa pb rel g o body) {x d : Nat} (hx : x ∈ ns) (d1 : 1 ≤ d) (d2 : d ≤ R.1 15 0) (hd : x ∈ aNm R d) : R.1 17 d ≤ dy := by
  obtain ⟨⟨x1, x2⟩, x3, x4⟩ := c.2.1.2 x hx
  refine Classical.byContradiction fun f => x4 ⟨d, d1, d2, by omega, hd⟩
theorem st_beg (h : WF R) (s : DStp R R' kd dy ns m pa pb rel g o body) (c : DCnd R R' kd dy ns m pa pb rel g o body) {x : Nat} (hx : x ∈ ns) : R.1 11 x = 0 ∨ (R.1 11 x ≤ R.1 15 0 ∧ R.1 17 (R.1 11 x) ≤ dy) := by
  obtain ⟨⟨x1, x2⟩, x3, x4⟩ := c.2.1.2 x hx
  rcases x3.1 with q | q
  · exact Or.inl q
  · have := q.1; have := q.2; exact Or.inr ⟨by omega, by omega⟩
theorem st_27 (h : WF R) (s : DStp R R' kd dy ns m pa pb rel g o body) (c : DCnd R R' kd dy ns m pa pb rel g o body) (hr : rel ≠ 0) : R.1 27 rel = 0 := by
  have k5 := c.2.2.1.2.1.mp hr
  obtain ⟨q1, q2, q3, q4⟩ := c.2.2.2.2.2.2.1 k5
  exact h.once (by omega) q2 q3 (fun x x1 x2 hb => (c.2.1.2 x ((q4 x).mpr ⟨⟨x1, x2⟩, hb⟩)).2.2)
theorem st_17 (h : WF R) (s : DStp R R' kd dy ns m pa pb rel g o body) (c : DCnd R R' kd dy ns m pa pb rel g o body) {d : Nat} (hd : d ≤ R.1 15 0) : R'.1 17 d = R.1 17 d := (s.2.1 d hd).1 17 (by omega) (by omega)
theorem st_aS (h : WF R) (s : DStp R R' kd dy ns m pa pb rel g o body) (c : DCnd R R' kd dy ns m pa pb rel g o body) {e : Nat} {day ent : Int} (e1 : 1 ≤ e) (e2 : e ≤ R.1 25 0) (he : ent ≤ (R.1 15 0 : Int)) : aS R' e day ent ↔ aS R e day ent := by
  obtain ⟨q1, q2, q3⟩ := s.2.2.2.2.2.1 e e2
  have we := h.r.2.2.2.2.1 e e1 e2
  have a17 := st_17 h s c we.1.2
  unfold aS aF
  rw [q1, a17, q3]
  by_cases k : rel ≠ 0 ∧ e = rel
  · have z : R.1 27 e = 0 := by rw [k.2]; exact st_27 h s c k.1
    rw [if_pos k, z]
    exact ⟨fun f => ⟨f.1, fun q => q.1 rfl⟩, fun f => ⟨f.1, fun q => by omega⟩⟩
  · rw [if_neg k, st_17 h s c we.2.1]
theorem st_aB (h : WF R) (s : DStp R R' kd dy ns m pa pb rel g o body) (c : DCnd R R' kd dy ns m pa pb rel g o body) {l : Nat} {day ent : Int} (l1 : 1 ≤ l) (l2 : l ≤ R.1 7 0) (he : ent ≤ (R.1 15 0 : Int)) : aB R' l day ent ↔ aB R l day ent := by
  obtain ⟨_, ⟨q1, _, _⟩, q3, _⟩ := s.2.2.2.1 l l2
  have dl := h.dl l1 l2
  unfold aB aF
  rw [q1, st_17 h s c dl.1, q3]
  by_cases k : m ≠ 0 ∧ l ∈ ns
  · rw [if_pos k, st_12 h s c k.2]
    exact ⟨fun f => ⟨f.1, fun q => q.1 rfl⟩, fun f => ⟨f.1, fun q => by omega⟩⟩
  · rw [if_neg k, st_17 h s c dl.2.1]
/-- as of later entries: being in R' is being in R -/
theorem st_aB2 (h : WF R) (s : DStp R R' kd dy ns m pa pb rel g o body) (c : DCnd R R' kd dy ns m pa pb rel g o body) {l : Nat} {day ent : Int} (l1 : 1 ≤ l) (l2 : l ≤ R.1 7 0) (hb : aB R' l day ent) : aB R l day ent := by
  obtain ⟨_, ⟨q1, _, _⟩, q3, _⟩ := s.2.2.2.1 l l2
  have dl := h.dl l1 l2
  unfold aB aF at hb ⊢
  rw [q1, st_17 h s c dl.1, q3] at hb
  refine ⟨hb.1, fun f => ?_⟩
  by_cases k : m ≠ 0 ∧ l ∈ ns
  · exact f.1 (st_12 h s c k.2)
  · rw [if_neg k, st_17 h s c dl.2.1] at hb
    exact hb.2 f
theorem st_WR (h : WF R) (s : DStp R R' kd dy ns m pa pb rel g o body) (c : DCnd R R' kd dy ns m pa pb rel g o body) : WR R' := by
  obtain ⟨s1, s2, s3, s4, s5, s6, s7, s8⟩ := s
  obtain ⟨c1, c2, c3, c4, c5, c6, c7, c8, c9, c10⟩ := c
  have W := h.r.1
  refine ⟨by omega, c10, fun l l1 l2 => ?_, fun d d1 d2 => ?_, fun e e1 e2 => ?_, fun i => ?_⟩
  · by_cases k : l ≤ R.1 7 0
    · obtain ⟨q0, q1, q3, _⟩ := s4 l k
      have dl := h.dl l1 k
      rw [q0, q1.1, q1.2.1, q1.2.2, q3]
      refine ⟨h.r.rg l1 k, by omega, ?_, dl.2.2.1, dl.2.2.2.1, dl.2.2.2.2⟩
      split <;> omega
    · obtain ⟨q0, q1, _⟩ := s5 l (by omega) (by omega)
      obtain ⟨p1, p2, p3, _⟩ := c4 (by omega)
      have pam := (c2.2 pa ((p3 pa).mpr (Or.inl rfl))).1
      rw [q0.1, q0.2.1, q0.2.2.1, q0.2.2.2]
      refine ⟨q1, by omega, by omega, by omega, ?_, by omega⟩
      by_cases z : pb = 0
      · omega
      · have := (c2.2 pb ((p3 pb).mpr (Or.inr ⟨z, rfl⟩))).1; omega
  · by_cases k : d ≤ R.1 15 0
    · have q := (s2 d k).1
      rw [q 16 (by omega) (by omega), q 17 (by omega) (by omega), q 18 (by omega) (by omega), q 19 (by omega) (by omega), q 20 (by omega) (by omega), q 21 (by omega) (by omega)]
      obtain ⟨w1, w2, w3, w4, w5, w6, w7⟩ := h.r.2.2.2.1 d d1 k
      exact ⟨w1, w2, w3, w4, w5, w6, fun f => ⟨(w7 f).1, by have := (w7 f).2; omega⟩⟩
    · have ed : d = R.1 15 0 + 1 := by omega
      subst ed
      rw [s3.1, s3.2.1]
      refine ⟨c1.2.2.2.2.1, c1.2.2.2.1, c5.2.2.1, c5.2.2.2.1, c5.2.2.2.2.1, c5.2.2.2.2.2, fun f => ?_⟩
      have := c7 f
      have r0 := c3.2.1.mpr f
      omega
  · by_cases k : e ≤ R.1 25 0
    · obtain ⟨q1, q2, q3⟩ := s6 e k
      have we := h.r.2.2.2.2.1 e e1 k
      rw [q1, q2, q3]
      refine ⟨by omega, ?_, by omega⟩
      split <;> omega
    · have g1 : g = 1 := by omega
      obtain ⟨q1, q2, q3, _⟩ := s7 g1
      have ee : e = R.1 25 0 + 1 := by omega
      have om := (c2.2 o (c8 (c3.2.2.mp g1))).1
      subst ee
      rw [q1, q2, q3]; omega
  · rw [s8 i]
    unfold lgapp
    split
    · next hi =>
      unfold wrec at hi ⊢
      rw [List.length_append] at hi
      by_cases k : i - R.1 30 0 < body.length
      · have hm : (body ++ [(body.length : Int) - 2147483648, wsum body % 2147483648 - 2147483648]).getD (i - R.1 30 0) 0 = body[i - R.1 30 0] := by
          rw [List.getD_eq_getElem?_getD, List.getElem?_append_left k]; simp [k]
        rw [hm]
        have := c9.2.1 _ (List.getElem_mem k)
        unfold inR; omega
      · rw [List.getD_eq_getElem?_getD, List.getElem?_append_right (by omega)]
        have hi2 : i - R.1 30 0 - body.length < 2 := by simp at hi; omega
        rcases (show i - R.1 30 0 - body.length = 0 ∨ i - R.1 30 0 - body.length = 1 by omega) with q | q <;> rw [q]
        · show inR ((body.length : Int) - 2147483648)
          unfold inR; omega
        · show inR (wsum body % 2147483648 - 2147483648)
          unfold inR; omega
    · exact h.r.2.2.2.2.2 i
theorem st_WI (h : WF R) (s : DStp R R' kd dy ns m pa pb rel g o body) (c : DCnd R R' kd dy ns m pa pb rel g o body) : WI R' := by
  intro e l e1 e2 l1 l2
  have hs := s
  obtain ⟨s1, s2, s3, s4, s5, s6, s7, s8⟩ := s
  have hc := c
  obtain ⟨c1, c2, c3, c4, c5, c6, c7, c8, c9, c10⟩ := c
  by_cases ke : e ≤ R.1 25 0
  · have q28 := (s6 e ke).2.1
    have we := h.r.2.2.2.2.1 e e1 ke
    by_cases kl : l ≤ R.1 7 0
    · obtain ⟨_, q1, _, _, q5⟩ := s4 l kl
      have dl := h.dl l1 kl
      rw [q5 e ke, q28, q1.1, q1.2.1, q1.2.2, (s4 (R.1 13 l) (by omega)).2.2.2.2 e ke, (s4 (R.1 14 l) (by omega)).2.2.2.2 e ke, st_17 h hs hc dl.1, st_aS h hs hc e1 ke (by omega)]
      exact h.i e l e1 ke l1 kl
    · have m0 : m ≠ 0 := by omega
      obtain ⟨q0, q1, _, q4⟩ := s5 l (by omega) (by omega)
      obtain ⟨p1, p2, p3, _⟩ := c4 m0
      have pam := (c2.2 pa ((p3 pa).mpr (Or.inl rfl))).1
      have pbm : pb ≤ R.1 7 0 := by
        by_cases z : pb = 0
        · omega
        · exact (c2.2 pb ((p3 pb).mpr (Or.inr ⟨z, rfl⟩))).1.2
      have r0 : rel = 0 := Classical.byContradiction fun f => by have := c3.2.1.mp f; have := c3.1.mp m0; omega
      have aSk : aS R' e dy ((R.1 15 0 + 1 : Nat) : Int) ↔ aS R e dy (R.1 15 0) := by
        obtain ⟨t1, t2, t3⟩ := s6 e ke
        unfold aS aF
        rw [t1, t3, if_neg (fun f => f.1 r0), st_17 h hs hc we.1.2, st_17 h hs hc we.2.1]
        constructor
        · intro f; exact ⟨⟨f.1.1, by omega⟩, fun q => f.2 ⟨q.1, q.2.1, by omega⟩⟩
        · intro f; exact ⟨⟨f.1.1, by omega⟩, fun q => f.2 ⟨q.1, q.2.1, by omega⟩⟩
      rw [q4 e e1 ke, q28, q0.1, q0.2.2.1, q0.2.2.2, s3.2.1, aSk, (s4 pa pam.2).2.2.2.2 e ke, (s4 pb pbm).2.2.2.2 e ke]
      constructor
      · rintro ⟨x, x1, x2, x3⟩
        refine Or.inr ⟨by omega, x2, ?_⟩
        rcases (p3 x).mp x1 with q | q
        · exact Or.inl (by rw [← q]; exact x3)
        · exact Or.inr ⟨q.1, by rw [← q.2]; exact x3⟩
      · rintro (q | ⟨_, q1, q2⟩)
        · omega
        · rcases q2 with q2 | q2
          · exact ⟨pa, (p3 pa).mpr (Or.inl rfl), q1, q2⟩
          · exact ⟨pb, (p3 pb).mpr (Or.inr ⟨q2.1, rfl⟩), q1, q2.2⟩
  · have g1 : g = 1 := by omega
    obtain ⟨q1, q2, q3, q4⟩ := s7 g1
    have ee : e = R.1 25 0 + 1 := by omega
    have k4 := c3.2.2.mp g1
    have m0 : m = 0 := Classical.byContradiction fun f => by have := c3.1.mp f; omega
    have kl : l ≤ R.1 7 0 := by omega
    have dl := h.dl l1 kl
    subst ee
    rw [q4 l kl, q3, (s4 l kl).2.1.1, decide_eq_true_iff]
    constructor
    · exact Or.inl
    · rintro (q | ⟨_, q, _⟩)
      · exact q
      · have := q.1.2
        rw [q1] at this; omega
theorem st_aBu (h : WF R) (s : DStp R R' kd dy ns m pa pb rel g o body) (c : DCnd R R' kd dy ns m pa pb rel g o body) {e l : Nat} {day ent : Int} (e1 : 1 ≤ e) (e2 : e ≤ R.1 25 0) (l1 : 1 ≤ l) (l2 : l ≤ R.1 7 0) (he : ent ≤ (R.1 15 0 : Int)) : aBu R' e l day ent ↔ aBu R e l day ent := by
  unfold aBu
  rw [(s.2.2.2.1 l l2).2.2.2.2 e e2, st_aS h s c e1 e2 he, st_aB h s c l1 l2 he]
theorem st_new (h : WF R) (s : DStp R R' kd dy ns m pa pb rel g o body) (c : DCnd R R' kd dy ns m pa pb rel g o body) {l : Nat} {day ent : Int} (l1 : R.1 7 0 < l) (l2 : l ≤ R.1 7 0 + m) (hb : aB R' l day ent) : (dy : Int) ≤ day ∧ ((R.1 15 0 + 1 : Nat) : Int) ≤ ent := by
  have q := (s.2.2.2.2.1 l l1 l2).1.1
  have := hb.1
  rw [q] at this
  rcases this with f | f
  · omega
  · unfold aF at f
    rw [s.2.2.1.2.1] at f
    exact f
theorem st_WN (h : WF R) (s : DStp R R' kd dy ns m pa pb rel g o body) (c : DCnd R R' kd dy ns m pa pb rel g o body) : WN R' := by
  intro d l d1 d2 l1 l2
  have hs := s
  obtain ⟨s1, s2, s3, s4, s5, s6, s7, s8⟩ := s
  have hc := c
  obtain ⟨c1, c2, c3, c4, c5, c6, c7, c8, c9, c10⟩ := c
  by_cases kd' : d ≤ R.1 15 0
  · have q := (s2 d kd').1
    have nl := h.nl d d1 kd'
    rw [(s2 d kd').2, q 16 (by omega) (by omega), q 17 (by omega) (by omega), q 18 (by omega) (by omega), q 19 (by omega) (by omega)]
    by_cases kl : l ≤ R.1 7 0
    · rw [h.n d l d1 kd' l1 kl]
      refine or_congr Iff.rfl (or_congr Iff.rfl ?_)
      refine and_congr_right (fun k5 => ?_)
      have w7 := (h.r.2.2.2.1 d d1 kd').2.2.2.2.2.2 k5
      exact (st_aBu h hs hc w7.1 w7.2 l1 kl (by omega)).symm
    · constructor
      · intro f; have := (nl.2.1 l f).2; omega
      · rintro (⟨f1, f2⟩ | ⟨f1, f2⟩ | ⟨f1, f2⟩)
        · have := (nl.2.1 l (by rw [nl.2.2.1 f1, f2]; exact List.mem_singleton.mpr rfl)).2; omega
        · have := (nl.2.1 l (by
            rw [nl.2.2.2 f1]
            rcases f2 with f2 | f2
            · rw [f2]; exact List.mem_cons_self ..
            · rw [f2]; exact List.mem_cons_of_mem _ (List.mem_singleton.mpr rfl))).2
          omega
        · have := st_new h hs hc (by omega) (by omega) f2.2.2
          omega
  · have ed : d = R.1 15 0 + 1 := by omega
    subst ed
    rw [s3.1, s3.2.1, s3.2.2.2.2.2]
    constructor
    · intro f
      rcases (show (kd = 1 ∨ kd = 3) ∨ (kd = 2 ∨ kd = 4) ∨ kd = 5 by omega) with k | k | k
      · have := c5.1 k
        rw [this] at f
        exact Or.inl ⟨k, (List.mem_singleton.mp f).symm⟩
      · have := c5.2.1 k
        rw [this] at f
        refine Or.inr (Or.inl ⟨k, ?_⟩)
        rcases List.mem_cons.mp f with f | f
        · exact Or.inl f.symm
        · exact Or.inr (List.mem_singleton.mp f).symm
      · refine Or.inr (Or.inr ⟨k, ?_⟩)
        obtain ⟨q1, q2, q3, q4⟩ := c7 k
        have r0 := c3.2.1.mpr k
        have := (q4 l).mp f
        rw [q1, show (((R.1 15 0 + 1 : Nat) : Int) - 1) = (R.1 15 0 : Int) by omega]
        exact (st_aBu h hs hc (by omega) q2 this.1.1 this.1.2 (Int.le_refl _)).mpr this.2
    · rintro (⟨f1, f2⟩ | ⟨f1, f2⟩ | ⟨f1, f2⟩)
      · rw [c5.1 f1, f2]; exact List.mem_singleton.mpr rfl
      · rw [c5.2.1 f1]
        rcases f2 with f2 | f2
        · rw [f2]; exact List.mem_cons_self ..
        · rw [f2]; exact List.mem_cons_of_mem _ (List.mem_singleton.mpr rfl)
      · obtain ⟨q1, q2, q3, q4⟩ := c7 f1
        have r0 := c3.2.1.mpr f1
        have m0 : m = 0 := Classical.byContradiction fun f => by have := c3.1.mp f; omega
        rw [q1, show (((R.1 15 0 + 1 : Nat) : Int) - 1) = (R.1 15 0 : Int) by omega] at f2
        exact (q4 l).mpr ⟨⟨l1, by omega⟩, (st_aBu h hs hc (by omega) q2 l1 (by omega) (Int.le_refl _)).mp f2⟩
theorem st_WNl (h : WF R) (s : DStp R R' kd dy ns m pa pb rel g o body) (c : DCnd R R' kd dy ns m pa pb rel g o body) : WNl R' := by
  intro d d1 d2
  obtain ⟨s1, s2, s3, s4, s5, s6, s7, s8⟩ := s
  obtain ⟨c1, c2, c3, c4, c5, c6, c7, c8, c9, c10⟩ := c
  by_cases kd' : d ≤ R.1 15 0
  · have q := (s2 d kd').1
    have nl := h.nl d d1 kd'
    rw [(s2 d kd').2, q 16 (by omega) (by omega), q 18 (by omega) (by omega), q 19 (by omega) (by omega)]
    exact ⟨nl.1, fun x hx => by have := nl.2.1 x hx; omega, nl.2.2⟩
  · have ed : d = R.1 15 0 + 1 := by omega
    subst ed
    rw [s3.1, s3.2.2.2.2.2]
    exact ⟨c2.1, fun x hx => by have := (c2.2 x hx).1; omega, c5.1, c5.2.1⟩
theorem st_WT (h : WF R) (s : DStp R R' kd dy ns m pa pb rel g o body) (c : DCnd R R' kd dy ns m pa pb rel g o body) : WT R' := by
  intro d d1 d2 k3
  obtain ⟨s1, s2, s3, s4, s5, s6, s7, s8⟩ := s
  by_cases kd' : d ≤ R.1 15 0
  · have q := (s2 d kd').1
    rw [q 16 (by omega) (by omega)] at k3
    rw [q 19 (by omega) (by omega), q 20 (by omega) (by omega)]
    exact h.t d d1 kd' k3
  · have ed : d = R.1 15 0 + 1 := by omega
    subst ed
    rw [s3.1] at k3
    have := c.2.2.2.2.2.1 k3
    exact ⟨this.1, this.2.1⟩
theorem st_WP (h : WF R) (s : DStp R R' kd dy ns m pa pb rel g o body) (c : DCnd R R' kd dy ns m pa pb rel g o body) : WP R' := by
  have hs := s
  obtain ⟨s1, s2, s3, s4, s5, s6, s7, s8⟩ := s
  have hc := c
  obtain ⟨c1, c2, c3, c4, c5, c6, c7, c8, c9, c10⟩ := c
  refine ⟨fun l l1 l2 => ?_, fun l l1 l2 hne => ?_⟩
  · by_cases kl : l ≤ R.1 7 0
    · obtain ⟨_, q1, q3, _⟩ := s4 l kl
      have dl := h.dl l1 kl
      have P := h.p.1 l l1 kl
      rw [q1.1, q1.2.1, q1.2.2]
      refine ⟨P.1, fun f => ?_⟩
      obtain ⟨P1, P2, P3, P4⟩ := P.2 f
      rw [(s2 (R.1 11 l) dl.1).1 16 (by omega) (by omega)]
      refine ⟨P1, P2, P3, fun l' a b => ?_⟩
      by_cases kl' : l' ≤ R.1 7 0
      · rw [(s4 l' kl').2.2.1]
        by_cases k : m ≠ 0 ∧ l' ∈ ns
        · rw [if_pos k]
          have z := st_12 h hs hc k.2
          have := P4 l' a kl'
          rw [z] at this
          constructor
          · intro r; omega
          · intro r; have := this.mpr r; omega
        · rw [if_neg k]; exact P4 l' a kl'
      · rw [(s5 l' (by omega) (by omega)).1.2.1]
        constructor
        · intro r; omega
        · rintro (r | r) <;> omega
    · have m0 : m ≠ 0 := by omega
      obtain ⟨q0, _⟩ := s5 l (by omega) (by omega)
      obtain ⟨p1, p2, p3, _⟩ := c4 m0
      rw [q0.1, q0.2.2.1, q0.2.2.2]
      refine ⟨fun f => by omega, fun _ => ⟨p1, p2, by rw [s3.1]; exact c3.1.mp m0, fun l' a b => ?_⟩⟩
      by_cases kl' : l' ≤ R.1 7 0
      · rw [(s4 l' kl').2.2.1]
        by_cases k : m ≠ 0 ∧ l' ∈ ns
        · rw [if_pos k]
          exact ⟨fun _ => (p3 l').mp k.2, fun _ => rfl⟩
        · rw [if_neg k]
          have dl := h.dl a kl'
          constructor
          · intro r; omega
          · intro r; exact absurd ⟨m0, (p3 l').mpr r⟩ k
      · rw [(s5 l' (by omega) (by omega)).1.2.1]
        constructor
        · intro r; omega
        · intro r
          have := (c2.2 l' ((p3 l').mpr r)).1; omega
  · by_cases kl : l ≤ R.1 7 0
    · obtain ⟨_, q1, q3, _⟩ := s4 l kl
      rw [q3] at hne ⊢
      by_cases k : m ≠ 0 ∧ l ∈ ns
      · rw [if_pos k]
        exact ⟨R.1 7 0 + 1, by omega, by omega, (s5 (R.1 7 0 + 1) (by omega) (by omega)).1.1⟩
      · rw [if_neg k] at hne ⊢
        obtain ⟨x, x1, x2, x3⟩ := h.p.2 l l1 kl hne
        exact ⟨x, x1, by omega, by rw [(s4 x x2).2.1.1]; exact x3⟩
    · exact absurd (s5 l (by omega) (by omega)).1.2.1 hne
theorem st_WO (h : WF R) (s : DStp R R' kd dy ns m pa pb rel g o body) (c : DCnd R R' kd dy ns m pa pb rel g o body) : WO R' := by
  intro l l1 l2 hne
  have hs := s
  obtain ⟨s1, s2, s3, s4, s5, s6, s7, s8⟩ := s
  have hc := c
  obtain ⟨c1, c2, c3, c4, c5, c6, c7, c8, c9, c10⟩ := c
  by_cases kl : l ≤ R.1 7 0
  · obtain ⟨_, q1, q3, _⟩ := s4 l kl
    rw [q3] at hne ⊢
    by_cases k : m ≠ 0 ∧ l ∈ ns
    · rw [if_pos k]
      refine ⟨by rw [s3.2.2.2.2.2]; exact k.2, fun d d1 d2 hd => ⟨by omega, ?_⟩⟩
      rw [s3.2.1]
      by_cases kd' : d ≤ R.1 15 0
      · rw [st_17 h hs hc kd']
        rw [(s2 d kd').2] at hd
        exact st_late h hs hc k.2 d1 kd' hd
      · rw [show d = R.1 15 0 + 1 by omega, s3.2.1]; exact Nat.le_refl _
    · rw [if_neg k] at hne ⊢
      have dl := h.dl l1 kl
      obtain ⟨o1, o2⟩ := h.o l l1 kl hne
      rw [(s2 _ dl.2.1).2, st_17 h hs hc dl.2.1]
      refine ⟨o1, fun d d1 d2 hd => ?_⟩
      by_cases kd' : d ≤ R.1 15 0
      · rw [st_17 h hs hc kd']
        rw [(s2 d kd').2] at hd
        exact o2 d d1 kd' hd
      · rw [show d = R.1 15 0 + 1 by omega, s3.2.2.2.2.2] at hd
        exact absurd (st_12 h hs hc hd) hne
  · exact absurd (s5 l (by omega) (by omega)).1.2.1 hne
theorem st_WQ (h : WF R) (s : DStp R R' kd dy ns m pa pb rel g o body) (c : DCnd R R' kd dy ns m pa pb rel g o body) : WQ R' := by
  have hs := s
  obtain ⟨s1, s2, s3, s4, s5, s6, s7, s8⟩ := s
  have hc := c
  obtain ⟨c1, c2, c3, c4, c5, c6, c7, c8, c9, c10⟩ := c
  refine ⟨fun d d1 d2 l hl => ?_, fun e e1 e2 => ?_, fun d d1 d2 k5 => ?_⟩
  · by_cases kd' : d ≤ R.1 15 0
    · rw [(s2 d kd').2] at hl
      have ll := (h.nl d d1 kd').2.1 l hl
      have dl := h.dl ll.1 ll.2
      rw [(s4 l ll.2).2.1.1, st_17 h hs hc dl.1, st_17 h hs hc kd']
      exact h.q.1 d d1 kd' l hl
    · have ed : d = R.1 15 0 + 1 := by omega
      subst ed
      rw [s3.2.2.2.2.2] at hl
      have ll := (c2.2 l hl).1
      have dl := h.dl ll.1 ll.2
      rw [(s4 l ll.2).2.1.1, st_17 h hs hc dl.1, s3.2.1]
      rcases st_beg h hs hc hl with q | q
      · exact Or.inl q
      · exact Or.inr ⟨by omega, q.2⟩
  · by_cases ke : e ≤ R.1 25 0
    · have we := h.r.2.2.2.2.1 e e1 ke
      rw [(s6 e ke).1, (s6 e ke).2.1, (s2 _ we.1.2).2]
      exact h.q.2.1 e e1 ke
    · have g1 : g = 1 := by omega
      obtain ⟨q1, q2, q3, q4⟩ := s7 g1
      have ee : e = R.1 25 0 + 1 := by omega
      subst ee
      rw [q1, q3, s3.2.2.2.2.2]
      exact c8 (c3.2.2.mp g1)
  · by_cases kd' : d ≤ R.1 15 0
    · have q := (s2 d kd').1
      rw [q 16 (by omega) (by omega)] at k5
      rw [q 18 (by omega) (by omega)]
      have w7 := (h.r.2.2.2.1 d d1 kd').2.2.2.2.2.2 k5
      rw [(s6 _ w7.2).1]
      exact h.q.2.2 d d1 kd' k5
    · have ed : d = R.1 15 0 + 1 := by omega
      subst ed
      rw [s3.1] at k5
      obtain ⟨q1, q2, q3, q4⟩ := c7 k5
      have r0 := c3.2.1.mpr k5
      have we := h.r.2.2.2.2.1 rel (by omega) q2
      rw [q1, (s6 _ q2).1]; omega
end STP
