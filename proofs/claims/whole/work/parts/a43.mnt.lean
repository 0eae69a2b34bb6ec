/-! the register as it was at an earlier entry -/
section MNT
variable {R R' : AR} {d : Nat}
def MStp (R R' : AR) (d : Nat) : Prop :=
  (R'.1 15 0 = d ∧ R'.1 7 0 = nlt R d ∧ R'.1 25 0 = net R d ∧ R'.1 30 0 = wEnd R d ∧ R'.1 31 0 = wEnd R d ∧ R'.1 2 0 = 0 ∧ R'.1 3 0 ≤ 40 ∧ wEnd R d ≤ 12000) ∧
  (∀ d', d' ≤ d → ∀ f, 16 ≤ f → f ≤ 24 → R'.1 f d' = R.1 f d') ∧
  (∀ l, l ≤ nlt R d → (R'.1 11 l = R.1 11 l ∧ R'.1 13 l = R.1 13 l ∧ R'.1 14 l = R.1 14 l) ∧ (1 ≤ l → R'.1 12 l = if d < R.1 12 l then 0 else R.1 12 l)) ∧
  (∀ e, e ≤ net R d → R'.1 26 e = R.1 26 e ∧ R'.1 28 e = R.1 28 e ∧ (1 ≤ e → R'.1 27 e = if d < R.1 27 e then 0 else R.1 27 e)) ∧
  R'.2 = R.2
theorem mn_c (h : WF R) (h1 : 1 ≤ R.1 7 0) (hd : d ≤ R.1 15 0) (s : MStp R R' d) : (1 ≤ nlt R d ∧ nlt R d ≤ R.1 7 0 ∧ net R d ≤ R.1 25 0) ∧ (∀ l, 1 ≤ l → l ≤ R.1 7 0 → (R.1 11 l ≤ d ↔ l ≤ nlt R d)) ∧ ∀ e, 1 ≤ e → e ≤ R.1 25 0 → (R.1 26 e ≤ d ↔ e ≤ net R d) := h.c.2 h1 d hd
theorem mn_sh (h : WF R) (h1 : 1 ≤ R.1 7 0) (hd : d ≤ R.1 15 0) (s : MStp R R' d) : aRing R' = aRing R ∧ aNm R' = aNm R ∧ aSh R' = aSh R ∧ aIh R' = aIh R ∧ aLg R' = aLg R ∧ aRow R' = aRow R := by
  have := s.2.2.2.2
  unfold aRing aNm aSh aIh aLg aRow
  rw [this]; exact ⟨rfl, rfl, rfl, rfl, rfl, rfl⟩
theorem mn_lot (h : WF R) (h1 : 1 ≤ R.1 7 0) (hd : d ≤ R.1 15 0) (s : MStp R R' d) {l : Nat} (l1 : 1 ≤ l) (l2 : l ≤ nlt R d) : R.1 11 l ≤ d := by
  have C := mn_c h h1 hd s
  exact (C.2.1 l l1 (by omega)).mpr l2
theorem mn_nm (h : WF R) (h1 : 1 ≤ R.1 7 0) (hd : d ≤ R.1 15 0) (s : MStp R R' d) {d' x : Nat} (d1 : 1 ≤ d') (d2 : d' ≤ d) (hx : x ∈ aNm R d') : 1 ≤ x ∧ x ≤ nlt R d := by
  have C := mn_c h h1 hd s
  have nl := (h.nl d' d1 (by omega)).2.1 x hx
  refine ⟨nl.1, (C.2.1 x nl.1 nl.2).mp ?_⟩
  rcases h.q.1 d' d1 (by omega) x hx with q | q <;> omega
theorem mn_rel (h : WF R) (h1 : 1 ≤ R.1 7 0) (hd : d ≤ R.1 15 0) (s : MStp R R' d) {d' : Nat} (d1 : 1 ≤ d') (d2 : d' ≤ d) (k5 : R.1 16 d' = 5) : 1 ≤ R.1 18 d' ∧ R.1 18 d' ≤ net R d := by
  have C := mn_c h h1 hd s
  have w7 := (h.r.2.2.2.1 d' d1 (by omega)).2.2.2.2.2.2 k5
  refine ⟨w7.1, (C.2.2 _ w7.1 w7.2).mp ?_⟩
  have := h.q.2.2 d' d1 (by omega) k5
  omega
theorem mn_aS (h : WF R) (h1 : 1 ≤ R.1 7 0) (hd : d ≤ R.1 15 0) (s : MStp R R' d) {e : Nat} {day ent : Int} (e1 : 1 ≤ e) (e2 : e ≤ net R d) (he : ent ≤ (d : Int)) : aS R' e day ent ↔ aS R e day ent := by
  have C := mn_c h h1 hd s
  obtain ⟨q1, q2, q3⟩ := s.2.2.2.1 e e2
  have g := (C.2.2 e e1 (by omega)).mpr e2
  unfold aS aF
  rw [q1, q3 e1, s.2.1 _ g 17 (by omega) (by omega)]
  by_cases k : d < R.1 27 e
  · rw [if_pos k]
    exact ⟨fun f => ⟨f.1, fun q => by omega⟩, fun f => ⟨f.1, fun q => q.1 rfl⟩⟩
  · rw [if_neg k, s.2.1 _ (by omega) 17 (by omega) (by omega)]
theorem mn_aB (h : WF R) (h1 : 1 ≤ R.1 7 0) (hd : d ≤ R.1 15 0) (s : MStp R R' d) {l : Nat} {day ent : Int} (l1 : 1 ≤ l) (l2 : l ≤ nlt R d) (he : ent ≤ (d : Int)) : aB R' l day ent ↔ aB R l day ent := by
  obtain ⟨⟨q1, _, _⟩, q3⟩ := s.2.2.1 l l2
  have g := mn_lot h h1 hd s l1 l2
  unfold aB aF
  rw [q1, q3 l1, s.2.1 _ g 17 (by omega) (by omega)]
  by_cases k : d < R.1 12 l
  · rw [if_pos k]
    exact ⟨fun f => ⟨f.1, fun q => by omega⟩, fun f => ⟨f.1, fun q => q.1 rfl⟩⟩
  · rw [if_neg k, s.2.1 _ (by omega) 17 (by omega) (by omega)]
theorem mn_aB2 (h : WF R) (h1 : 1 ≤ R.1 7 0) (hd : d ≤ R.1 15 0) (s : MStp R R' d) {l : Nat} {day ent : Int} (l1 : 1 ≤ l) (l2 : l ≤ nlt R d) (hb : aB R' l day ent) : aB R l day (min ent (d : Int)) := by
  refine (mn_aB h h1 hd s l1 l2 (by omega)).mp ⟨?_, fun f => hb.2 ⟨f.1, f.2.1, ?_⟩⟩
  · refine hb.1.imp (fun q => q) (fun q => ⟨q.1, ?_⟩)
    have g := mn_lot h h1 hd s l1 l2
    rw [(s.2.2.1 l l2).1.1] at q ⊢
    have := q.2
    omega
  · have := f.2.2; omega
theorem mn_WR (h : WF R) (h1 : 1 ≤ R.1 7 0) (hd : d ≤ R.1 15 0) (s : MStp R R' d) : WR R' := by
  have C := mn_c h h1 hd s
  have X := mn_sh h h1 hd s
  obtain ⟨s1, s2, s3, s4, s5⟩ := s
  have hs : MStp R R' d := ⟨s1, s2, s3, s4, s5⟩
  have W := h.r.1
  refine ⟨by omega, by rw [X.2.2.2.2.2]; exact h.r.2.1, fun l l1 l2 => ?_, fun d' d1 d2 => ?_, fun e e1 e2 => ?_, fun i => by rw [X.2.2.2.2.1]; exact h.r.2.2.2.2.2 i⟩
  · rw [s1.2.1] at l2
    obtain ⟨⟨q1, q2, q3⟩, q4⟩ := s3 l l2
    have g := mn_lot h h1 hd hs l1 l2
    have dl := h.dl l1 (by omega : l ≤ R.1 7 0)
    rw [X.1, q1, q2, q3, q4 l1, s1.1]
    refine ⟨h.r.rg l1 (by omega), g, ?_, dl.2.2.1, dl.2.2.2.1, dl.2.2.2.2⟩
    split <;> omega
  · rw [s1.1] at d2
    have q := s2 d' d2
    rw [q 16 (by omega) (by omega), q 17 (by omega) (by omega), q 18 (by omega) (by omega), q 19 (by omega) (by omega), q 20 (by omega) (by omega), q 21 (by omega) (by omega), s1.2.2.1]
    obtain ⟨w1, w2, w3, w4, w5, w6, w7⟩ := h.r.2.2.2.1 d' d1 (by omega)
    exact ⟨w1, w2, w3, w4, w5, w6, fun f => mn_rel h h1 hd hs d1 d2 f⟩
  · rw [s1.2.2.1] at e2
    obtain ⟨q1, q2, q3⟩ := s4 e e2
    have we := h.r.2.2.2.2.1 e e1 (by omega)
    have g := (C.2.2 e e1 (by omega)).mpr e2
    rw [q1, q2, q3 e1, s1.1, s1.2.1]
    refine ⟨by omega, ?_, mn_nm h h1 hd hs we.1.1 g (h.q.2.1 e e1 (by omega))⟩
    split <;> omega
theorem mn_aBu (h : WF R) (h1 : 1 ≤ R.1 7 0) (hd : d ≤ R.1 15 0) (s : MStp R R' d) {e l : Nat} {day ent : Int} (e1 : 1 ≤ e) (e2 : e ≤ net R d) (l1 : 1 ≤ l) (l2 : l ≤ nlt R d) (he : ent ≤ (d : Int)) : aBu R' e l day ent ↔ aBu R e l day ent := by
  unfold aBu
  rw [(mn_sh h h1 hd s).2.2.2.1, mn_aS h h1 hd s e1 e2 he, mn_aB h h1 hd s l1 l2 he]
theorem mn_WI (h : WF R) (h1 : 1 ≤ R.1 7 0) (hd : d ≤ R.1 15 0) (s : MStp R R' d) : WI R' := by
  have C := mn_c h h1 hd s
  have X := mn_sh h h1 hd s
  intro e l e1 e2 l1 l2
  rw [s.1.2.2.1] at e2
  rw [s.1.2.1] at l2
  obtain ⟨⟨q1, q2, q3⟩, _⟩ := s.2.2.1 l l2
  have g := mn_lot h h1 hd s l1 l2
  rw [X.2.2.2.1, (s.2.2.2.1 e e2).2.1, q1, q2, q3, s.2.1 _ g 17 (by omega) (by omega), mn_aS h h1 hd s e1 e2 (by omega)]
  exact h.i e l e1 (by omega) l1 (by omega)
theorem mn_WN (h : WF R) (h1 : 1 ≤ R.1 7 0) (hd : d ≤ R.1 15 0) (s : MStp R R' d) : WN R' := by
  have C := mn_c h h1 hd s
  have X := mn_sh h h1 hd s
  intro d' l d1 d2 l1 l2
  rw [s.1.1] at d2
  rw [s.1.2.1] at l2
  have q := s.2.1 d' d2
  rw [X.2.1, q 16 (by omega) (by omega), q 17 (by omega) (by omega), q 18 (by omega) (by omega), q 19 (by omega) (by omega), h.n d' l d1 (by omega) l1 (by omega)]
  refine or_congr Iff.rfl (or_congr Iff.rfl (and_congr_right (fun k5 => ?_)))
  have r := mn_rel h h1 hd s d1 d2 k5
  exact (mn_aBu h h1 hd s r.1 r.2 l1 l2 (by omega)).symm
theorem mn_WNl (h : WF R) (h1 : 1 ≤ R.1 7 0) (hd : d ≤ R.1 15 0) (s : MStp R R' d) : WNl R' := by
  have X := mn_sh h h1 hd s
  intro d' d1 d2
  rw [s.1.1] at d2
  have q := s.2.1 d' d2
  have nl := h.nl d' d1 (by omega)
  rw [X.2.1, q 16 (by omega) (by omega), q 18 (by omega) (by omega), q 19 (by omega) (by omega), s.1.2.1]
  exact ⟨nl.1, fun x hx => mn_nm h h1 hd s d1 d2 hx, nl.2.2⟩
theorem mn_WT (h : WF R) (h1 : 1 ≤ R.1 7 0) (hd : d ≤ R.1 15 0) (s : MStp R R' d) : WT R' := by
  intro d' d1 d2 k3
  rw [s.1.1] at d2
  have q := s.2.1 d' d2
  rw [q 16 (by omega) (by omega)] at k3
  rw [q 19 (by omega) (by omega), q 20 (by omega) (by omega)]
  exact h.t d' d1 (by omega) k3
theorem mn_WP (h : WF R) (h1 : 1 ≤ R.1 7 0) (hd : d ≤ R.1 15 0) (s : MStp R R' d) : WP R' := by
  have C := mn_c h h1 hd s
  refine ⟨fun l l1 l2 => ?_, fun l l1 l2 hne => ?_⟩
  · rw [s.1.2.1] at l2
    obtain ⟨⟨q1, q2, q3⟩, _⟩ := s.2.2.1 l l2
    have g := mn_lot h h1 hd s l1 l2
    have P := h.p.1 l l1 (by omega)
    rw [q1, q2, q3, s.2.1 _ g 16 (by omega) (by omega)]
    refine ⟨P.1, fun f => ?_⟩
    obtain ⟨P1, P2, P3, P4⟩ := P.2 f
    refine ⟨P1, P2, P3, fun l' a b => ?_⟩
    rw [s.1.2.1] at b
    have := P4 l' a (by omega)
    rw [(s.2.2.1 l' b).2 a]
    by_cases k : d < R.1 12 l'
    · rw [if_pos k]
      constructor
      · intro r; omega
      · intro r; have := this.mpr r; omega
    · rw [if_neg k]; exact this
  · rw [s.1.2.1] at l2
    rw [(s.2.2.1 l l2).2 l1] at hne ⊢
    by_cases k : d < R.1 12 l
    · rw [if_pos k] at hne; exact absurd rfl hne
    · rw [if_neg k] at hne ⊢
      obtain ⟨x, x1, x2, x3⟩ := h.p.2 l l1 (by omega) hne
      have hx := (C.2.1 x x1 x2).mp (by omega)
      exact ⟨x, x1, by rw [s.1.2.1]; exact hx, by rw [(s.2.2.1 x hx).1.1]; exact x3⟩
theorem mn_WO (h : WF R) (h1 : 1 ≤ R.1 7 0) (hd : d ≤ R.1 15 0) (s : MStp R R' d) : WO R' := by
  have C := mn_c h h1 hd s
  have X := mn_sh h h1 hd s
  intro l l1 l2 hne
  rw [s.1.2.1] at l2
  rw [(s.2.2.1 l l2).2 l1] at hne ⊢
  by_cases k : d < R.1 12 l
  · rw [if_pos k] at hne; exact absurd rfl hne
  · rw [if_neg k] at hne ⊢
    obtain ⟨o1, o2⟩ := h.o l l1 (by omega) hne
    rw [X.2.1, s.2.1 _ (by omega) 17 (by omega) (by omega)]
    refine ⟨o1, fun d' a b hd' => ?_⟩
    rw [s.1.1] at b
    rw [s.2.1 _ b 17 (by omega) (by omega)]
    exact o2 d' a (by omega) hd'
theorem mn_WQ (h : WF R) (h1 : 1 ≤ R.1 7 0) (hd : d ≤ R.1 15 0) (s : MStp R R' d) : WQ R' := by
  have C := mn_c h h1 hd s
  have X := mn_sh h h1 hd s
  refine ⟨fun d' a b l hl => ?_, fun e e1 e2 => ?_, fun d' a b k5 => ?_⟩
  · rw [s.1.1] at b
    rw [X.2.1] at hl
    have ll := mn_nm h h1 hd s a b hl
    have g := mn_lot h h1 hd s ll.1 ll.2
    rw [(s.2.2.1 l ll.2).1.1, s.2.1 _ g 17 (by omega) (by omega), s.2.1 _ b 17 (by omega) (by omega)]
    exact h.q.1 d' a (by omega) l hl
  · rw [s.1.2.2.1] at e2
    rw [X.2.1, (s.2.2.2.1 e e2).1, (s.2.2.2.1 e e2).2.1]
    exact h.q.2.1 e e1 (by omega)
  · rw [s.1.1] at b
    rw [s.2.1 _ b 16 (by omega) (by omega)] at k5
    have r := mn_rel h h1 hd s a b k5
    rw [s.2.1 _ b 18 (by omega) (by omega), (s.2.2.2.1 _ r.2).1]
    exact h.q.2.2 d' a (by omega) k5
theorem oN_ext {R : AR} {l p : Nat} {y e : Int} {n : Nat} : ∀ k, (∀ d, n < d → d ≤ n + k → oT R l p y e d = 0) → oN R l p y e (n + k) = oN R l p y e n := by
  intro k
  induction k with
  | zero => intro _; rfl
  | succ k ih =>
    intro f
    show oN R l p y e (n + k) + oT R l p y e (n + k + 1) = _
    rw [ih (fun d a b => f d a (by omega)), f (n + k + 1) (by omega) (by omega)]; omega
theorem mn_oN (h : WF R) (h1 : 1 ≤ R.1 7 0) (hd : d ≤ R.1 15 0) (s : MStp R R' d) {l p : Nat} {y e : Int} : oN R' l p y e d = oN R l p y (min e (d : Int)) (R.1 15 0) := by
  have e1 : oN R l p y (min e (d : Int)) (R.1 15 0) = oN R l p y (min e (d : Int)) d := by
    have := oN_ext (R := R) (l := l) (p := p) (y := y) (e := min e (d : Int)) (n := d) (R.1 15 0 - d) (fun d' a b => oT_not (fun q => by have := q.2.2.2; omega))
    rw [show d + (R.1 15 0 - d) = R.1 15 0 by omega] at this
    exact this
  rw [e1]
  refine oN_congr (fun d' a b => ?_)
  have q := s.2.1 d' b
  have : oT R' l p y e d' = oT R l p y e d' := by
    unfold oT aF
    rw [q 16 (by omega) (by omega), q 17 (by omega) (by omega), q 18 (by omega) (by omega), q 19 (by omega) (by omega), q 20 (by omega) (by omega), q 21 (by omega) (by omega)]
  rw [this]
  exact oT_force (fun _ _ => ⟨fun f => ⟨f.1, by have := f.2; omega⟩, fun f => ⟨f.1, by have := f.2; omega⟩⟩)
theorem mn_WSh (h : WF R) (h1 : 1 ≤ R.1 7 0) (hd : d ≤ R.1 15 0) (s : MStp R R' d) : WSh R' := by
  have C := mn_c h h1 hd s
  have X := mn_sh h h1 hd s
  intro l l1 l2
  rw [s.1.2.1] at l2
  obtain ⟨⟨q1, q2, q3⟩, _⟩ := s.2.2.1 l l2
  have g := mn_lot h h1 hd s l1 l2
  obtain ⟨t0, t1, t2, t3⟩ := h.sh l l1 (by omega)
  rw [q1, q2, X.2.2.1]
  refine ⟨t0, fun f p hp => ?_, t2, fun p day ent hp => ?_⟩
  · rw [s.1.1, mn_oN h h1 hd s, s.2.1 _ g 17 (by omega) (by omega), show min ((R.1 11 l : Nat) : Int) (d : Int) = (R.1 11 l : Int) by omega]
    exact t1 f p hp
  · unfold aShare
    rw [s.1.1, mn_oN h h1 hd s, X.2.2.1]
    exact t3 p day _ hp
theorem mn_WX (h : WF R) (h1 : 1 ≤ R.1 7 0) (hd : d ≤ R.1 15 0) (s : MStp R R' d) : WX R' := by
  have C := mn_c h h1 hd s
  have X := mn_sh h h1 hd s
  intro l l' day ent a1 a2 b1 b2 hne hb hb' z
  rw [s.1.2.1] at a2 b2
  rw [X.1]
  exact h.x l l' day _ a1 (by omega) b1 (by omega) hne (mn_aB2 h h1 hd s a1 a2 hb) (mn_aB2 h h1 hd s b1 b2 hb') z
theorem mn_WE (h : WF R) (h1 : 1 ≤ R.1 7 0) (hd : d ≤ R.1 15 0) (s : MStp R R' d) : WE R' := by
  have C := mn_c h h1 hd s
  have X := mn_sh h h1 hd s
  intro e e1 e2 hne l l1 l2 hi
  rw [s.1.2.2.1] at e2
  rw [s.1.2.1] at l2
  rw [(s.2.2.2.1 e e2).2.2 e1] at hne ⊢
  rw [X.2.2.2.1] at hi
  by_cases k : d < R.1 27 e
  · rw [if_pos k] at hne; exact absurd rfl hne
  · rw [if_neg k] at hne ⊢
    rw [X.2.1, s.2.1 (R.1 27 e) (by omega) 17 (by omega) (by omega)]
    rcases h.e e e1 (by omega) hne l l1 (by omega) hi with q | q
    · exact Or.inl q
    · right
      rw [(s.2.2.1 l l2).2 l1, if_neg (by omega), s.2.1 _ (by omega) 17 (by omega) (by omega)]
      exact q
theorem mn_WL (h : WF R) (h1 : 1 ≤ R.1 7 0) (hd : d ≤ R.1 15 0) (s : MStp R R' d) : WL R' := by
  have X := mn_sh h h1 hd s
  obtain ⟨⟨bd, hb⟩, l2, l3⟩ := h.l
  have we : ∀ d', d' ≤ d → wEnd R' d' = wEnd R d' := by
    intro d' hd'
    unfold wEnd
    rw [s.2.1 d' hd' 24 (by omega) (by omega)]
  refine ⟨⟨bd, fun d' a b => ?_⟩, ?_, fun _ => ?_⟩
  · rw [s.1.1] at b
    obtain ⟨a1, a2, a3, a4, a5⟩ := hb d' a (by omega)
    refine ⟨a1, a2, a3, ?_, fun i hi => ?_⟩
    · rw [we (d' - 1) (by omega), s.2.1 d' b 24 (by omega) (by omega)]; exact a4
    · rw [we (d' - 1) (by omega), X.2.2.2.2.1]; exact a5 i hi
  · rw [s.1.1, we d (Nat.le_refl _), s.1.2.2.2.1]; exact Nat.le_refl _
  · rw [s.1.1, we d (Nat.le_refl _), s.1.2.2.2.1]
theorem mn_WC (h : WF R) (h1 : 1 ≤ R.1 7 0) (hd : d ≤ R.1 15 0) (s : MStp R R' d) : WC R' := by
  have C := mn_c h h1 hd s
  refine ⟨fun f => by have := s.1.2.1; omega, fun _ d' hd' => ?_⟩
  rw [s.1.1] at hd'
  obtain ⟨C1, C2, C3⟩ := h.c.2 h1 d' (by omega)
  have n1 : nlt R' d' = nlt R d' := by unfold nlt; rw [s.2.1 d' hd' 22 (by omega) (by omega)]
  have n2 : net R' d' = net R d' := by unfold net; rw [s.2.1 d' hd' 23 (by omega) (by omega)]
  have m1 : nlt R d' ≤ nlt R d := by
    refine (C.2.1 (nlt R d') C1.1 C1.2.1).mp ?_
    have := (C2 (nlt R d') C1.1 C1.2.1).mpr (Nat.le_refl _)
    omega
  have m2 : net R d' ≤ net R d := by
    by_cases z : net R d' = 0
    · omega
    · refine (C.2.2 (net R d') (by omega) C1.2.2).mp ?_
      have := (C3 (net R d') (by omega) C1.2.2).mpr (Nat.le_refl _)
      omega
  rw [n1, n2, s.1.2.1, s.1.2.2.1]
  refine ⟨⟨C1.1, m1, m2⟩, fun l l1 l2 => ?_, fun e e1 e2 => ?_⟩
  · rw [(s.2.2.1 l l2).1.1]; exact C2 l l1 (by omega)
  · rw [(s.2.2.2.1 e e2).1]; exact C3 e e1 (by omega)
theorem WF_mnt (h : WF R) (h1 : 1 ≤ R.1 7 0) (hd : d ≤ R.1 15 0) (s : MStp R R' d) : WF R' := ⟨mn_WR h h1 hd s, mn_WI h h1 hd s, mn_WN h h1 hd s, mn_WNl h h1 hd s, mn_WT h h1 hd s, mn_WP h h1 hd s, mn_WO h h1 hd s, mn_WQ h h1 hd s, mn_WSh h h1 hd s, mn_WX h h1 hd s, mn_WE h h1 hd s, mn_WL h h1 hd s, mn_WC h h1 hd s⟩
end MNT
