/-! single writes of the book -/
section WRT
variable {qs : List Nat} {ad : Nat → Nat → Nat} {T T' T1 : CS} {R : AR}
theorem lotAt.tw {l w : Nat} (h : lotAt qs ad T R l) (g : Tw (fun a => a = w) T T') (hw : tg T w ≠ 2 ∧ tg T w ≠ 11 ∧ tg T w ≠ 12) (h1 : fi T' (ad 1 l) 1 = (R.1 11 l : Int)) (h4 : fi T' (ad 1 l) 4 = (R.1 12 l : Int)) : lotAt qs ad T' R l := by
  obtain ⟨a, b, c, d, ⟨e1, e2, e3, e4⟩, ⟨f1, f2, f3, f4, f5⟩, k⟩ := h
  have n4 : ad 4 l ≠ w := fun q => by have := b.1; rw [q] at this; omega
  have n5 : ad 5 l ≠ w := fun q => by have := b.2.2.1; rw [q] at this; omega
  have n6 : ad 6 l ≠ w := fun q => by rw [q] at e2; omega
  have n7 : ad 7 l ≠ w := fun q => by rw [q] at f2; omega
  exact ⟨by rw [g.2.2.1]; exact a, b.tw g n4 n5, h1, h4, ⟨by rw [g.2.2.1]; exact e1, by rw [g.1]; exact e2, by rw [g.2.1]; exact e3, fun p hp => by rw [g.2.2.2 _ n6]; exact e4 p hp⟩, ⟨by rw [g.2.2.1]; exact f1, by rw [g.1]; exact f2, by rw [g.2.1]; exact f3, fun i => by rw [g.2.2.2 _ n7]; exact f4 i, fun e e1 e2 => by rw [g.2.1, g.2.2.2 _ n7]; exact f5 e e1 e2⟩, k⟩
theorem BK.one (h : BK qs ad T R) {w : Nat} (g : Tw (fun a => a = w) T T') (hw : tg T w = 1 ∨ tg T w = 6 ∨ tg T w = 9 ∨ tg T w = 10) :
    fixed qs T' ∧ (w ≠ qa qs 0 → fi T' (qa qs 0) 6 = (R.1 2 0 : Int) ∧ fi T' (qa qs 0) 7 = (R.1 3 0 : Int)) ∧ ptsAt T' (qa qs 1) (qa qs 2) (aRow R) 32 ∧ lst3 qs ad T' (nL R) ∧ (∀ d, 1 ≤ d → d ≤ R.1 15 0 → deedAt qs ad T' R d) ∧ (∀ l, 1 ≤ l → l ≤ R.1 7 0 → ad 1 l ≠ w → lotAt qs ad T' R l) ∧ (∀ e, 1 ≤ e → e ≤ R.1 25 0 → ad 2 e ≠ w → easAt ad T' R e) ∧ (w ≠ qa qs 28 → logAt qs ad T' R) := by
  obtain ⟨h1, h2, h3, h4, h5, h6, h7, h8, h9⟩ := id h
  refine ⟨fun i hi => ⟨by rw [g.1]; exact (h1 i hi).1, by rw [g.2.1]; exact (h1 i hi).2.1, fun j z hz => by rw [g.2.2.1]; exact (h1 i hi).2.2 j z hz⟩, fun q => by rw [g.2.2.2 _ (fun r => q r.symm)]; exact h2, h3.tw g (fun q => ?_) (fun q => ?_), h.lst.ty (Tw.tx g).ty (fun a ha => ⟨fun q => ?_, fun q => q⟩) (fun a ha q => q), fun d a b => ?_, fun l a b c => ?_, fun e a b c => ?_, fun q => ?_⟩
  · have := h3.1; rw [q] at this; omega
  · have := h3.2.2.1; rw [q] at this; omega
  · rw [q] at ha; omega
  · obtain ⟨d1, d2, d3, d4, d5, d6, d7, d8⟩ := h6 d a b
    have t8 := h4.1.2.2.2.2.1 d a b
    have nd : ad 0 d ≠ w := fun q => by rw [q] at t8; omega
    have nn : ad 3 d ≠ w := fun q => by rw [q] at d5; omega
    unfold deedAt
    rw [g.2.2.2 _ nd, g.2.2.1, g.1, g.2.1, g.2.2.2 _ nn]
    exact ⟨d1, d2, d3, d4, d5, d6, d7, d8⟩
  · have hh := h7 l a b
    exact hh.tw g (by omega) (by rw [g.2.2.2 _ c]; exact hh.2.2.1) (by rw [g.2.2.2 _ c]; exact hh.2.2.2.1)
  · have hh := h8 e a b
    unfold easAt at hh ⊢
    rw [g.2.2.2 _ c]; exact hh
  · have nw : ad 9 0 ≠ w := fun r => by have := h9.2.2.2.1; rw [r] at this; omega
    unfold logAt
    rw [g.2.2.2 _ (fun r => q r.symm), g.2.2.1, g.1, g.2.1, g.2.2.2 _ nw]
    exact h9
theorem lotAt.cg {R' : AR} {l : Nat} (h : lotAt qs ad T R l) (h1 : aRing R' l = aRing R l) (h2 : R'.1 11 l = R.1 11 l) (h3 : R'.1 12 l = R.1 12 l) (h4 : ∀ p, aSh R' l p = aSh R l p) (h5 : R'.1 25 0 = R.1 25 0) (h6 : ∀ e, R'.1 28 e = R.1 28 e) (h7 : ∀ e, aIh R' e l = aIh R e l) : lotAt qs ad T R' l := by
  unfold lotAt at h ⊢
  rw [h1, h2, h3, h5]
  simp only [h4, h6, h7]
  exact h
theorem deedAt.cg {R' : AR} {d : Nat} (h : deedAt qs ad T R d) (h1 : ∀ f, f = 16 ∨ f = 17 ∨ f = 19 ∨ f = 20 ∨ f = 21 → R'.1 f d = R.1 f d) (h2 : aNm R' d = aNm R d) : deedAt qs ad T R' d := by
  unfold deedAt at h ⊢
  rw [h1 16 (by omega), h1 17 (by omega), h1 19 (by omega), h1 20 (by omega), h1 21 (by omega), h2]; exact h
/-- what the book doesn't show -/
theorem BK.cg {R' : AR} (h : BK qs ad T R) (h0 : ∀ f, f = 2 ∨ f = 3 ∨ f = 7 ∨ f = 15 ∨ f = 25 ∨ f = 30 ∨ f = 31 → R'.1 f 0 = R.1 f 0) (hl : ∀ f l, f = 11 ∨ f = 12 ∨ f = 16 ∨ f = 17 ∨ f = 19 ∨ f = 20 ∨ f = 21 ∨ f = 26 ∨ f = 27 ∨ f = 28 → R'.1 f l = R.1 f l) (hr : aRing R' = aRing R) (hn : aNm R' = aNm R) (hs : aSh R' = aSh R) (hi : aIh R' = aIh R) (hg : aLg R' = aLg R) (hw : aRow R' = aRow R) : BK qs ad T R' := by
  refine BK.mk h.1 (by rw [h0 2 (by omega), h0 3 (by omega)]; exact h.2.1) (by rw [hw]; exact h.2.2.1) (h.lst.cg (fun i hi => ?_) (fun _ _ => rfl)) (fun d a b => ?_) (fun l a b => ?_) (fun e a b => ?_) ?_
  · unfold nL
    rcases (show i = 0 ∨ i = 1 ∨ i = 2 by omega) with r | r | r <;> subst r
    · exact h0 15 (by omega)
    · exact h0 7 (by omega)
    · exact h0 25 (by omega)
  · rw [h0 15 (by omega)] at b
    exact (h.2.2.2.2.2.1 d a b).cg (fun f hf => hl f d (by omega)) (by rw [hn])
  · rw [h0 7 (by omega)] at b
    exact (h.2.2.2.2.2.2.1 l a b).cg (by rw [hr]) (hl 11 l (by omega)) (hl 12 l (by omega)) (fun p => by rw [hs]) (h0 25 (by omega)) (fun e => hl 28 e (by omega)) (fun e => by rw [hi])
  · rw [h0 25 (by omega)] at b
    have hh := h.2.2.2.2.2.2.2.1 e a b
    unfold easAt at hh ⊢
    rw [hl 28 e (by omega), hl 26 e (by omega), hl 27 e (by omega)]; exact hh
  · have hh := h.2.2.2.2.2.2.2.2
    unfold logAt at hh ⊢
    rw [h0 30 (by omega), h0 31 (by omega), hg]; exact hh
theorem rN1 (R : AR) (f i v f' i' : Nat) : (rN R [(f, i, v)]).1 f' i' = if f' = f ∧ i' = i then v else R.1 f' i' := rfl
theorem BK.end (h : BK qs ad T R) {l v : Nat} (l1 : 1 ≤ l) (l2 : l ≤ R.1 7 0) : BK qs ad (cs_i T (ad 1 l) 4 v) (rN R [(12, l, v)]) := by
  have t9 := h.2.2.2.1.2.1.2.2.2.2.1 l l1 l2
  have g : Tw (fun a => a = ad 1 l) T (cs_i T (ad 1 l) 4 v) := Tw_i rfl
  have u : ∀ f i, f ≠ 12 → (rN R [(12, l, v)]).1 f i = R.1 f i := fun f i hf => by rw [rN1, if_neg (fun q => hf q.1)]
  obtain ⟨p1, p2, p3, p4, p5, p6, p7, p8⟩ := h.one g (by omega)
  have nq : ∀ i, i < 30 → t0_tag i ≠ 9 → ad 1 l ≠ qa qs i := fun i hi ht q => by have := (h.1 i hi).1; rw [← q, t9] at this; omega
  refine BK.mk p1 (p2 (nq 0 (by omega) (by decide))) p3 (p4.cg (fun i hi => ?_) (fun _ _ => rfl)) (fun d a b => (p5 d a b).cg (fun f hf => u f d (by omega)) rfl) (fun m a b => ?_) (fun e a b => ?_) (p8 (nq 28 (by omega) (by decide)))
  · unfold nL
    rcases (show i = 0 ∨ i = 1 ∨ i = 2 by omega) with r | r | r <;> subst r <;> rfl
  · by_cases c : m = l
    · subst c
      have hh := h.2.2.2.2.2.2.1 m a b
      have h2 : lotAt qs ad (cs_i T (ad 1 m) 4 v) (rN R [(12, m, v)]) m := by
        have b2 : lotAt qs ad T (rN R [(12, m, v)]) m ∨ True := Or.inr trivial
        obtain ⟨a, b, c, d, ⟨e1, e2, e3, e4⟩, ⟨f1, f2, f3, f4, f5⟩, k⟩ := hh
        have n4 : ad 4 m ≠ ad 1 m := fun q => by have := b.1; rw [q] at this; omega
        have n5 : ad 5 m ≠ ad 1 m := fun q => by have := b.2.2.1; rw [q] at this; omega
        have n6 : ad 6 m ≠ ad 1 m := fun q => by rw [q] at e2; omega
        have n7 : ad 7 m ≠ ad 1 m := fun q => by rw [q] at f2; omega
        refine ⟨a, b.tw g n4 n5, ?_, ?_, ⟨e1, e2, e3, fun p hp => by rw [g.2.2.2 _ n6]; exact e4 p hp⟩, ⟨f1, f2, f3, fun i => by rw [g.2.2.2 _ n7]; exact f4 i, fun e e1 e2 => by rw [g.2.2.2 _ n7]; exact f5 e e1 e2⟩, k⟩
        · rw [cs_i_fi, if_neg (fun q => by omega)]; exact c
        · rw [cs_i_fi, if_pos ⟨rfl, rfl⟩, rN1, if_pos ⟨rfl, rfl⟩]
      exact h2
    · have hne : ad 1 m ≠ ad 1 l := fun q => c (h.2.2.2.1.2.1.2.2.2.2.2 m l a b l1 l2 q)
      exact (p6 m a b hne).cg rfl (u 11 m (by omega)) (by rw [rN1, if_neg (fun q => c q.2)]) (fun _ => rfl) rfl (fun e => u 28 e (by omega)) (fun _ => rfl)
  · have t10 := h.2.2.2.1.2.2.2.2.2.2.1 e a b
    exact p7 e a b (fun q => by rw [q] at t10; omega)
theorem BK.rel (h : BK qs ad T R) {e v : Nat} (l1 : 1 ≤ e) (l2 : e ≤ R.1 25 0) : BK qs ad (cs_i T (ad 2 e) 2 v) (rN R [(27, e, v)]) := by
  have t10 := h.2.2.2.1.2.2.2.2.2.2.1 e l1 l2
  have g : Tw (fun a => a = ad 2 e) T (cs_i T (ad 2 e) 2 v) := Tw_i rfl
  have u : ∀ f i, f ≠ 27 → (rN R [(27, e, v)]).1 f i = R.1 f i := fun f i hf => by rw [rN1, if_neg (fun q => hf q.1)]
  obtain ⟨p1, p2, p3, p4, p5, p6, p7, p8⟩ := h.one g (by omega)
  have nq : ∀ i, i < 30 → t0_tag i ≠ 10 → ad 2 e ≠ qa qs i := fun i hi ht q => by have := (h.1 i hi).1; rw [← q, t10] at this; omega
  refine BK.mk p1 (p2 (nq 0 (by omega) (by decide))) p3 (p4.cg (fun i hi => ?_) (fun _ _ => rfl)) (fun d a b => (p5 d a b).cg (fun f hf => u f d (by omega)) rfl) (fun m a b => ?_) (fun e' a b => ?_) (p8 (nq 28 (by omega) (by decide)))
  · unfold nL
    rcases (show i = 0 ∨ i = 1 ∨ i = 2 by omega) with r | r | r <;> subst r <;> rfl
  · have t9 := h.2.2.2.1.2.1.2.2.2.2.1 m a b
    exact (p6 m a b (fun q => by rw [q] at t9; omega)).cg rfl (u 11 m (by omega)) (u 12 m (by omega)) (fun _ => rfl) rfl (fun e => u 28 e (by omega)) (fun _ => rfl)
  · by_cases c : e' = e
    · subst c
      have hh := h.2.2.2.2.2.2.2.1 e' a b
      unfold easAt at hh ⊢
      rw [u 28 e' (by omega), u 26 e' (by omega), rN1, if_pos ⟨rfl, rfl⟩]
      refine ⟨?_, ?_, ?_⟩
      · rw [cs_i_fi, if_neg (fun q => by omega)]; exact hh.1
      · rw [cs_i_fi, if_neg (fun q => by omega)]; exact hh.2.1
      · rw [cs_i_fi, if_pos ⟨rfl, rfl⟩]
    · have hne : ad 2 e' ≠ ad 2 e := fun q => c (h.2.2.2.1.2.2.2.2.2.2.2 e' e a b l1 l2 q)
      have hh := p7 e' a b hne
      unfold easAt at hh ⊢
      rw [u 28 e' (by omega), u 26 e' (by omega), rN1, if_neg (fun q => c q.2)]; exact hh
theorem BK.flag (h : BK qs ad T R) {j v : Nat} (hj : j = 6 ∨ j = 7) : BK qs ad (cs_i T (qa qs 0) j v) (rN R [(j - 4, 0, v)]) := by
  have t1 := h.1.tag (i := 0) (t := 1) (by omega) rfl
  have g : Tw (fun a => a = qa qs 0) T (cs_i T (qa qs 0) j v) := Tw_i rfl
  have u : ∀ f i, f ≠ j - 4 → (rN R [(j - 4, 0, v)]).1 f i = R.1 f i := fun f i hf => by rw [rN1, if_neg (fun q => hf q.1)]
  obtain ⟨p1, p2, p3, p4, p5, p6, p7, p8⟩ := h.one g (by omega)
  have t28 := h.1.tag (i := 28) (t := 6) (by omega) rfl
  have v0 : fi (cs_i T (qa qs 0) j v) (qa qs 0) 6 = ((rN R [(j - 4, 0, v)]).1 2 0 : Int) ∧ fi (cs_i T (qa qs 0) j v) (qa qs 0) 7 = ((rN R [(j - 4, 0, v)]).1 3 0 : Int) := by
    rw [cs_i_fi, cs_i_fi, rN1, rN1]
    have := h.2.1
    rcases hj with q | q <;> subst q
    · rw [if_pos ⟨rfl, rfl⟩, if_pos ⟨rfl, rfl⟩, if_neg (by omega), if_neg (by omega)]; exact ⟨rfl, this.2⟩
    · rw [if_neg (by omega), if_neg (by omega), if_pos ⟨rfl, rfl⟩, if_pos ⟨rfl, rfl⟩]; exact ⟨this.1, rfl⟩
  refine BK.mk p1 v0 p3 (p4.cg (fun i hi => ?_) (fun _ _ => rfl)) (fun d a b => ?_) (fun m a b => ?_) (fun e a b => ?_) ?_
  · unfold nL
    rcases (show i = 0 ∨ i = 1 ∨ i = 2 by omega) with r | r | r <;> subst r
    · exact u 15 0 (by omega)
    · exact u 7 0 (by omega)
    · exact u 25 0 (by omega)
  · rw [u 15 0 (by omega)] at b
    exact (p5 d a b).cg (fun f hf => u f d (by omega)) rfl
  · rw [u 7 0 (by omega)] at b
    have t9 := h.2.2.2.1.2.1.2.2.2.2.1 m a b
    exact (p6 m a b (fun q => by rw [q] at t9; omega)).cg rfl (u 11 m (by omega)) (u 12 m (by omega)) (fun _ => rfl) (u 25 0 (by omega)) (fun e => u 28 e (by omega)) (fun _ => rfl)
  · rw [u 25 0 (by omega)] at b
    have t10 := h.2.2.2.1.2.2.2.2.2.2.1 e a b
    have hh := p7 e a b (fun q => by rw [q] at t10; omega)
    unfold easAt at hh ⊢
    rw [u 28 e (by omega), u 26 e (by omega), u 27 e (by omega)]; exact hh
  · have hh := p8 (fun q => by rw [q] at t1; omega)
    unfold logAt at hh ⊢
    rw [u 30 0 (by omega), u 31 0 (by omega)]; exact hh
theorem BK.log (h : BK qs ad T R) {j v : Nat} (hj : j = 1 ∨ j = 2) (hv : j = 1 → v ≤ R.1 30 0) : BK qs ad (cs_i T (qa qs 28) j v) (rN R [(29 + j, 0, v)]) := by
  have t28 := h.1.tag (i := 28) (t := 6) (by omega) rfl
  have t1 := h.1.tag (i := 0) (t := 1) (by omega) rfl
  have g : Tw (fun a => a = qa qs 28) T (cs_i T (qa qs 28) j v) := Tw_i rfl
  have u : ∀ f i, f ≠ 29 + j → (rN R [(29 + j, 0, v)]).1 f i = R.1 f i := fun f i hf => by rw [rN1, if_neg (fun q => hf q.1)]
  obtain ⟨p1, p2, p3, p4, p5, p6, p7, p8⟩ := h.one g (by omega)
  refine BK.mk p1 (by rw [u 2 0 (by omega), u 3 0 (by omega)]; exact p2 (fun q => by rw [q] at t28; omega)) p3 (p4.cg (fun i hi => ?_) (fun _ _ => rfl)) (fun d a b => ?_) (fun m a b => ?_) (fun e a b => ?_) ?_
  · unfold nL
    rcases (show i = 0 ∨ i = 1 ∨ i = 2 by omega) with r | r | r <;> subst r
    · exact u 15 0 (by omega)
    · exact u 7 0 (by omega)
    · exact u 25 0 (by omega)
  · rw [u 15 0 (by omega)] at b
    exact (p5 d a b).cg (fun f hf => u f d (by omega)) rfl
  · rw [u 7 0 (by omega)] at b
    have t9 := h.2.2.2.1.2.1.2.2.2.2.1 m a b
    exact (p6 m a b (fun q => by rw [q] at t9; omega)).cg rfl (u 11 m (by omega)) (u 12 m (by omega)) (fun _ => rfl) (u 25 0 (by omega)) (fun e => u 28 e (by omega)) (fun _ => rfl)
  · rw [u 25 0 (by omega)] at b
    have t10 := h.2.2.2.1.2.2.2.2.2.2.1 e a b
    have hh := p7 e a b (fun q => by rw [q] at t10; omega)
    unfold easAt at hh ⊢
    rw [u 28 e (by omega), u 26 e (by omega), u 27 e (by omega)]; exact hh
  · obtain ⟨a1, a2, a3, a4, a5, a6, a7⟩ := h.2.2.2.2.2.2.2.2
    have nw : ad 9 0 ≠ qa qs 28 := fun q => by rw [q] at a4; omega
    unfold logAt
    rw [rN1, rN1, cs_i_fi, cs_i_fi]
    rcases hj with q | q <;> subst q
    · have := hv rfl
      rw [if_pos ⟨rfl, rfl⟩, if_pos ⟨rfl, rfl⟩, if_neg (by omega), if_neg (by omega)]
      refine ⟨rfl, a2, a3, a4, ⟨Nat.le_trans this a5.1, a5.2⟩, fun i hi => ?_, a7⟩
      rw [g.2.2.2 _ nw]; exact a6 i (Nat.lt_of_lt_of_le hi this)
    · rw [if_neg (by omega), if_neg (by omega), if_pos ⟨rfl, rfl⟩, if_pos ⟨rfl, rfl⟩]
      exact ⟨a1, rfl, a3, a4, a5, fun i hi => by rw [g.2.2.2 _ nw]; exact a6 i hi, a7⟩
def rRow (R : AR) (l : List PT) : AR := (R.1, aRing R, aNm R, aSh R, aIh R, aLg R, l)
theorem BK.row (hq : qs.Nodup) (hl : qs.length = 30) (h : BK qs ad T R) {l : List PT} (g : Tw (fun a => a = qa qs 1 ∨ a = qa qs 2) T T') (hp : ptsAt T' (qa qs 1) (qa qs 2) l 32) : BK qs ad T' (rRow R l) := by
  obtain ⟨h1, h2, h3, h4, h5, h6, h7, h8, h9⟩ := id h
  have ne : ∀ i, i < 30 → i ≠ 1 → i ≠ 2 → ¬ (qa qs i = qa qs 1 ∨ qa qs i = qa qs 2) := by
    rintro i hi a b (q | q)
    · exact a (qa_inj hq hl hi (by omega) q)
    · exact b (qa_inj hq hl hi (by omega) q)
  have t1 := h1.tag (i := 1) (t := 2) (by omega) rfl
  have t2 := h1.tag (i := 2) (t := 11) (by omega) rfl
  have nt : ∀ a, tg T a ≠ 2 → tg T a ≠ 11 → ¬ (a = qa qs 1 ∨ a = qa qs 2) := by
    rintro a x y (q | q)
    · rw [q] at x; exact x t1
    · rw [q] at y; exact y t2
  have nm : ∀ a, a ∉ qs → ¬ (a = qa qs 1 ∨ a = qa qs 2) := by
    rintro a x (q | q)
    · exact x (by rw [q]; exact qa_mem hl (by omega))
    · exact x (by rw [q]; exact qa_mem hl (by omega))
  refine BK.mk (fun i hi => ⟨by rw [g.1]; exact (h1 i hi).1, by rw [g.2.1]; exact (h1 i hi).2.1, fun j z hz => by rw [g.2.2.1]; exact (h1 i hi).2.2 j z hz⟩) (by rw [g.2.2.2 _ (ne 0 (by omega) (by omega) (by omega))]; exact h2) hp (h.lst.ty (Tw.tx g).ty (fun a ha => ⟨nt a (by omega) (by omega), fun q => q⟩) (fun a ha q => q)) (fun d a b => ?_) (fun l' a b => ?_) (fun e a b => ?_) ?_
  · obtain ⟨d1, d2, d3, d4, d5, d6, d7, d8, d9⟩ := h6 d a b
    have t8 := h4.1.2.2.2.2.1 d a b
    unfold deedAt
    rw [g.2.2.2 _ (nt (ad 0 d) (by omega) (by omega)), g.2.2.1, g.1, g.2.1, g.2.2.2 _ (nm _ d8)]
    exact ⟨d1, d2, d3, d4, d5, d6, d7, d8, d9⟩
  · have t9 := h4.2.1.2.2.2.2.1 l' a b
    obtain ⟨a, b, c, d, ⟨e1, e2, e3, e4⟩, ⟨f1, f2, f3, f4, f5⟩, ⟨k1, k2, k3⟩, k4⟩ := h7 l' a b
    have n7 := nt (ad 7 l') (by omega) (by omega)
    exact ⟨by rw [g.2.2.1]; exact a, b.tw g (nm _ k1) (nm _ k2), by rw [g.2.2.2 _ (nt _ (by omega) (by omega))]; exact c, by rw [g.2.2.2 _ (nt _ (by omega) (by omega))]; exact d, ⟨by rw [g.2.2.1]; exact e1, by rw [g.1]; exact e2, by rw [g.2.1]; exact e3, fun p hp => by rw [g.2.2.2 _ (nm _ k3)]; exact e4 p hp⟩, ⟨by rw [g.2.2.1]; exact f1, by rw [g.1]; exact f2, by rw [g.2.1]; exact f3, fun i => by rw [g.2.2.2 _ n7]; exact f4 i, fun e e1 e2 => by rw [g.2.1, g.2.2.2 _ n7]; exact f5 e e1 e2⟩, ⟨k1, k2, k3⟩, k4⟩
  · have t10 := h4.2.2.2.2.2.2.1 e a b
    have hh := h8 e a b
    unfold easAt at hh ⊢
    rw [g.2.2.2 _ (nt (ad 2 e) (by omega) (by omega))]; exact hh
  · obtain ⟨a1, a2, a3, a4, a5, a6, a7⟩ := h9
    have nw : ¬ (ad 9 0 = qa qs 1 ∨ ad 9 0 = qa qs 2) := by
      rcases a7 with q | q
      · rw [q]; exact ne 29 (by omega) (by omega) (by omega)
      · exact nm _ q
    unfold logAt
    rw [g.2.2.2 _ (ne 28 (by omega) (by omega) (by omega)), g.2.2.1, g.1, g.2.1, g.2.2.2 _ nw]
    exact ⟨a1, a2, a3, a4, a5, a6, a7⟩
end WRT
