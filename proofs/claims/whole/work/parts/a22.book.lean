/-! THE BOOK'S PICTURE -/
def Tx (P : Nat → Prop) (T T' : CS) : Prop := ∀ a, tg T a ≠ 0 → tg T' a = tg T a ∧ ln T' a = ln T a ∧ fo T' a = fo T a ∧ (¬ P a → fi T' a = fi T a)
theorem Tx_refl (P : Nat → Prop) (T : CS) : Tx P T T := fun _ _ => ⟨rfl, rfl, rfl, fun _ => rfl⟩
theorem Tx_trans {P : Nat → Prop} {T T' T2 : CS} (h : Tx P T T') (g : Tx P T' T2) : Tx P T T2 := by
  intro a ha
  obtain ⟨h1, h2, h3, h4⟩ := h a ha
  obtain ⟨g1, g2, g3, g4⟩ := g a (by rw [h1]; exact ha)
  exact ⟨g1.trans h1, g2.trans h2, g3.trans h3, fun q => (g4 q).trans (h4 q)⟩
theorem Tw.tx {P : Nat → Prop} {T T' : CS} (h : Tw P T T') : Tx P T T' := fun a _ => ⟨h.1 a, h.2.1 a, h.2.2.1 a, h.2.2.2 a⟩
theorem Tx_mono {P Q : Nat → Prop} {T T' : CS} (h : Tx P T T') (g : ∀ a, P a → Q a) : Tx Q T T' := fun a ha => ⟨(h a ha).1, (h a ha).2.1, (h a ha).2.2.1, fun q => (h a ha).2.2.2 (fun f => q (g a f))⟩
theorem Tx_new (P : Nat → Prop) {T : CS} {q t n : Nat} (h : tg T q = 0) : Tx P T (cs_new T q t n) := by
  intro a ha
  have hne : a ≠ q := fun f => ha (by rw [f]; exact h)
  refine ⟨if_neg hne, if_neg hne, ?_, fun _ => ?_⟩
  · funext j; exact if_neg hne
  · funext j; exact if_neg hne
theorem Tx_cl (P : Nat → Prop) {T : CS} {q b : Nat} (h : tg T q = 0) : Tx P T (cs_cl T q b) := by
  intro a ha
  have hne : a ≠ q := fun f => ha (by rw [f]; exact h)
  refine ⟨if_neg hne, if_neg hne, ?_, fun _ => ?_⟩
  · funext j; exact if_neg hne
  · funext j; exact if_neg hne
theorem ptsAt.tx {P : Nat → Prop} {T T' : CS} {a b cap : Nat} {l : List PT} (h : ptsAt T a b l cap) (g : Tx P T T') (ha : ¬ P a) (hb : ¬ P b) : ptsAt T' a b l cap := by
  obtain ⟨h1, h2, h3, h4, h5, h6, h7⟩ := h
  have ga := g a (by omega)
  have gb := g b (by omega)
  exact ⟨by rw [ga.1]; exact h1, by rw [ga.2.2.1]; exact h2, by rw [gb.1]; exact h3, by rw [gb.2.1]; exact h4, by rw [ga.2.2.2 ha]; exact h5, h6, fun i hi => by rw [gb.2.2.2 hb]; exact h7 i hi⟩
theorem spt_tx {P : Nat → Prop} {T T' : CS} {a b cap : Nat} (h : spt T a b cap) (g : Tx P T T') : spt T' a b cap := by
  obtain ⟨h1, h2, h3, h4, h5⟩ := h
  have ga := g a (by omega)
  have gb := g b (by omega)
  exact ⟨by rw [ga.1]; exact h1, by rw [ga.2.2.1]; exact h2, by rw [gb.1]; exact h3, by rw [gb.2.1]; exact h4, h5⟩
/-- a list of n objects of one tag -/
def alist (T : CS) (A x n : Nat) (f : Nat → Nat) (t : Nat) : Prop := tg T A = 7 ∧ fi T A 1 = (n : Int) ∧ fo T A 0 = some x ∧ ((tg T x = 20 ∧ n = 0 ∧ ln T x = 0) ∨ (tg T x = 13 ∧ 1 ≤ ln T x ∧ n ≤ ln T x ∧ ln T x ≤ 1000 ∧ (∀ i, i < n → fo T x i = some (f (i + 1))) ∧ ∀ i, n ≤ i → fo T x i = none)) ∧ (∀ i, 1 ≤ i → i ≤ n → tg T (f i) = t) ∧ ∀ i j, 1 ≤ i → i ≤ n → 1 ≤ j → j ≤ n → f i = f j → i = j
abbrev qa (qs : List Nat) (i : Nat) : Nat := qs.getD i 0
def fixed (qs : List Nat) (T : CS) : Prop := ∀ i, i < 30 → tg T (qa qs i) = t0_tag i ∧ ln T (qa qs i) = t0_len i ∧ ∀ j z, (t0_ref i)[j]? = some z → (i = 23 ∨ i = 24 ∨ i = 25 ∨ i = 28) ∨ fo T (qa qs i) j = some (qa qs z)
/-- what may be written over -/
def scr (qs : List Nat) (a : Nat) : Prop := ∃ i, (i = 3 ∨ i = 4 ∨ (6 ≤ i ∧ i ≤ 11) ∨ (13 ≤ i ∧ i ≤ 21) ∨ i = 26 ∨ i = 27) ∧ a = qa qs i
def deedAt (qs : List Nat) (ad : Nat → Nat → Nat) (T : CS) (R : AR) (d : Nat) : Prop := fi T (ad 0 d) 0 = (R.1 16 d : Int) ∧ fi T (ad 0 d) 1 = (R.1 17 d : Int) ∧ (R.1 16 d = 3 → fi T (ad 0 d) 3 = (R.1 19 d : Int) ∧ fi T (ad 0 d) 4 = (R.1 20 d : Int) ∧ fi T (ad 0 d) 5 = (R.1 21 d : Int)) ∧ fo T (ad 0 d) 2 = some (ad 3 d) ∧ tg T (ad 3 d) = 11 ∧ ln T (ad 3 d) = (aNm R d).length ∧ (∀ i, i < (aNm R d).length → fi T (ad 3 d) i = (((aNm R d).getD i 0 : Nat) : Int)) ∧ ad 3 d ∉ qs ∧ ad 3 d ≠ ad 9 0
def lotAt (qs : List Nat) (ad : Nat → Nat → Nat) (T : CS) (R : AR) (l : Nat) : Prop := fo T (ad 1 l) 0 = some (ad 4 l) ∧ ptsAt T (ad 4 l) (ad 5 l) (aRing R l) (aRing R l).length ∧ fi T (ad 1 l) 1 = (R.1 11 l : Int) ∧ fi T (ad 1 l) 4 = (R.1 12 l : Int) ∧ (fo T (ad 1 l) 2 = some (ad 6 l) ∧ tg T (ad 6 l) = 11 ∧ ln T (ad 6 l) = 100 ∧ ∀ p, p < 100 → fi T (ad 6 l) p = aSh R l p) ∧ (fo T (ad 1 l) 3 = some (ad 7 l) ∧ tg T (ad 7 l) = 12 ∧ ln T (ad 7 l) ≤ 300 ∧ (∀ i, b01 (fi T (ad 7 l) i)) ∧ ∀ e, 1 ≤ e → e ≤ R.1 25 0 → ((R.1 28 e = l ∨ (e < ln T (ad 7 l) ∧ fi T (ad 7 l) e ≠ 0)) ↔ aIh R e l = true)) ∧ (ad 4 l ∉ qs ∧ ad 5 l ∉ qs ∧ ad 6 l ∉ qs) ∧ ad 5 l ≠ ad 9 0 ∧ ad 6 l ≠ ad 9 0
def easAt (ad : Nat → Nat → Nat) (T : CS) (R : AR) (e : Nat) : Prop := fi T (ad 2 e) 0 = (R.1 28 e : Int) ∧ fi T (ad 2 e) 1 = (R.1 26 e : Int) ∧ fi T (ad 2 e) 2 = (R.1 27 e : Int)
def logAt (qs : List Nat) (ad : Nat → Nat → Nat) (T : CS) (R : AR) : Prop := fi T (qa qs 28) 1 = (R.1 30 0 : Int) ∧ fi T (qa qs 28) 2 = (R.1 31 0 : Int) ∧ fo T (qa qs 28) 0 = some (ad 9 0) ∧ tg T (ad 9 0) = 11 ∧ (R.1 30 0 ≤ ln T (ad 9 0) ∧ 256 ≤ ln T (ad 9 0) ∧ ln T (ad 9 0) ≤ 24000) ∧ (∀ i, i < R.1 30 0 → fi T (ad 9 0) i = aLg R i) ∧ (ad 9 0 = qa qs 29 ∨ ad 9 0 ∉ qs)
def BK (qs : List Nat) (ad : Nat → Nat → Nat) (T : CS) (R : AR) : Prop :=
  fixed qs T ∧ (fi T (qa qs 0) 6 = (R.1 2 0 : Int) ∧ fi T (qa qs 0) 7 = (R.1 3 0 : Int)) ∧ ptsAt T (qa qs 1) (qa qs 2) (aRow R) 32 ∧
  (alist T (qa qs 23) (ad 8 0) (R.1 15 0) (ad 0) 8 ∧ alist T (qa qs 24) (ad 8 1) (R.1 7 0) (ad 1) 9 ∧ alist T (qa qs 25) (ad 8 2) (R.1 25 0) (ad 2) 10) ∧
  (∀ i j, i < 3 → j < 3 → i ≠ j → tg T (ad 8 i) = 13 → ad 8 i ≠ ad 8 j) ∧
  (∀ d, 1 ≤ d → d ≤ R.1 15 0 → deedAt qs ad T R d) ∧ (∀ l, 1 ≤ l → l ≤ R.1 7 0 → lotAt qs ad T R l) ∧ (∀ e, 1 ≤ e → e ≤ R.1 25 0 → easAt ad T R e) ∧ logAt qs ad T R
section BKS
variable {qs : List Nat} {ad : Nat → Nat → Nat} {T T' : CS} {R : AR}
theorem qa_inj (hq : qs.Nodup) (hl : qs.length = 30) {i j : Nat} (hi : i < 30) (hj : j < 30) (e : qa qs i = qa qs j) : i = j := by
  unfold qa at e
  have h1 : qs.getD i 0 = qs[i] := by simp [hl, hi]
  have h2 : qs.getD j 0 = qs[j] := by simp [hl, hj]
  rw [h1, h2] at e
  unfold List.Nodup at hq
  rw [List.pairwise_iff_getElem] at hq
  rcases Nat.lt_trichotomy i j with c | c | c
  · exact absurd e (hq i j (by omega) (by omega) c)
  · exact c
  · exact absurd e.symm (hq j i (by omega) (by omega) c)
theorem qa_mem (hl : qs.length = 30) {i : Nat} (hi : i < 30) : qa qs i ∈ qs := by
  unfold qa
  have h1 : qs.getD i 0 = qs[i] := by simp [hl, hi]
  rw [h1]; exact List.getElem_mem _
theorem scr_mem (hl : qs.length = 30) {a : Nat} (h : scr qs a) : a ∈ qs := by
  obtain ⟨i, hi, e⟩ := h
  rw [e]; exact qa_mem hl (by omega)
theorem scr_no (hq : qs.Nodup) (hl : qs.length = 30) {i : Nat} (hi : i < 30) (hn : ¬ (i = 3 ∨ i = 4 ∨ (6 ≤ i ∧ i ≤ 11) ∨ (13 ≤ i ∧ i ≤ 21) ∨ i = 26 ∨ i = 27)) : ¬ scr qs (qa qs i) := by
  rintro ⟨j, hj, e⟩
  have := qa_inj hq hl hi (by omega) e
  rw [this] at hn; exact hn hj
theorem alist_tx {P : Nat → Prop} {A x n t : Nat} {f : Nat → Nat} (h : alist T A x n f t) (g : Tx P T T') (hA : ¬ P A) (ht : t ≠ 0) : alist T' A x n f t := by
  obtain ⟨h1, h2, h3, h4, h5, h6⟩ := h
  have gA := g A (by omega)
  refine ⟨by rw [gA.1]; exact h1, by rw [gA.2.2.2 hA]; exact h2, by rw [gA.2.2.1]; exact h3, ?_, fun i a b => ?_, h6⟩
  · rcases h4 with ⟨a, b, c⟩ | ⟨a, b, c, d, e, f⟩
    · have gx := g x (by omega)
      exact Or.inl ⟨by rw [gx.1]; exact a, b, by rw [gx.2.1]; exact c⟩
    · have gx := g x (by omega)
      exact Or.inr ⟨by rw [gx.1]; exact a, by rw [gx.2.1]; exact b, by rw [gx.2.1]; exact c, by rw [gx.2.1]; exact d, fun i hi => by rw [gx.2.2.1]; exact e i hi, fun i hi => by rw [gx.2.2.1]; exact f i hi⟩
  · have := h5 i a b
    rw [(g (f i) (by omega)).1]; exact this
theorem fixed_tx {P : Nat → Prop} (h : fixed qs T) (g : Tx P T T') : fixed qs T' := by
  intro i hi
  obtain ⟨a, b, c⟩ := h i hi
  have gi := g (qa qs i) (by rw [a]; exact (t0_tag_lo i hi).1)
  refine ⟨by rw [gi.1]; exact a, by rw [gi.2.1]; exact b, fun j z hz => ?_⟩
  rw [gi.2.2.1]; exact c j z hz
theorem BK.tx (hq : qs.Nodup) (hl : qs.length = 30) (h : BK qs ad T R) (g : Tx (scr qs) T T') : BK qs ad T' R := by
  obtain ⟨h1, h2, h3, ⟨h4, h5, h6⟩, h7, h8, h9, h10, h11⟩ := h
  have g0 := g (qa qs 0) (by rw [(h1 0 (by omega)).1]; decide)
  have n0 := scr_no hq hl (i := 0) (by omega) (by omega)
  refine ⟨fixed_tx h1 g, ⟨by rw [g0.2.2.2 n0]; exact h2.1, by rw [g0.2.2.2 n0]; exact h2.2⟩, h3.tx g (scr_no hq hl (by omega) (by omega)) (scr_no hq hl (by omega) (by omega)), ⟨alist_tx h4 g (scr_no hq hl (by omega) (by omega)) (by omega), alist_tx h5 g (scr_no hq hl (by omega) (by omega)) (by omega), alist_tx h6 g (scr_no hq hl (by omega) (by omega)) (by omega)⟩, ?_, ?_, ?_, ?_, ?_⟩
  · intro i j hi hj hij ht
    refine h7 i j hi hj hij ?_
    have hx : tg T (ad 8 i) ≠ 0 := by
      rcases (show i = 0 ∨ i = 1 ∨ i = 2 by omega) with q | q | q <;> subst q
      · rcases h4.2.2.2.1 with f | f <;> omega
      · rcases h5.2.2.2.1 with f | f <;> omega
      · rcases h6.2.2.2.1 with f | f <;> omega
    rw [← (g _ hx).1]; exact ht
  · intro d d1 d2
    obtain ⟨a, b, c, e, f, i, j, k, m⟩ := h8 d d1 d2
    have t1 := h4.2.2.2.2.1 d d1 d2
    have gd := g (ad 0 d) (by omega)
    have gn := g (ad 3 d) (by omega)
    have nd : ¬ scr qs (ad 0 d) := by
      rintro ⟨x, hx, ex⟩
      have := (h1 x (by omega)).1
      rw [← ex, t1] at this
      have := t0_tag_lo x (by omega)
      rcases (show x = 3 ∨ x = 4 ∨ x = 6 ∨ x = 7 ∨ x = 8 ∨ x = 9 ∨ x = 10 ∨ x = 11 ∨ x = 13 ∨ x = 14 ∨ x = 15 ∨ x = 16 ∨ x = 17 ∨ x = 18 ∨ x = 19 ∨ x = 20 ∨ x = 21 ∨ x = 26 ∨ x = 27 by omega) with q | q | q | q | q | q | q | q | q | q | q | q | q | q | q | q | q | q | q <;> subst q <;> simp [t0_tag] at *
    have nn : ¬ scr qs (ad 3 d) := fun q => k (scr_mem hl q)
    refine ⟨by rw [gd.2.2.2 nd]; exact a, by rw [gd.2.2.2 nd]; exact b, fun q => by rw [gd.2.2.2 nd]; exact c q, by rw [gd.2.2.1]; exact e, by rw [gn.1]; exact f, by rw [gn.2.1]; exact i, fun x hx => by rw [gn.2.2.2 nn]; exact j x hx, k, m⟩
  · intro l l1 l2
    obtain ⟨a, b, c, d, ⟨e1, e2, e3, e4⟩, ⟨f1, f2, f3, f4, f5⟩, ⟨k1, k2, k3⟩, k4, k5⟩ := h9 l l1 l2
    have t1 := h5.2.2.2.2.1 l l1 l2
    have gd := g (ad 1 l) (by omega)
    have nd : ¬ scr qs (ad 1 l) := by
      rintro ⟨x, hx, ex⟩
      have := (h1 x (by omega)).1
      rw [← ex, t1] at this
      rcases (show x = 3 ∨ x = 4 ∨ x = 6 ∨ x = 7 ∨ x = 8 ∨ x = 9 ∨ x = 10 ∨ x = 11 ∨ x = 13 ∨ x = 14 ∨ x = 15 ∨ x = 16 ∨ x = 17 ∨ x = 18 ∨ x = 19 ∨ x = 20 ∨ x = 21 ∨ x = 26 ∨ x = 27 by omega) with q | q | q | q | q | q | q | q | q | q | q | q | q | q | q | q | q | q | q <;> subst q <;> simp [t0_tag] at this
    have g6 := g (ad 6 l) (by omega)
    have g7 := g (ad 7 l) (by omega)
    have n6 : ¬ scr qs (ad 6 l) := fun q => k3 (scr_mem hl q)
    have n7 : ¬ scr qs (ad 7 l) := by
      rintro ⟨x, hx, ex⟩
      have := (h1 x (by omega)).1
      rw [← ex, f2] at this
      rcases (show x = 3 ∨ x = 4 ∨ x = 6 ∨ x = 7 ∨ x = 8 ∨ x = 9 ∨ x = 10 ∨ x = 11 ∨ x = 13 ∨ x = 14 ∨ x = 15 ∨ x = 16 ∨ x = 17 ∨ x = 18 ∨ x = 19 ∨ x = 20 ∨ x = 21 ∨ x = 26 ∨ x = 27 by omega) with q | q | q | q | q | q | q | q | q | q | q | q | q | q | q | q | q | q | q <;> subst q <;> simp [t0_tag] at this
    refine ⟨by rw [gd.2.2.1]; exact a, b.tx g (fun q => k1 (scr_mem hl q)) (fun q => k2 (scr_mem hl q)), by rw [gd.2.2.2 nd]; exact c, by rw [gd.2.2.2 nd]; exact d, ⟨by rw [gd.2.2.1]; exact e1, by rw [g6.1]; exact e2, by rw [g6.2.1]; exact e3, fun p hp => by rw [g6.2.2.2 n6]; exact e4 p hp⟩, ⟨by rw [gd.2.2.1]; exact f1, by rw [g7.1]; exact f2, by rw [g7.2.1]; exact f3, fun i => by rw [g7.2.2.2 n7]; exact f4 i, fun e e1 e2 => by rw [g7.2.1, g7.2.2.2 n7]; exact f5 e e1 e2⟩, ⟨k1, k2, k3⟩, k4, k5⟩
  · intro e e1 e2
    obtain ⟨a, b, c⟩ := h10 e e1 e2
    have t1 := h6.2.2.2.2.1 e e1 e2
    have gd := g (ad 2 e) (by omega)
    have nd : ¬ scr qs (ad 2 e) := by
      rintro ⟨x, hx, ex⟩
      have := (h1 x (by omega)).1
      rw [← ex, t1] at this
      rcases (show x = 3 ∨ x = 4 ∨ x = 6 ∨ x = 7 ∨ x = 8 ∨ x = 9 ∨ x = 10 ∨ x = 11 ∨ x = 13 ∨ x = 14 ∨ x = 15 ∨ x = 16 ∨ x = 17 ∨ x = 18 ∨ x = 19 ∨ x = 20 ∨ x = 21 ∨ x = 26 ∨ x = 27 by omega) with q | q | q | q | q | q | q | q | q | q | q | q | q | q | q | q | q | q | q <;> subst q <;> simp [t0_tag] at this
    exact ⟨by rw [gd.2.2.2 nd]; exact a, by rw [gd.2.2.2 nd]; exact b, by rw [gd.2.2.2 nd]; exact c⟩
  · obtain ⟨a, b, c, d, e, f, k⟩ := h11
    have g28 := g (qa qs 28) (by rw [(h1 28 (by omega)).1]; decide)
    have n28 := scr_no hq hl (i := 28) (by omega) (by omega)
    have gw := g (ad 9 0) (by omega)
    have nw : ¬ scr qs (ad 9 0) := by
      rcases k with k | k
      · rw [k]; exact scr_no hq hl (by omega) (by omega)
      · exact fun q => k (scr_mem hl q)
    exact ⟨by rw [g28.2.2.2 n28]; exact a, by rw [g28.2.2.2 n28]; exact b, by rw [g28.2.2.1]; exact c, by rw [gw.1]; exact d, by rw [gw.2.1]; exact e, fun i hi => by rw [gw.2.2.2 nw]; exact f i hi, k⟩
end BKS
