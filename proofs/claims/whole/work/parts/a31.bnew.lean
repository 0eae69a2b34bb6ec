/-! a new lot, a new easement -/
section NEW
variable {qs : List Nat} {ad : Nat → Nat → Nat} {T T' T1 : CS} {R : AR}
def rLotB (R : AR) (d a b : Nat) (K : List PT) (sh : Nat → Int) (ih : Nat → Bool) : AR := (nsets R.1 [(7, 0, R.1 7 0 + 1), (11, R.1 7 0 + 1, d), (12, R.1 7 0 + 1, 0), (13, R.1 7 0 + 1, a), (14, R.1 7 0 + 1, b)], fun l => if l = R.1 7 0 + 1 then K else aRing R l, aNm R, updN (aSh R) (R.1 7 0 + 1) sh, fun e l => if l = R.1 7 0 + 1 then ih e else aIh R e l, aLg R, aRow R)
def rEas (R : AR) (g o : Nat) : AR := (nsets R.1 [(25, 0, R.1 25 0 + 1), (26, R.1 25 0 + 1, g), (27, R.1 25 0 + 1, 0), (28, R.1 25 0 + 1, o)], aRing R, aNm R, aSh R, fun e l => if e = R.1 25 0 + 1 then decide (l = o) else aIh R e l, aLg R, aRow R)
theorem not_qs (hl : qs.length = 30) (h : fixed qs T) {a : Nat} (ha : tg T a = 0 ∨ 12 ≤ tg T a) : a ∉ qs := by
  intro q
  obtain ⟨i, hi, ei⟩ := List.mem_iff_getElem.mp q
  have t := (h i (by omega)).1
  rw [show qa qs i = a by unfold qa; rw [← ei]; simp [hi]] at t
  have := t0_tag_lo i (by omega)
  omega
/-- what a lot object is -/
def lotIs (qs : List Nat) (T : CS) (wa o pa pb sa ta d ne : Nat) (K : List PT) (sh : Nat → Int) (ih : Nat → Bool) : Prop := tg T o = 9 ∧ fo T o 0 = some pa ∧ ptsAt T pa pb K K.length ∧ fi T o 1 = (d : Int) ∧ fi T o 4 = 0 ∧ (fo T o 2 = some sa ∧ tg T sa = 11 ∧ ln T sa = 100 ∧ ∀ p, p < 100 → fi T sa p = sh p) ∧ (fo T o 3 = some ta ∧ tg T ta = 12 ∧ ln T ta ≤ 300 ∧ (∀ i, b01 (fi T ta i)) ∧ ∀ e, 1 ≤ e → e ≤ ne → (e < ln T ta ∧ fi T ta e ≠ 0 ↔ ih e = true)) ∧ (pa ∉ qs ∧ pb ∉ qs ∧ sa ∉ qs) ∧ pb ≠ wa ∧ sa ≠ wa
theorem sp_B_addlot {post : Int → CS → Prop} (hq : qs.Nodup) (hl : qs.length = 30) (h : BK qs ad T R) (he : e20 T) {o pa pb sa ta d a b mc ms : Nat} {K : List PT} {sh : Nat → Int} {ih : Nat → Bool} (ho : lotIs qs T (ad 9 0) o pa pb sa ta d (R.1 25 0) K sh ih) (hnew : ∀ l, 1 ≤ l → l ≤ R.1 7 0 → ad 1 l ≠ o) (hov : ∀ e, 1 ≤ e → e ≤ R.1 25 0 → R.1 28 e ≤ R.1 7 0) (hn : R.1 7 0 < 600) (hmc : 1 ≤ mc) (hms : 1000 ≤ ms)
    (hp : ∀ T' ad', BK qs ad' T' (rLotB R d a b K sh ih) → Ty (fun a => a = qa qs 24) (fun a => a = qa qs 24 ∨ tg T a = 13) T T' → n20 T T' → (∀ i, i = 0 ∨ i = 2 ∨ i = 3 ∨ i = 9 → ad' i = ad i) → (∀ l, ad' 7 l = if l = R.1 7 0 + 1 then ta else ad 7 l) → post 1 T') : wp_BAL_add post mc ms (qa qs 24) o T := by
  have L := h.lst
  have A1 := L.1 1 (by omega)
  obtain ⟨o1, o2, o3, o4, o5, ⟨s1, s2, s3, s4⟩, ⟨b1, b2, b3, b4, b5⟩, ⟨k1, k2, k3⟩, k4, k5⟩ := ho
  refine sp_B_add A1 (by omega) he o1 (by show R.1 7 0 < 600; exact hn) (fun i a b => hnew i a b) hmc hms (fun T2 x' g2 al2 tx2 hx2 k20 => ?_)
  have L2 := lst3_add hq hl L (by omega) g2 al2 tx2 hx2
  have fr : Ty (fun a => a = qa qs 24) (fun a => a = qa qs 24 ∨ tg T a = 13) T T2 := Ty_mono g2 (fun a q => q) (fun a q => by
    rcases q with q | q
    · exact Or.inl q
    · exact Or.inr (by rw [q.1]; exact q.2))
  have t24 : tg T (qa qs 24) = 7 := A1.1
  obtain ⟨p1, p2, p3, p4, p5, p6⟩ := h.parts hq hl fr (fun a q => Or.inl (by rw [q]; exact t24)) (fun a q => by
    rcases q with q | q
    · exact Or.inl (by rw [q]; exact t24)
    · exact Or.inr (Or.inl q))
  have k7 : (rLotB R d a b K sh ih).1 7 0 = R.1 7 0 + 1 := by simp [rLotB, nsets, nset]
  have ko : ∀ f i, f ≠ 7 → i ≠ R.1 7 0 + 1 → (rLotB R d a b K sh ih).1 f i = R.1 f i := by
    intro f i f1 f2
    simp [rLotB, nsets, nset, f1, f2]
  have kf : ∀ f i, f ≠ 7 → f ≠ 11 → f ≠ 12 → f ≠ 13 → f ≠ 14 → (rLotB R d a b K sh ih).1 f i = R.1 f i := by
    intro f i f1 f2 f3 f4 f5
    simp [rLotB, nsets, nset, f1, f2, f3, f4, f5]
  have no : ∀ a, tg T a ≠ 7 → ¬ (a = qa qs 24) := fun a x q => x (by rw [q]; exact t24)
  have noo : ∀ a, tg T a ≠ 7 → tg T a ≠ 13 → ¬ (a = qa qs 24 ∨ tg T a = 13) := fun a x y q => q.elim (no a x) y
  refine hp T2 (fun i k => if i = 4 ∧ k = R.1 7 0 + 1 then pa else if i = 5 ∧ k = R.1 7 0 + 1 then pb else if i = 6 ∧ k = R.1 7 0 + 1 then sa else if i = 7 ∧ k = R.1 7 0 + 1 then ta else adL ad 1 (R.1 7 0 + 1) o x' i k) ?_ fr k20 ?_ ?_
  · have a0 : ∀ i, i < 3 ∨ i = 8 → (fun k => if i = 4 ∧ k = R.1 7 0 + 1 then pa else if i = 5 ∧ k = R.1 7 0 + 1 then pb else if i = 6 ∧ k = R.1 7 0 + 1 then sa else if i = 7 ∧ k = R.1 7 0 + 1 then ta else adL ad 1 (R.1 7 0 + 1) o x' i k) = adL ad 1 (R.1 7 0 + 1) o x' i := by
      intro i hi; funext k
      rw [if_neg (fun q => by omega), if_neg (fun q => by omega), if_neg (fun q => by omega), if_neg (fun q => by omega)]
    refine BK.mk p1 ?_ p3 (L2.cg (fun i hi => ?_) a0) ?_ ?_ ?_ ?_
    · rw [kf 2 0 (by omega) (by omega) (by omega) (by omega) (by omega), kf 3 0 (by omega) (by omega) (by omega) (by omega) (by omega)]; exact p2
    · unfold nL
      rcases (show i = 0 ∨ i = 1 ∨ i = 2 by omega) with r | r | r <;> subst r
      · exact kf 15 0 (by omega) (by omega) (by omega) (by omega) (by omega)
      · exact k7
      · exact kf 25 0 (by omega) (by omega) (by omega) (by omega) (by omega)
    · intro d' q1 q2
      rw [kf 15 0 (by omega) (by omega) (by omega) (by omega) (by omega)] at q2
      have hh := p4 d' q1 q2
      unfold deedAt
      simp only [show ¬ (0 : Nat) = 4 by omega, show ¬ (0 : Nat) = 5 by omega, show ¬ (0 : Nat) = 6 by omega, show ¬ (0 : Nat) = 7 by omega, show ¬ (3 : Nat) = 4 by omega, show ¬ (3 : Nat) = 5 by omega, show ¬ (3 : Nat) = 6 by omega, show ¬ (3 : Nat) = 7 by omega, show ¬ (9 : Nat) = 4 by omega, show ¬ (9 : Nat) = 5 by omega, show ¬ (9 : Nat) = 6 by omega, show ¬ (9 : Nat) = 7 by omega, false_and, if_false]
      rw [adL_o _ _ _ _ _ (show 0 ≠ 8 by omega) (by omega), adL_o _ _ _ _ _ (show 3 ≠ 8 by omega) (by omega), adL_o _ _ _ _ _ (show 9 ≠ 8 by omega) (by omega)]
      exact hh.cg (fun f hf => kf f d' (by omega) (by omega) (by omega) (by omega) (by omega)) rfl
    · intro l q1 q2
      rw [k7] at q2
      unfold lotAt
      by_cases c : l = R.1 7 0 + 1
      · subst c
        simp only [show ¬ (1 : Nat) = 4 by omega, show ¬ (1 : Nat) = 5 by omega, show ¬ (1 : Nat) = 6 by omega, show ¬ (1 : Nat) = 7 by omega, show ¬ (9 : Nat) = 4 by omega, show ¬ (9 : Nat) = 5 by omega, show ¬ (9 : Nat) = 6 by omega, show ¬ (9 : Nat) = 7 by omega, show ¬ (5 : Nat) = 4 by omega, show ¬ (6 : Nat) = 4 by omega, show ¬ (6 : Nat) = 5 by omega, show ¬ (7 : Nat) = 4 by omega, show ¬ (7 : Nat) = 5 by omega, show ¬ (7 : Nat) = 6 by omega, false_and, if_false, and_self, if_true]
        rw [adL_i _ _ _ _ _ (show 1 ≠ 8 by omega), updN_s, adL_o _ _ _ _ _ (show 9 ≠ 8 by omega) (by omega)]
        have vo := fr o (by omega)
        have vs := fr sa (by omega)
        have vt := fr ta (by omega)
        have c11 : (rLotB R d a b K sh ih).1 11 (R.1 7 0 + 1) = d := by simp [rLotB, nsets, nset]
        have c12 : (rLotB R d a b K sh ih).1 12 (R.1 7 0 + 1) = 0 := by simp [rLotB, nsets, nset]
        have cK : aRing (rLotB R d a b K sh ih) (R.1 7 0 + 1) = K := if_pos rfl
        have cS : aSh (rLotB R d a b K sh ih) (R.1 7 0 + 1) = sh := updN_s _ _ _
        have cI : ∀ e, aIh (rLotB R d a b K sh ih) e (R.1 7 0 + 1) = ih e := fun e => if_pos rfl
        rw [c11, c12, cK, cS, vo.2.2.1 (noo o (by omega) (by omega)), vo.2.2.2 (no o (by omega)), vs.1, vs.2.1, vs.2.2.2 (no sa (by omega)), vt.1, vt.2.1, vt.2.2.2 (no ta (by omega)), kf 25 0 (by omega) (by omega) (by omega) (by omega) (by omega)]
        refine ⟨o2, o3.ty fr (no _ (by have := o3.1; omega)) (no _ (by have := o3.2.2.1; omega)) (noo _ (by have := o3.1; omega) (by have := o3.1; omega)), o4, by rw [o5]; rfl, ⟨s1, s2, s3, s4⟩, ⟨b1, b2, b3, b4, fun e e1 e2 => ?_⟩, ⟨k1, k2, k3⟩, k4, k5⟩
        rw [cI, kf 28 e (by omega) (by omega) (by omega) (by omega) (by omega), ← b5 e e1 e2]
        have := hov e e1 e2
        constructor
        · rintro (q | q)
          · omega
          · exact q
        · exact Or.inr
      · have hh := p5 l q1 (by omega)
        simp only [show ¬ (1 : Nat) = 4 by omega, show ¬ (1 : Nat) = 5 by omega, show ¬ (1 : Nat) = 6 by omega, show ¬ (1 : Nat) = 7 by omega, show ¬ (9 : Nat) = 4 by omega, show ¬ (9 : Nat) = 5 by omega, show ¬ (9 : Nat) = 6 by omega, show ¬ (9 : Nat) = 7 by omega, c, and_false, false_and, if_false]
        rw [adL_i _ _ _ _ _ (show 1 ≠ 8 by omega), updN_n _ _ _ c, adL_o _ _ _ _ _ (show 9 ≠ 8 by omega) (by omega), adL_o _ _ _ _ _ (show 4 ≠ 8 by omega) (by omega), adL_o _ _ _ _ _ (show 5 ≠ 8 by omega) (by omega), adL_o _ _ _ _ _ (show 6 ≠ 8 by omega) (by omega), adL_o _ _ _ _ _ (show 7 ≠ 8 by omega) (by omega)]
        exact hh.cg (if_neg c) (ko 11 l (by omega) c) (ko 12 l (by omega) c) (fun p => by show updN (aSh R) (R.1 7 0 + 1) sh l p = _; rw [updN_n _ _ _ c]) (kf 25 0 (by omega) (by omega) (by omega) (by omega) (by omega)) (fun e => kf 28 e (by omega) (by omega) (by omega) (by omega) (by omega)) (fun e => if_neg c)
    · intro e q1 q2
      rw [kf 25 0 (by omega) (by omega) (by omega) (by omega) (by omega)] at q2
      have hh := p6 e q1 q2
      unfold easAt at hh ⊢
      simp only [show ¬ (2 : Nat) = 4 by omega, show ¬ (2 : Nat) = 5 by omega, show ¬ (2 : Nat) = 6 by omega, show ¬ (2 : Nat) = 7 by omega, false_and, if_false]
      rw [adL_o _ _ _ _ _ (show 2 ≠ 8 by omega) (by omega), kf 28 e (by omega) (by omega) (by omega) (by omega) (by omega), kf 26 e (by omega) (by omega) (by omega) (by omega) (by omega), kf 27 e (by omega) (by omega) (by omega) (by omega) (by omega)]
      exact hh
    · obtain ⟨a1, a2, a3, a4, a5, a6, a7⟩ := h.2.2.2.2.2.2.2.2
      have t28 := h.1.tag (i := 28) (t := 6) (by omega) rfl
      have v28 := fr (qa qs 28) (by omega)
      have vw := fr (ad 9 0) (by omega)
      unfold logAt
      simp only [show ¬ (9 : Nat) = 4 by omega, show ¬ (9 : Nat) = 5 by omega, show ¬ (9 : Nat) = 6 by omega, show ¬ (9 : Nat) = 7 by omega, false_and, if_false]
      rw [adL_o _ _ _ _ _ (show 9 ≠ 8 by omega) (by omega), v28.2.2.2 (no _ (by omega)), v28.2.2.1 (noo _ (by omega) (by omega)), vw.1, vw.2.1, vw.2.2.2 (no _ (by omega)), kf 30 0 (by omega) (by omega) (by omega) (by omega) (by omega), kf 31 0 (by omega) (by omega) (by omega) (by omega) (by omega)]
      exact ⟨a1, a2, a3, a4, a5, a6, a7⟩
  · intro i hi
    funext k
    show (if i = 4 ∧ k = R.1 7 0 + 1 then pa else if i = 5 ∧ k = R.1 7 0 + 1 then pb else if i = 6 ∧ k = R.1 7 0 + 1 then sa else if i = 7 ∧ k = R.1 7 0 + 1 then ta else adL ad 1 (R.1 7 0 + 1) o x' i k) = ad i k
    rw [if_neg (fun q => by omega), if_neg (fun q => by omega), if_neg (fun q => by omega), if_neg (fun q => by omega), adL_o _ _ _ _ _ (by omega) (by omega)]
  · intro l
    show (if 7 = 4 ∧ l = R.1 7 0 + 1 then pa else if 7 = 5 ∧ l = R.1 7 0 + 1 then pb else if 7 = 6 ∧ l = R.1 7 0 + 1 then sa else if 7 = 7 ∧ l = R.1 7 0 + 1 then ta else adL ad 1 (R.1 7 0 + 1) o x' 7 l) = _
    rw [if_neg (fun q => by omega), if_neg (fun q => by omega), if_neg (fun q => by omega), adL_o _ _ _ _ _ (by omega) (by omega)]
    simp only [true_and]
theorem sp_B_addeas {post : Int → CS → Prop} (hq : qs.Nodup) (hl : qs.length = 30) (h : BK qs ad T R) (he : e20 T) {o g ov mc ms : Nat} (ho : tg T o = 10 ∧ fi T o 0 = (ov : Int) ∧ fi T o 1 = (g : Int) ∧ fi T o 2 = 0) (hnew : ∀ e, 1 ≤ e → e ≤ R.1 25 0 → ad 2 e ≠ o) (hbt : ∀ l, 1 ≤ l → l ≤ R.1 7 0 → ln T (ad 7 l) ≤ R.1 25 0 + 1) (hn : R.1 25 0 < 600) (hmc : 1 ≤ mc) (hms : 1000 ≤ ms)
    (hp : ∀ T' ad', BK qs ad' T' (rEas R g ov) → Ty (fun a => a = qa qs 25) (fun a => a = qa qs 25 ∨ tg T a = 13) T T' → n20 T T' → (∀ i, i ≠ 2 → i ≠ 8 → ad' i = ad i) → post 1 T') : wp_BAL_add post mc ms (qa qs 25) o T := by
  have L := h.lst
  have A1 := L.1 2 (by omega)
  obtain ⟨o1, o2, o3, o4⟩ := ho
  refine sp_B_add A1 (by omega) he o1 (by show R.1 25 0 < 600; exact hn) (fun i a b => hnew i a b) hmc hms (fun T2 x' g2 al2 tx2 hx2 k20 => ?_)
  have L2 := lst3_add hq hl L (by omega) g2 al2 tx2 hx2
  have fr : Ty (fun a => a = qa qs 25) (fun a => a = qa qs 25 ∨ tg T a = 13) T T2 := Ty_mono g2 (fun a q => q) (fun a q => by
    rcases q with q | q
    · exact Or.inl q
    · exact Or.inr (by rw [q.1]; exact q.2))
  have t25 : tg T (qa qs 25) = 7 := A1.1
  obtain ⟨p1, p2, p3, p4, p5, p6⟩ := h.parts hq hl fr (fun a q => Or.inl (by rw [q]; exact t25)) (fun a q => by
    rcases q with q | q
    · exact Or.inl (by rw [q]; exact t25)
    · exact Or.inr (Or.inl q))
  have k25 : (rEas R g ov).1 25 0 = R.1 25 0 + 1 := by simp [rEas, nsets, nset]
  have ko : ∀ f i, f ≠ 25 → i ≠ R.1 25 0 + 1 → (rEas R g ov).1 f i = R.1 f i := by
    intro f i f1 f2
    simp [rEas, nsets, nset, f1, f2]
  have kf : ∀ f i, f < 25 ∨ 28 < f → (rEas R g ov).1 f i = R.1 f i := by
    intro f i f1
    simp [rEas, nsets, nset, show f ≠ 25 by omega, show f ≠ 26 by omega, show f ≠ 27 by omega, show f ≠ 28 by omega]
  have no : ∀ a, tg T a ≠ 7 → ¬ (a = qa qs 25) := fun a x q => x (by rw [q]; exact t25)
  have noo : ∀ a, tg T a ≠ 7 → tg T a ≠ 13 → ¬ (a = qa qs 25 ∨ tg T a = 13) := fun a x y q => q.elim (no a x) y
  refine hp T2 (adL ad 2 (R.1 25 0 + 1) o x') ?_ fr k20 (fun i a b => adL_o _ _ _ _ _ b a)
  refine BK.mk p1 ?_ p3 (L2.cg (fun i hi => ?_) (fun _ _ => rfl)) ?_ ?_ ?_ ?_
  · rw [kf 2 0 (by omega), kf 3 0 (by omega)]; exact p2
  · unfold nL
    rcases (show i = 0 ∨ i = 1 ∨ i = 2 by omega) with r | r | r <;> subst r
    · exact kf 15 0 (by omega)
    · exact kf 7 0 (by omega)
    · exact k25
  · intro d' q1 q2
    rw [kf 15 0 (by omega)] at q2
    have hh := p4 d' q1 q2
    unfold deedAt
    rw [adL_o _ _ _ _ _ (show 0 ≠ 8 by omega) (by omega), adL_o _ _ _ _ _ (show 3 ≠ 8 by omega) (by omega), adL_o _ _ _ _ _ (show 9 ≠ 8 by omega) (by omega)]
    exact hh.cg (fun f hf => kf f d' (by omega)) rfl
  · intro l q1 q2
    rw [kf 7 0 (by omega)] at q2
    obtain ⟨a, b, c, d, e', ⟨f1, f2, f3, f4, f5⟩, k⟩ := p5 l q1 q2
    have l7 : ln T2 (ad 7 l) = ln T (ad 7 l) := (fr (ad 7 l) (by have := (h.2.2.2.2.2.2.1 l q1 q2).2.2.2.2.2.1.2.1; omega)).2.1
    unfold lotAt
    rw [adL_o _ _ _ _ _ (show 1 ≠ 8 by omega) (by omega), adL_o _ _ _ _ _ (show 4 ≠ 8 by omega) (by omega), adL_o _ _ _ _ _ (show 5 ≠ 8 by omega) (by omega), adL_o _ _ _ _ _ (show 6 ≠ 8 by omega) (by omega), adL_o _ _ _ _ _ (show 7 ≠ 8 by omega) (by omega), adL_o _ _ _ _ _ (show 9 ≠ 8 by omega) (by omega), kf 11 l (by omega), kf 12 l (by omega), k25]
    refine ⟨a, b, c, d, e', ⟨f1, f2, f3, f4, fun e e1 e2 => ?_⟩, k⟩
    by_cases ce : e = R.1 25 0 + 1
    · subst ce
      have c28 : (rEas R g ov).1 28 (R.1 25 0 + 1) = ov := by simp [rEas, nsets, nset]
      have cih : aIh (rEas R g ov) (R.1 25 0 + 1) l = decide (l = ov) := if_pos rfl
      rw [c28, cih, decide_eq_true_eq, l7]
      have := hbt l q1 q2
      constructor
      · rintro (q | q)
        · exact q.symm
        · omega
      · exact fun q => Or.inl q.symm
    · rw [ko 28 e (by omega) ce, show aIh (rEas R g ov) e l = aIh R e l from if_neg ce]
      exact f5 e e1 (by omega)
  · intro e q1 q2
    rw [k25] at q2
    unfold easAt
    by_cases ce : e = R.1 25 0 + 1
    · subst ce
      have c28 : (rEas R g ov).1 28 (R.1 25 0 + 1) = ov := by simp [rEas, nsets, nset]
      have c26 : (rEas R g ov).1 26 (R.1 25 0 + 1) = g := by simp [rEas, nsets, nset]
      have c27 : (rEas R g ov).1 27 (R.1 25 0 + 1) = 0 := by simp [rEas, nsets, nset]
      have vo := fr o (by omega)
      rw [adL_i _ _ _ _ _ (show 2 ≠ 8 by omega), updN_s, c28, c26, c27, vo.2.2.2 (no o (by omega))]
      exact ⟨o2, o3, by rw [o4]; rfl⟩
    · have hh := p6 e q1 (by omega)
      unfold easAt at hh
      rw [adL_i _ _ _ _ _ (show 2 ≠ 8 by omega), updN_n _ _ _ ce, ko 28 e (by omega) ce, ko 26 e (by omega) ce, ko 27 e (by omega) ce]
      exact hh
  · obtain ⟨a1, a2, a3, a4, a5, a6, a7⟩ := h.2.2.2.2.2.2.2.2
    have t28 := h.1.tag (i := 28) (t := 6) (by omega) rfl
    have v28 := fr (qa qs 28) (by omega)
    have vw := fr (ad 9 0) (by omega)
    unfold logAt
    rw [adL_o _ _ _ _ _ (show 9 ≠ 8 by omega) (by omega), v28.2.2.2 (no _ (by omega)), v28.2.2.1 (noo _ (by omega) (by omega)), vw.1, vw.2.1, vw.2.2.2 (no _ (by omega)), kf 30 0 (by omega), kf 31 0 (by omega)]
    exact ⟨a1, a2, a3, a4, a5, a6, a7⟩
end NEW
