/-! the register cut back -/
section CTB
variable {qs : List Nat} {ad : Nat → Nat → Nat} {T T' T1 : CS} {R : AR}
theorem sp_B_pop {post : Nat → CS → Prop} {A x n t : Nat} {f : Nat → Nat} (h : alist T A x n f t) (ht : t = 8 ∨ t = 9 ∨ t = 10) (hn : 1 ≤ n) (hp : ∀ T', Ty (fun a => a = A) (fun a => a = x) T T' → n20 T T' → tg T x = 13 → alist T' A x (n - 1) f t → post (f n) T') : wp_BAL_remove post A ((n : Int) - 1) T := by
  obtain ⟨a1, a2, a3, a4, a5, a6⟩ := h
  have hn1 : n ≤ 1000 := by rcases a4 with f | f <;> omega
  unfold wp_BAL_remove
  refine ⟨a1, ?_⟩
  unfold wp_BOb_checkIndex wp_BPc_checkIndex
  rw [a2]
  refine ⟨by unfold inR; omega, fun c => by omega, fun c => ⟨by unfold inR; omega, by unfold inR; omega, fun d => ⟨a1, ?_⟩, fun d => by omega⟩⟩
  rcases a4 with q | ⟨q1, q2, q3, q4, q5, q6⟩
  · omega
  · have e : ((n : Int) - 1).toNat = n - 1 := by omega
    refine ⟨x, a3, q1, ⟨by omega, by omega⟩, f n, ?_, a1, ?_⟩
    · rw [e, q5 (n - 1) (by omega), show n - 1 + 1 = n by omega]
    unfold wp_BAL_fastRemove
    refine ⟨a1, a1, fun T1 y1 => ⟨by rw [y1]; exact a1, fun v3 e3 => ?_⟩⟩
    have xA : x ≠ A := fun r => by rw [r, a1] at q1; omega
    have f1 : fi T1 A 1 = (n : Int) := by rw [y1, cs_i_fi, if_neg (by omega)]; exact a2
    rw [f1] at e3
    rw [f1]
    refine ⟨by unfold inR; omega, by unfold inR; omega, fun _ => ?_, fun c => by omega⟩
    unfold wp_BAL_fastRemove_34
    refine ⟨by rw [y1]; exact a1, fun T2 y2 => ⟨by rw [y2, y1]; exact q1, ⟨by omega, ?_⟩, fun T3 y3 => ?_⟩⟩
    · rw [y2, y1]; show v3 < (ln T x : Int); omega
    have ev : v3.toNat = n - 1 := by omega
    have g : Ty (fun a => a = A) (fun a => a = x) T T3 := by
      rw [y3, y2, y1]; exact Ty_trans (Ty_trans (Ty_i rfl) (Ty_i rfl)) (Ty_o rfl)
    refine hp T3 g (by rw [y3, y2, y1]; exact n20_tg rfl) q1 ?_
    have g1 := g A (by omega)
    have g2 := g x (by omega)
    refine ⟨by rw [g1.1]; exact a1, ?_, by rw [g1.2.2.1 (fun r => xA r.symm)]; exact a3, Or.inr ⟨by rw [g2.1]; exact q1, by rw [g2.2.1]; exact q2, by rw [g2.2.1]; omega, by rw [g2.2.1]; exact q4, fun i hi => ?_, fun i hi => ?_⟩, fun i h1 h2 => ?_, fun i j h1 h2 h3 h4 => a6 i j h1 (by omega) h3 (by omega)⟩
    · rw [y3]; show fi T2 A 1 = _
      rw [y2, cs_i_fi, if_pos ⟨rfl, rfl⟩, e3]; omega
    · rw [y3, cs_o_fo, if_neg (by omega), y2, y1]; exact q5 i (by omega)
    · rw [y3, cs_o_fo]
      by_cases c : i = n - 1
      · rw [if_pos ⟨rfl, by omega⟩]
      · rw [if_neg (by omega), y2, y1]; exact q6 i (by omega)
    · have := a5 i h1 (by omega)
      rw [(g (f i) (by omega)).1]; exact this
theorem lst3_pop (hq : qs.Nodup) (hl : qs.length = 30) {nl : Nat → Nat} (h : lst3 qs ad T nl) {i : Nat} (hi : i < 3) (g : Ty (fun a => a = qa qs (23 + i)) (fun a => a = ad 8 i) T T') (ht : tg T (ad 8 i) = 13) (ha : alist T' (qa qs (23 + i)) (ad 8 i) (nl i - 1) (ad i) (8 + i)) : lst3 qs ad T' (updN nl i (nl i - 1)) := by
  have tx : ∀ j, j < 3 → tg T (ad 8 j) ≠ 0 := fun j hj => by rcases h.xt hj with q | q <;> omega
  refine ⟨fun j hj => ?_, fun j k hj hk hne htj => ?_⟩
  · by_cases c : j = i
    · subst c
      rw [updN_s]; exact ha
    · rw [updN_n _ _ _ c]
      refine alist_ty (h.1 j hj) g ?_ ?_ ?_ (by omega)
      · intro q; have := qa_inj hq hl (by omega) (by omega) q; omega
      · intro q; have := (h.1 j hj).1; rw [q] at this; omega
      · intro q; exact h.2 i j hi hj (fun r => c r.symm) ht q.symm
  · exact h.2 j k hj hk hne (by rw [← (g _ (tx j hj)).1]; exact htj)
def fL (i : Nat) : Nat := if i = 0 then 15 else if i = 1 then 7 else 25
theorem lotAt.mono {R' : AR} {l : Nat} (h : lotAt qs ad T R l) (h1 : aRing R' l = aRing R l) (h2 : R'.1 11 l = R.1 11 l) (h3 : R'.1 12 l = R.1 12 l) (h4 : ∀ p, aSh R' l p = aSh R l p) (h5 : R'.1 25 0 ≤ R.1 25 0) (h6 : ∀ e, R'.1 28 e = R.1 28 e) (h7 : ∀ e, aIh R' e l = aIh R e l) : lotAt qs ad T R' l := by
  obtain ⟨k1, k2, k3, k4, ⟨k5, k6, k7, k8⟩, ⟨k9, m1, m2, m3, m4⟩, m5⟩ := h
  refine ⟨k1, by rw [h1]; exact k2, by rw [h2]; exact k3, by rw [h3]; exact k4, ⟨k5, k6, k7, fun p hp => by rw [h4]; exact k8 p hp⟩, ⟨k9, m1, m2, m3, fun e e1 e2 => ?_⟩, m5⟩
  rw [h6, h7]; exact m4 e e1 (by omega)
/-- the last deed, lot or easement goes -/
theorem BK.pop (hq : qs.Nodup) (hl : qs.length = 30) (h : BK qs ad T R) {i : Nat} (hi : i < 3) (g : Ty (fun a => a = qa qs (23 + i)) (fun a => a = ad 8 i) T T') (ht : tg T (ad 8 i) = 13) (ha : alist T' (qa qs (23 + i)) (ad 8 i) (nL R i - 1) (ad i) (8 + i)) : BK qs ad T' (rN R [(fL i, 0, nL R i - 1)]) := by
  have L := h.lst
  have L2 := lst3_pop hq hl L hi g ht ha
  have t7 : tg T (qa qs (23 + i)) = 7 := (L.1 i hi).1
  obtain ⟨p1, p2, p3, p4, p5, p6⟩ := h.parts hq hl g (fun a q => Or.inl (by rw [q]; exact t7)) (fun a q => Or.inr (Or.inl (by rw [q]; exact ht)))
  have fli : fL i = 15 ∨ fL i = 7 ∨ fL i = 25 := by unfold fL; rcases (show i = 0 ∨ i = 1 ∨ i = 2 by omega) with r | r | r <;> subst r <;> simp
  have ko : ∀ f k, f ≠ fL i → (rN R [(fL i, 0, nL R i - 1)]).1 f k = R.1 f k := fun f k hf => by rw [rN1, if_neg (fun q => hf q.1)]
  have kle : ∀ f, (rN R [(fL i, 0, nL R i - 1)]).1 f 0 ≤ R.1 f 0 := by
    intro f
    rw [rN1]
    by_cases c : f = fL i
    · rw [if_pos ⟨c, rfl⟩, c]
      have : nL R i = R.1 (fL i) 0 := rfl
      omega
    · rw [if_neg (fun q => c q.1)]; exact Nat.le_refl _
  refine BK.mk p1 ?_ p3 (L2.cg (fun j hj => ?_) (fun _ _ => rfl)) ?_ ?_ ?_ ?_
  · rw [ko 2 0 (by omega), ko 3 0 (by omega)]; exact p2
  · by_cases c : j = i
    · subst c; rw [updN_s]; show (rN R [(fL j, 0, nL R j - 1)]).1 (fL j) 0 = _
      rw [rN1, if_pos ⟨rfl, rfl⟩]
    · rw [updN_n _ _ _ c]; show (rN R [(fL i, 0, nL R i - 1)]).1 (fL j) 0 = R.1 (fL j) 0
      refine ko _ _ (fun q => c ?_)
      unfold fL at q
      rcases (show i = 0 ∨ i = 1 ∨ i = 2 by omega) with r | r | r <;> subst r <;> rcases (show j = 0 ∨ j = 1 ∨ j = 2 by omega) with r | r | r <;> subst r <;> simp at q ⊢
  · intro d q1 q2
    exact (p4 d q1 (Nat.le_trans q2 (kle 15))).cg (fun f hf => ko f d (by omega)) rfl
  · intro l q1 q2
    exact (p5 l q1 (Nat.le_trans q2 (kle 7))).mono rfl (ko _ _ (by omega)) (ko _ _ (by omega)) (fun p => rfl) (kle 25) (fun e => ko _ _ (by omega)) (fun e => rfl)
  · intro e q1 q2
    have := p6 e q1 (Nat.le_trans q2 (kle 25))
    unfold easAt at this ⊢
    rw [ko 28 e (by omega), ko 26 e (by omega), ko 27 e (by omega)]; exact this
  · obtain ⟨k1, k2, k3, k4, k5, k6, k7⟩ := h.2.2.2.2.2.2.2.2
    have t28 : tg T (qa qs 28) = 6 := h.1.tag (by omega) rfl
    have u := g (qa qs 28) (by omega)
    have v := g (ad 9 0) (by omega)
    have n1 : qa qs 28 ≠ qa qs (23 + i) := fun q => by rw [q] at t28; omega
    have n2 : qa qs 28 ≠ ad 8 i := fun q => by rw [q] at t28; omega
    have n3 : ad 9 0 ≠ qa qs (23 + i) := fun q => by rw [q] at k4; omega
    unfold logAt
    rw [ko 30 0 (by omega), ko 31 0 (by omega), u.2.2.2 n1, u.2.2.1 n2, v.1, v.2.1, v.2.2.2 n3]
    exact ⟨k1, k2, k3, k4, k5, k6, k7⟩
def rCut (R : AR) (d L E : Nat) (pl pe : Nat → Bool) : AR := (fun f i => if f = 15 ∧ i = 0 then d else if f = 7 ∧ i = 0 then L else if f = 25 ∧ i = 0 then E else if f = 12 ∧ pl i = true then 0 else if f = 27 ∧ pe i = true then 0 else R.1 f i, R.2)
theorem rCut_0 (R : AR) : rCut R (R.1 15 0) (R.1 7 0) (R.1 25 0) (fun _ => false) (fun _ => false) = R := by
  refine Prod.ext (funext fun f => funext fun i => ?_) rfl
  show (if f = 15 ∧ i = 0 then _ else _) = _
  by_cases c : i = 0
  · subst c
    by_cases c1 : f = 15
    · subst c1; simp
    · by_cases c2 : f = 7
      · subst c2; simp
      · by_cases c3 : f = 25
        · subst c3; simp
        · simp [c1, c2, c3]
  · simp [c]
section
variable {d L E : Nat} {pl pe : Nat → Bool}
theorem rCut_15 (v : Nat) : rN (rCut R d L E pl pe) [(15, 0, v)] = rCut R v L E pl pe := by
  refine Prod.ext (funext fun f => funext fun i => ?_) rfl
  rw [rN1]
  show (if _ then _ else if f = 15 ∧ i = 0 then _ else _) = if f = 15 ∧ i = 0 then _ else _
  by_cases c : f = 15 ∧ i = 0
  · rw [if_pos c, if_pos c]
  · rw [if_neg c, if_neg c, if_neg c]
theorem rCut_7 (v : Nat) : rN (rCut R d L E pl pe) [(7, 0, v)] = rCut R d v E pl pe := by
  refine Prod.ext (funext fun f => funext fun i => ?_) rfl
  rw [rN1]
  show (if _ then _ else if f = 15 ∧ i = 0 then _ else if f = 7 ∧ i = 0 then _ else _) = if f = 15 ∧ i = 0 then _ else if f = 7 ∧ i = 0 then _ else _
  by_cases c : f = 7 ∧ i = 0
  · rw [if_pos c, if_neg (by omega), if_pos c]
  · rw [if_neg c, if_neg c, if_neg c]
theorem rCut_25 (v : Nat) : rN (rCut R d L E pl pe) [(25, 0, v)] = rCut R d L v pl pe := by
  refine Prod.ext (funext fun f => funext fun i => ?_) rfl
  rw [rN1]
  show (if _ then _ else if f = 15 ∧ i = 0 then _ else if f = 7 ∧ i = 0 then _ else if f = 25 ∧ i = 0 then _ else _) = if f = 15 ∧ i = 0 then _ else if f = 7 ∧ i = 0 then _ else if f = 25 ∧ i = 0 then _ else _
  by_cases c : f = 25 ∧ i = 0
  · rw [if_pos c, if_neg (by omega), if_neg (by omega), if_pos c]
  · rw [if_neg c, if_neg c, if_neg c]
theorem rCut_12 {pl' : Nat → Bool} (l : Nat) (h : ∀ i, pl' i = if i = l then true else pl i) : rN (rCut R d L E pl pe) [(12, l, 0)] = rCut R d L E pl' pe := by
  refine Prod.ext (funext fun f => funext fun i => ?_) rfl
  rw [rN1]
  show (if _ then _ else if f = 15 ∧ i = 0 then _ else if f = 7 ∧ i = 0 then _ else if f = 25 ∧ i = 0 then _ else if f = 12 ∧ pl i = true then _ else _) = if f = 15 ∧ i = 0 then _ else if f = 7 ∧ i = 0 then _ else if f = 25 ∧ i = 0 then _ else if f = 12 ∧ pl' i = true then _ else _
  rw [h i]
  by_cases c : f = 12 ∧ i = l
  · rw [if_pos c, if_neg (by omega), if_neg (by omega), if_neg (by omega), if_pos ⟨c.1, by rw [if_pos c.2]⟩]
  · rw [if_neg c]
    by_cases c2 : f = 12
    · rw [if_neg (show ¬ i = l from fun q => c ⟨c2, q⟩)]
    · rw [if_neg (show ¬ (f = 12 ∧ pl i = true) from fun q => c2 q.1), if_neg (show ¬ (f = 12 ∧ _) from fun q => c2 q.1)]
theorem rCut_27 {pe' : Nat → Bool} (l : Nat) (h : ∀ i, pe' i = if i = l then true else pe i) : rN (rCut R d L E pl pe) [(27, l, 0)] = rCut R d L E pl pe' := by
  refine Prod.ext (funext fun f => funext fun i => ?_) rfl
  rw [rN1]
  show (if _ then _ else if f = 15 ∧ i = 0 then _ else if f = 7 ∧ i = 0 then _ else if f = 25 ∧ i = 0 then _ else if f = 12 ∧ pl i = true then _ else if f = 27 ∧ pe i = true then _ else _) = if f = 15 ∧ i = 0 then _ else if f = 7 ∧ i = 0 then _ else if f = 25 ∧ i = 0 then _ else if f = 12 ∧ pl i = true then _ else if f = 27 ∧ pe' i = true then _ else _
  rw [h i]
  by_cases c : f = 27 ∧ i = l
  · rw [if_pos c, if_neg (by omega), if_neg (by omega), if_neg (by omega), if_neg (show ¬ (f = 12 ∧ pl i = true) from fun q => by omega), if_pos ⟨c.1, by rw [if_pos c.2]⟩]
  · rw [if_neg c]
    by_cases c2 : f = 27
    · rw [if_neg (show ¬ i = l from fun q => c ⟨c2, q⟩)]
    · rw [if_neg (show ¬ (f = 27 ∧ pe i = true) from fun q => c2 q.1), if_neg (show ¬ (f = 27 ∧ _) from fun q => c2 q.1)]
theorem rCut_o {f i : Nat} (h : (f ≠ 15 ∧ f ≠ 7 ∧ f ≠ 25) ∨ i ≠ 0) (h2 : f ≠ 12 ∨ pl i = false) (h3 : f ≠ 27 ∨ pe i = false) : (rCut R d L E pl pe).1 f i = R.1 f i := by
  show (if f = 15 ∧ i = 0 then _ else if f = 7 ∧ i = 0 then _ else if f = 25 ∧ i = 0 then _ else if f = 12 ∧ pl i = true then _ else if f = 27 ∧ pe i = true then _ else _) = _
  rw [if_neg (by omega), if_neg (by omega), if_neg (by omega), if_neg, if_neg]
  · rintro ⟨a, b⟩; rcases h3 with h | h
    · exact h a
    · rw [h] at b; exact absurd b (by decide)
  · rintro ⟨a, b⟩; rcases h2 with h | h
    · exact h a
    · rw [h] at b; exact absurd b (by decide)
end
/-- which ends fall away -/
abbrev ctp (R : AR) (f d m l : Nat) : Nat → Bool := fun i => decide (l < i ∧ i ≤ m ∧ d < R.1 f i)
theorem ctp_s {f d m l : Nat} (h1 : 1 ≤ l) (h2 : l ≤ m) (h : d < R.1 f l) (i : Nat) : ctp R f d m (l - 1) i = if i = l then true else ctp R f d m l i := by
  by_cases c : i = l
  · rw [if_pos c]; unfold ctp; rw [c]; exact decide_eq_true ⟨by omega, h2, h⟩
  · rw [if_neg c]; unfold ctp
    have : (l - 1 < i ∧ i ≤ m ∧ d < R.1 f i) ↔ (l < i ∧ i ≤ m ∧ d < R.1 f i) := ⟨fun q => ⟨by omega, q.2⟩, fun q => ⟨by omega, q.2⟩⟩
    rw [decide_eq_decide]; exact this
theorem ctp_n {f d m l : Nat} (h : ¬ (l ≤ m ∧ d < R.1 f l)) : ctp R f d m (l - 1) = ctp R f d m l := by
  funext i
  unfold ctp
  rw [decide_eq_decide]
  constructor
  · rintro ⟨a, b⟩
    refine ⟨?_, b⟩
    by_cases c : i = l
    · rw [c] at b; exact absurd b h
    · omega
  · rintro ⟨a, b⟩; exact ⟨by omega, b⟩
theorem ctp_f {f d m l : Nat} : ctp R f d m l l = false := by unfold ctp; exact decide_eq_false (by omega)
def rCutF (R : AR) (d L E : Nat) : AR := rCut R d L E (ctp R 12 d L 0) (ctp R 27 d E 0)
theorem sp_B_cutBack {post : CS → Prop} (hq : qs.Nodup) (hl : qs.length = 30) (h : BK qs ad T R) (w : WR R) {d L E : Nat} (hd : d ≤ R.1 15 0) (hL : L ≤ R.1 7 0) (hE : E ≤ R.1 25 0) (bl : ∀ l, 1 ≤ l → l ≤ R.1 7 0 → (R.1 11 l ≤ d ↔ l ≤ L)) (be : ∀ e, 1 ≤ e → e ≤ R.1 25 0 → (R.1 26 e ≤ d ↔ e ≤ E)) (hp : ∀ T', BK qs ad T' (rCutF R d L E) → Tt T T' → n20 T T' → post T') : wp_BRg_cutBack post (qa qs 22) d T := by
  have t22 : ∀ {T' R'}, BK qs ad T' R' → tg T' (qa qs 22) = 5 := fun h => h.1.tag (by omega) rfl
  have r0 : ∀ {T' R'}, BK qs ad T' R' → fo T' (qa qs 22) 0 = some (qa qs 23) := fun h => h.1.ref (i := 22) (j := 0) (z := 23) (by omega) rfl (by omega)
  have r1 : ∀ {T' R'}, BK qs ad T' R' → fo T' (qa qs 22) 1 = some (qa qs 24) := fun h => h.1.ref (i := 22) (j := 1) (z := 24) (by omega) rfl (by omega)
  have r2 : ∀ {T' R'}, BK qs ad T' R' → fo T' (qa qs 22) 2 = some (qa qs 25) := fun h => h.1.ref (i := 22) (j := 2) (z := 25) (by omega) rfl (by omega)
  have W := w.1
  -- easements
  have l3 : ∀ (n e : Nat) (T2 : CS), e < n → e ≤ R.1 25 0 → BK qs ad T2 (rCut R d L (max e E) (ctp R 12 d L 0) (ctp R 27 d E e)) → Tt T T2 → n20 T T2 → wp_BRg_cutBack_123 post n (qa qs 22) d ((e : Int) - 1) T2 := by
    intro n
    induction n with
    | zero => intro e T2 hm; omega
    | succ n ih =>
      intro e T2 hm he h2 g2 n2
      unfold wp_BRg_cutBack_123
      refine ⟨by unfold inR; omega, fun c => ?_, fun c => ?_⟩
      · have : e = 0 := by omega
        subst this
        rw [Nat.zero_max] at h2
        exact hp T2 h2 g2 n2
      · have A := h2.2.2.2.1.2.2
        have e25 : (rCut R d L (max e E) (ctp R 12 d L 0) (ctp R 27 d E e)).1 25 0 = max e E := rfl
        have e1 : 1 ≤ e := by omega
        have eo : ∀ f, f ≠ 25 → f ≠ 15 → f ≠ 7 → f ≠ 12 → (rCut R d L (max e E) (ctp R 12 d L 0) (ctp R 27 d E e)).1 f e = R.1 f e := fun f a b c d' => rCut_o (Or.inl ⟨b, c, a⟩) (Or.inl d') (Or.inr ctp_f)
        have Q := h2.2.2.2.2.2.2.2.1 e e1 (by rw [e25]; omega)
        unfold easAt at Q
        rw [eo 28 (by omega) (by omega) (by omega) (by omega), eo 26 (by omega) (by omega) (by omega) (by omega), eo 27 (by omega) (by omega) (by omega) (by omega)] at Q
        have we := w.2.2.2.2.1 e e1 he
        have t10 := A.2.2.2.2.1 e e1 (by rw [e25]; omega)
        have get : ∀ {P : Nat → CS → Prop}, P (ad 2 e) T2 → wp_BAL_get P (qa qs 25) ((e : Int) - 1) T2 := fun q => sp_B_get A e1 (by rw [e25]; omega) q
        have nxt : ∀ T3, BK qs ad T3 (rCut R d L (max (e - 1) E) (ctp R 12 d L 0) (ctp R 27 d E (e - 1))) → Tt T2 T3 → n20 T2 T3 → wp_BRg_cutBack_190 post (wp_BRg_cutBack_123 post n) (qa qs 22) d ((e : Int) - 1) T3 := by
          intro T3 h3 g3 n3
          unfold wp_BRg_cutBack_190
          rw [show (e : Int) - 1 + (-1) = ((e - 1 : Nat) : Int) - 1 by omega]
          exact ih (e - 1) T3 (by omega) (by omega) h3 (Ty_trans g2 g3) (n20_trans n2 n3)
        refine ⟨t22 h2, qa qs 25, r2 h2, A.1, get ⟨t10, t10, ?_⟩⟩
        rw [Q.2.1]
        refine ⟨by unfold inR; omega, by unfold inR; omega, fun c1 => ⟨t22 h2, qa qs 25, r2 h2, A.1, get ⟨t10, t10, ?_⟩⟩, fun c1 => ⟨t22 h2, qa qs 25, r2 h2, A.1, ?_⟩⟩
        · have eE : e ≤ E := (be e e1 he).mp (by omega)
          have mx : max (e - 1) E = max e E := by omega
          rw [Q.2.2]
          refine ⟨by unfold inR; omega, by unfold inR; omega, fun c2 => nxt T2 (by rw [mx, ctp_n (by omega)]; exact h2) (Ty_refl _ _ _) (n20_refl _), fun c2 => ⟨t22 h2, qa qs 25, r2 h2, A.1, get ⟨t10, t10, fun T3 y3 => nxt T3 ?_ ?_ ?_⟩⟩⟩
          · rw [mx, y3, ← rCut_27 e (ctp_s e1 eE (by omega))]
            exact h2.rel (v := 0) e1 (by rw [e25]; omega)
          · rw [y3]; exact (Ty_i (Pi := fun _ => True) (Po := fun _ => True) trivial)
          · rw [y3]; exact n20_tg rfl
        · have eE : ¬ e ≤ E := fun f => by have := (be e e1 he).mpr f; omega
          have A' : alist T2 (qa qs 25) (ad 8 2) e (ad 2) 10 := by
            have := A; rw [e25, show max e E = e by omega] at this; exact this
          refine sp_B_pop A' (by omega) e1 (fun T3 g3 n3 t3 a3 => nxt T3 ?_ g3.tt n3)
          have nl2 : nL (rCut R d L (max e E) (ctp R 12 d L 0) (ctp R 27 d E e)) 2 = e := by show max e E = e; omega
          have := h2.pop hq hl (i := 2) (by omega) g3 t3 (by rw [nl2]; exact a3)
          rw [nl2, show fL 2 = 25 from rfl, rCut_25] at this
          rw [show max (e - 1) E = e - 1 by omega, ctp_n (by omega)]
          exact this
  -- lots
  have l2 : ∀ (n l : Nat) (T2 : CS), l < n → l ≤ R.1 7 0 → BK qs ad T2 (rCut R d (max l L) (R.1 25 0) (ctp R 12 d L l) (fun _ => false)) → Tt T T2 → n20 T T2 → wp_BRg_cutBack_40 post n (qa qs 22) d ((l : Int) - 1) T2 := by
    intro n
    induction n with
    | zero => intro e T2 hm; omega
    | succ n ih =>
      intro l T2 hm hll h2 g2 n2
      unfold wp_BRg_cutBack_40
      refine ⟨by unfold inR; omega, fun c => ?_, fun c => ?_⟩
      · have : l = 0 := by omega
        subst this
        rw [Nat.zero_max] at h2
        have A := h2.2.2.2.1.2.2
        refine ⟨t22 h2, qa qs 25, r2 h2, A.1, A.1, ⟨R.1 25 0 + 1, ?_⟩⟩
        rw [A.2.1]
        refine l3 _ (R.1 25 0) T2 (by omega) (Nat.le_refl _) ?_ g2 n2
        have z : ctp R 27 d E (R.1 25 0) = fun _ => false := by
          funext i; unfold ctp; exact decide_eq_false (by omega)
        rw [z, Nat.max_eq_left hE]; exact h2
      · have A := h2.2.2.2.1.2.1
        have e7 : (rCut R d (max l L) (R.1 25 0) (ctp R 12 d L l) (fun _ => false)).1 7 0 = max l L := rfl
        have l1 : 1 ≤ l := by omega
        have eo : ∀ f, f ≠ 25 → f ≠ 15 → f ≠ 7 → f ≠ 27 → (rCut R d (max l L) (R.1 25 0) (ctp R 12 d L l) (fun _ => false)).1 f l = R.1 f l := fun f a b c d' => rCut_o (Or.inl ⟨b, c, a⟩) (Or.inr ctp_f) (Or.inl d')
        obtain ⟨_, _, Q1, Q2, _⟩ := h2.2.2.2.2.2.2.1 l l1 (by rw [e7]; omega)
        rw [eo 11 (by omega) (by omega) (by omega) (by omega)] at Q1
        rw [eo 12 (by omega) (by omega) (by omega) (by omega)] at Q2
        have wl := (w.2.2.1 l l1 hll).2
        have t9 := A.2.2.2.2.1 l l1 (by rw [e7]; omega)
        have get : ∀ {P : Nat → CS → Prop}, P (ad 1 l) T2 → wp_BAL_get P (qa qs 24) ((l : Int) - 1) T2 := fun q => sp_B_get A l1 (by rw [e7]; omega) q
        have nxt : ∀ T3, BK qs ad T3 (rCut R d (max (l - 1) L) (R.1 25 0) (ctp R 12 d L (l - 1)) (fun _ => false)) → Tt T2 T3 → n20 T2 T3 → wp_BRg_cutBack_107 post (wp_BRg_cutBack_40 post n) (qa qs 22) d ((l : Int) - 1) T3 := by
          intro T3 h3 g3 n3
          unfold wp_BRg_cutBack_107
          rw [show (l : Int) - 1 + (-1) = ((l - 1 : Nat) : Int) - 1 by omega]
          exact ih (l - 1) T3 (by omega) (by omega) h3 (Ty_trans g2 g3) (n20_trans n2 n3)
        refine ⟨t22 h2, qa qs 24, r1 h2, A.1, get ⟨t9, t9, ?_⟩⟩
        rw [Q1]
        refine ⟨by unfold inR; omega, by unfold inR; omega, fun c1 => ⟨t22 h2, qa qs 24, r1 h2, A.1, get ⟨t9, t9, ?_⟩⟩, fun c1 => ⟨t22 h2, qa qs 24, r1 h2, A.1, ?_⟩⟩
        · have eE : l ≤ L := (bl l l1 hll).mp (by omega)
          have mx : max (l - 1) L = max l L := by omega
          rw [Q2]
          refine ⟨by unfold inR; omega, by unfold inR; omega, fun c2 => nxt T2 (by rw [mx, ctp_n (by omega)]; exact h2) (Ty_refl _ _ _) (n20_refl _), fun c2 => ⟨t22 h2, qa qs 24, r1 h2, A.1, get ⟨t9, t9, fun T3 y3 => nxt T3 ?_ ?_ ?_⟩⟩⟩
          · rw [mx, y3, ← rCut_12 l (ctp_s l1 eE (by omega))]
            exact h2.end (v := 0) l1 (by rw [e7]; omega)
          · rw [y3]; exact (Ty_i (Pi := fun _ => True) (Po := fun _ => True) trivial)
          · rw [y3]; exact n20_tg rfl
        · have eE : ¬ l ≤ L := fun f => by have := (bl l l1 hll).mpr f; omega
          have A' : alist T2 (qa qs 24) (ad 8 1) l (ad 1) 9 := by
            have := A; rw [e7, show max l L = l by omega] at this; exact this
          refine sp_B_pop A' (by omega) l1 (fun T3 g3 n3 t3 a3 => nxt T3 ?_ g3.tt n3)
          have nl2 : nL (rCut R d (max l L) (R.1 25 0) (ctp R 12 d L l) (fun _ => false)) 1 = l := by show max l L = l; omega
          have := h2.pop hq hl (i := 1) (by omega) g3 t3 (by rw [nl2]; exact a3)
          rw [nl2, show fL 1 = 7 from rfl, rCut_7] at this
          rw [show max (l - 1) L = l - 1 by omega, ctp_n (by omega)]
          exact this
  -- deeds
  have l1 : ∀ (n k : Nat) (T2 : CS), k - d < n → d ≤ k → k ≤ R.1 15 0 → BK qs ad T2 (rCut R k (R.1 7 0) (R.1 25 0) (fun _ => false) (fun _ => false)) → Tt T T2 → n20 T T2 → wp_BRg_cutBack_10 post n (qa qs 22) d ((k : Int) - 1) T2 := by
    intro n
    induction n with
    | zero => intro e T2 hm; omega
    | succ n ih =>
      intro k T2 hm hk hk2 h2 g2 n2
      unfold wp_BRg_cutBack_10
      refine ⟨by unfold inR; omega, by unfold inR; omega, fun c => ?_, fun c => ?_⟩
      · have : k = d := by omega
        subst this
        have A := h2.2.2.2.1.2.1
        refine ⟨t22 h2, qa qs 24, r1 h2, A.1, A.1, ⟨R.1 7 0 + 1, ?_⟩⟩
        rw [A.2.1]
        refine l2 _ (R.1 7 0) T2 (by omega) (Nat.le_refl _) ?_ g2 n2
        have z : ctp R 12 k L (R.1 7 0) = fun _ => false := by
          funext i; unfold ctp; exact decide_eq_false (by omega)
        rw [z, Nat.max_eq_left hL]; exact h2
      · have A := h2.2.2.2.1.1
        have e15 : (rCut R k (R.1 7 0) (R.1 25 0) (fun _ => false) (fun _ => false)).1 15 0 = k := rfl
        refine ⟨t22 h2, qa qs 23, r0 h2, A.1, sp_B_pop (n := k) A (by omega) (by omega) (fun T3 g3 n3 t3 a3 => ?_)⟩
        have nl2 : nL (rCut R k (R.1 7 0) (R.1 25 0) (fun _ => false) (fun _ => false)) 0 = k := rfl
        have := h2.pop hq hl (i := 0) (by omega) g3 t3 (by rw [nl2]; exact a3)
        rw [nl2, show fL 0 = 15 from rfl, rCut_15] at this
        rw [show (k : Int) - 1 + (-1) = ((k - 1 : Nat) : Int) - 1 by omega]
        exact ih (k - 1) T3 (by omega) (by omega) (by omega) this (Ty_trans g2 g3.tt) (n20_trans n2 n3)
  unfold wp_BRg_cutBack
  have A := h.2.2.2.1.1
  refine ⟨t22 h, qa qs 23, r0 h, A.1, A.1, ⟨R.1 15 0 + 1, ?_⟩⟩
  rw [A.2.1]
  exact l1 _ (R.1 15 0) T (by omega) hd (Nat.le_refl _) (by rw [rCut_0]; exact h) (Ty_refl _ _ _) (n20_refl _)
end CTB
