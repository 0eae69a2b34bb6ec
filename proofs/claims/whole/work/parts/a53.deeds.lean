/-! deeds: numbers, ranges, the reference's writes -/
section DEE
variable {S S' : MS} {R R' : AR} {kd dy a b c p x y z : Nat} {nm : List Nat} {body : List Int}
theorem rEnt_n (f i : Nat) : (rEnt R kd dy a b c p x y z nm body).1 f i = if f = 30 ∧ i = 0 then R.1 30 0 + (wrec body).length else if f = 24 ∧ i = R.1 15 0 + 1 then z else if f = 23 ∧ i = R.1 15 0 + 1 then y else if f = 22 ∧ i = R.1 15 0 + 1 then x else if f = 21 ∧ i = R.1 15 0 + 1 then p else if f = 20 ∧ i = R.1 15 0 + 1 then c else if f = 19 ∧ i = R.1 15 0 + 1 then b else if f = 18 ∧ i = R.1 15 0 + 1 then a else if f = 17 ∧ i = R.1 15 0 + 1 then dy else if f = 16 ∧ i = R.1 15 0 + 1 then kd else if f = 15 ∧ i = 0 then R.1 15 0 + 1 else R.1 f i := rfl
theorem rEnt_o {f i : Nat} (h : f < 15 ∨ 30 < f ∨ (24 < f ∧ f < 30) ∨ (16 ≤ f ∧ f ≤ 24 ∧ i ≠ R.1 15 0 + 1)) : (rEnt R kd dy a b c p x y z nm body).1 f i = R.1 f i := by
  rw [rEnt_n, if_neg (by omega), if_neg (by omega), if_neg (by omega), if_neg (by omega), if_neg (by omega), if_neg (by omega), if_neg (by omega), if_neg (by omega), if_neg (by omega), if_neg (by omega), if_neg (by omega)]
theorem rEnt_15 : (rEnt R kd dy a b c p x y z nm body).1 15 0 = R.1 15 0 + 1 := by simp [rEnt_n]
theorem rEnt_30 : (rEnt R kd dy a b c p x y z nm body).1 30 0 = R.1 30 0 + (wrec body).length := by simp [rEnt_n]
theorem rEnt_d : (rEnt R kd dy a b c p x y z nm body).1 16 (R.1 15 0 + 1) = kd ∧ (rEnt R kd dy a b c p x y z nm body).1 17 (R.1 15 0 + 1) = dy ∧ (rEnt R kd dy a b c p x y z nm body).1 18 (R.1 15 0 + 1) = a ∧ (rEnt R kd dy a b c p x y z nm body).1 19 (R.1 15 0 + 1) = b ∧ (rEnt R kd dy a b c p x y z nm body).1 20 (R.1 15 0 + 1) = c ∧ (rEnt R kd dy a b c p x y z nm body).1 21 (R.1 15 0 + 1) = p ∧ (rEnt R kd dy a b c p x y z nm body).1 22 (R.1 15 0 + 1) = x ∧ (rEnt R kd dy a b c p x y z nm body).1 23 (R.1 15 0 + 1) = y ∧ (rEnt R kd dy a b c p x y z nm body).1 24 (R.1 15 0 + 1) = z := by simp [rEnt_n]
theorem wrec_inR (h : ∀ w ∈ body, 0 ≤ w ∧ w ≤ 700000000) (h40 : body.length ≤ 40) {lg : Nat → Int} {n : Nat} (hl : ∀ i, inR (lg i)) (i : Nat) : inR (lgapp lg n (wrec body) i) := by
  unfold lgapp
  split
  · next hi =>
    unfold wrec at hi ⊢
    rw [List.length_append] at hi
    by_cases k : i - n < body.length
    · have hm : (body ++ [(body.length : Int) - 2147483648, wsum body % 2147483648 - 2147483648]).getD (i - n) 0 = body[i - n] := by
        rw [List.getD_eq_getElem?_getD, List.getElem?_append_left k]; simp [k]
      rw [hm]
      have := h _ (List.getElem_mem k)
      unfold inR; omega
    · rw [List.getD_eq_getElem?_getD, List.getElem?_append_right (by omega)]
      have hi2 : i - n - body.length < 2 := by simp at hi; omega
      rcases (show i - n - body.length = 0 ∨ i - n - body.length = 1 by omega) with q | q <;> rw [q]
      · show inR ((body.length : Int) - 2147483648)
        unfold inR; omega
      · show inR (wsum body % 2147483648 - 2147483648)
        unfold inR; omega
  · exact hl i
theorem WR_ent (w : WR R) (h15 : R.1 15 0 < 600) (hk : 1 ≤ kd ∧ kd ≤ 5) (hd : dy ≤ 30000) (ha : a ≤ 300) (hb : b ≤ 300) (hc : c ≤ 300) (hp : p ≤ 25401600) (h5 : kd = 5 → 1 ≤ a ∧ a ≤ R.1 25 0) (hw : R.1 30 0 + (wrec body).length ≤ 12000) (hbd : ∀ w ∈ body, 0 ≤ w ∧ w ≤ 700000000) (h40 : body.length ≤ 40) : WR (rEnt R kd dy a b c p x y z nm body) := by
  have W := w.1
  refine ⟨⟨?_, ?_, ?_, ?_, ?_, ?_, ?_⟩, w.2.1, fun l l1 l2 => ?_, fun d d1 d2 => ?_, fun e e1 e2 => ?_, fun i => wrec_inR hbd h40 w.2.2.2.2.2 i⟩
  · rw [rEnt_o (by omega)]; omega
  · rw [rEnt_15]; omega
  · rw [rEnt_o (by omega)]; omega
  · rw [rEnt_30]; omega
  · rw [rEnt_30, rEnt_o (by omega)]; omega
  · rw [rEnt_o (by omega)]; omega
  · rw [rEnt_o (by omega)]; omega
  · rw [rEnt_o (by omega)] at l2
    have dl := (w.2.2.1 l l1 l2).2
    rw [rEnt_o (f := 11) (by omega), rEnt_o (f := 12) (by omega), rEnt_o (f := 13) (by omega), rEnt_o (f := 14) (by omega), rEnt_15]
    exact ⟨w.rg l1 l2, by omega, by omega, dl.2.2.1, dl.2.2.2.1, dl.2.2.2.2⟩
  · rw [rEnt_15] at d2
    rw [rEnt_o (f := 25) (by omega)]
    by_cases k : d = R.1 15 0 + 1
    · obtain ⟨q1, q2, q3, q4, q5, q6, _⟩ := rEnt_d (R := R) (kd := kd) (dy := dy) (a := a) (b := b) (c := c) (p := p) (x := x) (y := y) (z := z) (nm := nm) (body := body)
      rw [k, q1, q2, q3, q4, q5, q6]
      exact ⟨hk, hd, ha, hb, hc, hp, h5⟩
    · rw [rEnt_o (f := 16) (by omega), rEnt_o (f := 17) (by omega), rEnt_o (f := 18) (by omega), rEnt_o (f := 19) (by omega), rEnt_o (f := 20) (by omega), rEnt_o (f := 21) (by omega)]
      exact w.2.2.2.1 d d1 (by omega)
  · rw [rEnt_o (by omega)] at e2
    have we := w.2.2.2.2.1 e e1 e2
    rw [rEnt_o (f := 26) (by omega), rEnt_o (f := 27) (by omega), rEnt_o (f := 28) (by omega), rEnt_15, rEnt_o (f := 7) (by omega)]
    omega
theorem rN_o {f i v f' i' : Nat} (h : f' ≠ f ∨ i' ≠ i) : (rN R [(f, i, v)]).1 f' i' = R.1 f' i' := by
  rw [rN1, if_neg (by omega)]
theorem WR_end (w : WR R) {l v : Nat} (hv : v ≤ R.1 15 0) : WR (rN R [(12, l, v)]) := by
  have W := w.1
  refine ⟨by rw [rN_o (f' := 7) (by omega), rN_o (f' := 15) (by omega), rN_o (f' := 25) (by omega), rN_o (f' := 30) (by omega), rN_o (f' := 31) (by omega), rN_o (f' := 2) (by omega), rN_o (f' := 3) (by omega)]; exact W, w.2.1, fun l' l1 l2 => ?_, fun d d1 d2 => ?_, fun e e1 e2 => ?_, w.2.2.2.2.2⟩
  · rw [rN_o (by omega)] at l2
    have dl := (w.2.2.1 l' l1 l2).2
    rw [rN_o (f' := 11) (by omega), rN_o (f' := 13) (by omega), rN_o (f' := 14) (by omega), rN_o (f' := 15) (by omega), rN1]
    refine ⟨w.rg l1 l2, dl.1, ?_, dl.2.2.1, dl.2.2.2.1, dl.2.2.2.2⟩
    split <;> omega
  · rw [rN_o (by omega)] at d2
    rw [rN_o (f' := 16) (by omega), rN_o (f' := 17) (by omega), rN_o (f' := 18) (by omega), rN_o (f' := 19) (by omega), rN_o (f' := 20) (by omega), rN_o (f' := 21) (by omega), rN_o (f' := 25) (by omega)]
    exact w.2.2.2.1 d d1 d2
  · rw [rN_o (by omega)] at e2
    rw [rN_o (f' := 26) (by omega), rN_o (f' := 27) (by omega), rN_o (f' := 28) (by omega), rN_o (f' := 15) (by omega), rN_o (f' := 7) (by omega)]
    exact w.2.2.2.2.1 e e1 e2
theorem WR_rel (w : WR R) {l v : Nat} (hv : v ≤ R.1 15 0) : WR (rN R [(27, l, v)]) := by
  have W := w.1
  refine ⟨by rw [rN_o (f' := 7) (by omega), rN_o (f' := 15) (by omega), rN_o (f' := 25) (by omega), rN_o (f' := 30) (by omega), rN_o (f' := 31) (by omega), rN_o (f' := 2) (by omega), rN_o (f' := 3) (by omega)]; exact W, w.2.1, fun l' l1 l2 => ?_, fun d d1 d2 => ?_, fun e e1 e2 => ?_, w.2.2.2.2.2⟩
  · rw [rN_o (by omega)] at l2
    rw [rN_o (f' := 11) (by omega), rN_o (f' := 12) (by omega), rN_o (f' := 13) (by omega), rN_o (f' := 14) (by omega), rN_o (f' := 15) (by omega)]
    exact w.2.2.1 l' l1 l2
  · rw [rN_o (by omega)] at d2
    rw [rN_o (f' := 16) (by omega), rN_o (f' := 17) (by omega), rN_o (f' := 18) (by omega), rN_o (f' := 19) (by omega), rN_o (f' := 20) (by omega), rN_o (f' := 21) (by omega), rN_o (f' := 25) (by omega)]
    exact w.2.2.2.1 d d1 d2
  · rw [rN_o (by omega)] at e2
    have we := w.2.2.2.2.1 e e1 e2
    rw [rN_o (f' := 26) (by omega), rN_o (f' := 28) (by omega), rN_o (f' := 15) (by omega), rN_o (f' := 7) (by omega), rN1]
    refine ⟨we.1, ?_, we.2.2⟩
    split <;> omega
theorem WR_lot (w : WR R) {d a b : Nat} {K : List PT} {sh : Nat → Int} {ih : Nat → Bool} (h300 : R.1 7 0 < 300) (hd : d ≠ 0 ∧ d ≤ R.1 15 0) (ha : 1 ≤ a ∧ a ≤ R.1 7 0) (hb : b ≤ R.1 7 0) (hK : rg_ok K) : WR (rLotB R d a b K sh ih) := by
  have W := w.1
  refine ⟨?_, w.2.1, fun l l1 l2 => ?_, fun d' d1 d2 => ?_, fun e e1 e2 => ?_, w.2.2.2.2.2⟩
  · rw [rLotB_7, rLotB_o _ _ _ _ _ _ _ (f := 15) _ (by omega), rLotB_o _ _ _ _ _ _ _ (f := 25) _ (by omega), rLotB_o _ _ _ _ _ _ _ (f := 30) _ (by omega), rLotB_o _ _ _ _ _ _ _ (f := 31) _ (by omega), rLotB_o _ _ _ _ _ _ _ (f := 2) _ (by omega), rLotB_o _ _ _ _ _ _ _ (f := 3) _ (by omega)]
    omega
  · rw [rLotB_7] at l2
    rw [rLotB_o _ _ _ _ _ _ _ (f := 15) _ (by omega)]
    show rg_ok (if l = R.1 7 0 + 1 then K else aRing R l) ∧ _
    by_cases k : l = R.1 7 0 + 1
    · rw [if_pos k, k]
      have e11 : (rLotB R d a b K sh ih).1 11 (R.1 7 0 + 1) = d := by simp [rLotB_n]
      have e12 : (rLotB R d a b K sh ih).1 12 (R.1 7 0 + 1) = 0 := by simp [rLotB_n]
      have e13 : (rLotB R d a b K sh ih).1 13 (R.1 7 0 + 1) = a := by simp [rLotB_n]
      have e14 : (rLotB R d a b K sh ih).1 14 (R.1 7 0 + 1) = b := by simp [rLotB_n]
      rw [e11, e12, e13, e14]
      exact ⟨hK, by omega, by omega, by omega, by omega, by omega⟩
    · have dl := w.2.2.1 l l1 (by omega)
      rw [if_neg k]
      have lo : ∀ f, 11 ≤ f → f ≤ 14 → (rLotB R d a b K sh ih).1 f l = R.1 f l := by
        intro f f1 f2
        rw [rLotB_n, if_neg (fun q => k q.2), if_neg (fun q => k q.2), if_neg (fun q => k q.2), if_neg (fun q => k q.2), if_neg (by omega)]
      rw [lo 11 (by omega) (by omega), lo 12 (by omega) (by omega), lo 13 (by omega) (by omega), lo 14 (by omega) (by omega)]
      exact dl
  · rw [rLotB_o _ _ _ _ _ _ _ (f := 15) _ (by omega)] at d2
    rw [rLotB_o _ _ _ _ _ _ _ (f := 16) _ (by omega), rLotB_o _ _ _ _ _ _ _ (f := 17) _ (by omega), rLotB_o _ _ _ _ _ _ _ (f := 18) _ (by omega), rLotB_o _ _ _ _ _ _ _ (f := 19) _ (by omega), rLotB_o _ _ _ _ _ _ _ (f := 20) _ (by omega), rLotB_o _ _ _ _ _ _ _ (f := 21) _ (by omega), rLotB_o _ _ _ _ _ _ _ (f := 25) _ (by omega)]
    exact w.2.2.2.1 d' d1 d2
  · rw [rLotB_o _ _ _ _ _ _ _ (f := 25) _ (by omega)] at e2
    have we := w.2.2.2.2.1 e e1 e2
    rw [rLotB_o _ _ _ _ _ _ _ (f := 26) _ (by omega), rLotB_o _ _ _ _ _ _ _ (f := 27) _ (by omega), rLotB_o _ _ _ _ _ _ _ (f := 28) _ (by omega), rLotB_o _ _ _ _ _ _ _ (f := 15) _ (by omega), rLotB_7]
    omega

theorem WR_eas (w : WR R) {g o : Nat} (h200 : R.1 25 0 < 200) (hg : 1 ≤ g ∧ g ≤ R.1 15 0) (ho : 1 ≤ o ∧ o ≤ R.1 7 0) : WR (rEas R g o) := by
  have W := w.1
  refine ⟨?_, w.2.1, fun l l1 l2 => ?_, fun d' d1 d2 => ?_, fun e e1 e2 => ?_, w.2.2.2.2.2⟩
  · rw [rEas_25, rEas_o _ _ _ (f := 7) _ (by omega), rEas_o _ _ _ (f := 15) _ (by omega), rEas_o _ _ _ (f := 30) _ (by omega), rEas_o _ _ _ (f := 31) _ (by omega), rEas_o _ _ _ (f := 2) _ (by omega), rEas_o _ _ _ (f := 3) _ (by omega)]
    omega
  · rw [rEas_o _ _ _ (f := 7) _ (by omega)] at l2
    rw [rEas_o _ _ _ (f := 11) _ (by omega), rEas_o _ _ _ (f := 12) _ (by omega), rEas_o _ _ _ (f := 13) _ (by omega), rEas_o _ _ _ (f := 14) _ (by omega), rEas_o _ _ _ (f := 15) _ (by omega)]
    exact w.2.2.1 l l1 l2
  · rw [rEas_o _ _ _ (f := 15) _ (by omega)] at d2
    rw [rEas_o _ _ _ (f := 16) _ (by omega), rEas_o _ _ _ (f := 17) _ (by omega), rEas_o _ _ _ (f := 18) _ (by omega), rEas_o _ _ _ (f := 19) _ (by omega), rEas_o _ _ _ (f := 20) _ (by omega), rEas_o _ _ _ (f := 21) _ (by omega), rEas_25]
    obtain ⟨w1, w2, w3, w4, w5, w6, w7⟩ := w.2.2.2.1 d' d1 d2
    exact ⟨w1, w2, w3, w4, w5, w6, fun f => ⟨(w7 f).1, by have := (w7 f).2; omega⟩⟩
  · rw [rEas_25] at e2
    rw [rEas_o _ _ _ (f := 15) _ (by omega), rEas_o _ _ _ (f := 7) _ (by omega)]
    by_cases k : e = R.1 25 0 + 1
    · have e26 : (rEas R g o).1 26 (R.1 25 0 + 1) = g := by simp [rEas_n]
      have e27 : (rEas R g o).1 27 (R.1 25 0 + 1) = 0 := by simp [rEas_n]
      have e28 : (rEas R g o).1 28 (R.1 25 0 + 1) = o := by simp [rEas_n]
      rw [k, e26, e27, e28]; omega
    · have lo : ∀ f, 26 ≤ f → f ≤ 28 → (rEas R g o).1 f e = R.1 f e := by
        intro f f1 f2
        rw [rEas_n, if_neg (fun q => k q.2), if_neg (fun q => k q.2), if_neg (fun q => k q.2), if_neg (by omega)]
      rw [lo 26 (by omega) (by omega), lo 27 (by omega) (by omega), lo 28 (by omega) (by omega)]
      exact w.2.2.2.2.1 e e1 (by omega)
/-- what the reference shows of a register -/
theorem MD.cgn (h : MD S R) (hn : ∀ f i, R'.1 f i = R.1 f i) (hr : aRing R' = aRing R) (hg : aLg R' = aLg R) (hw : aRow R' = aRow R) : MD S R' := by
  have e : R'.1 = R.1 := funext fun f => funext fun i => hn f i
  unfold MD at h ⊢
  rw [e, hr, hg, hw]; exact h
theorem MD.easN (h : MD S R) {g o : Nat} : MD (ms_a (ms_a (ms_a (ms_i S 25 ((R.1 25 0 : Int) + 1)) 26 ((R.1 25 0 + 1 : Nat) : Int) (g : Int)) 27 ((R.1 25 0 + 1 : Nat) : Int) 0) 28 ((R.1 25 0 + 1 : Nat) : Int) (o : Int)) (rEas R g o) := by
  have so : ∀ f t, f < 26 ∨ 28 < f → (ms_a (ms_a (ms_a (ms_i S 25 ((R.1 25 0 : Int) + 1)) 26 ((R.1 25 0 + 1 : Nat) : Int) (g : Int)) 27 ((R.1 25 0 + 1 : Nat) : Int) 0) 28 ((R.1 25 0 + 1 : Nat) : Int) (o : Int)).2 f t = S.2 f t := by
    intro f t hf
    show (if f = 28 ∧ _ then _ else if f = 27 ∧ _ then _ else if f = 26 ∧ _ then _ else S.2 f t) = S.2 f t
    rw [if_neg (by omega), if_neg (by omega), if_neg (by omega)]
  have sf : ∀ f, f < 26 ∨ 28 < f → (ms_a (ms_a (ms_a (ms_i S 25 ((R.1 25 0 : Int) + 1)) 26 ((R.1 25 0 + 1 : Nat) : Int) (g : Int)) 27 ((R.1 25 0 + 1 : Nat) : Int) 0) 28 ((R.1 25 0 + 1 : Nat) : Int) (o : Int)).2 f = S.2 f := fun f hf => funext fun t => so f t hf
  obtain ⟨⟨k1, k2⟩, k3, k4, k5, k6, k7⟩ := h
  refine ⟨⟨?_, fun f hf => ?_⟩, ?_, fun l l1 l2 => ?_, fun d d1 d2 f f1 f2 => ?_, fun e e1 e2 f f1 f2 => ?_, fun i hi => ?_⟩
  · rw [rEas_o _ _ _ (f := 7) _ (by omega)]; exact k1
  · by_cases q : f = 25
    · subst q; rw [rEas_25]; show (R.1 25 0 : Int) + 1 = ((R.1 25 0 + 1 : Nat) : Int); omega
    · rw [rEas_o _ _ _ (f := f) _ (by omega), ← k2 f hf]
      show (if f = 25 then _ else S.1 f) = S.1 f
      rw [if_neg q]
  · unfold marr at k3 ⊢
    rw [sf 5 (by omega), sf 6 (by omega)]; exact k3
  · rw [rEas_o _ _ _ (f := 7) _ (by omega)] at l2
    have := k4 l l1 l2
    rw [sf 10 (by omega), sf 8 (by omega), sf 9 (by omega)]
    exact ⟨this.1, this.2.1, fun f f1 f2 => by rw [sf f (by omega), rEas_o _ _ _ (f := f) _ (by omega)]; exact this.2.2 f f1 f2⟩
  · rw [rEas_o _ _ _ (f := 15) _ (by omega)] at d2
    rw [sf f (by omega), rEas_o _ _ _ (f := f) _ (by omega)]; exact k5 d d1 d2 f f1 f2
  · rw [rEas_25] at e2
    show (if f = 28 ∧ e = (((R.1 25 0 + 1 : Nat) : Int)).toNat then (o : Int) else if f = 27 ∧ e = (((R.1 25 0 + 1 : Nat) : Int)).toNat then 0 else if f = 26 ∧ e = (((R.1 25 0 + 1 : Nat) : Int)).toNat then (g : Int) else S.2 f e) = _
    rw [Int.toNat_natCast, rEas_n]
    by_cases q : e = R.1 25 0 + 1
    · rcases (show f = 26 ∨ f = 27 ∨ f = 28 by omega) with r | r | r <;> subst r <;> simp [q]
    · rw [if_neg (fun r => q r.2), if_neg (fun r => q r.2), if_neg (fun r => q r.2), if_neg (fun r => q r.2), if_neg (fun r => q r.2), if_neg (fun r => q r.2), if_neg (by omega)]
      exact k6 e e1 (by omega) f f1 f2
  · rw [rEas_o _ _ _ (f := 30) _ (by omega)] at hi
    rw [sf 32 (by omega)]; exact k7 i hi
end DEE
