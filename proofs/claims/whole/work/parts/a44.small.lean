/-! the register's sense: small changes, the beginning -/
section SML
variable {R : AR}
def rScal (R : AR) (dn mo wd sy : Nat) : AR := (fun f i => if f = 2 ∧ i = 0 then dn else if f = 3 ∧ i = 0 then mo else if f = 30 ∧ i = 0 then wd else if f = 31 ∧ i = 0 then sy else R.1 f i, R.2)
theorem rScal_o (R : AR) (dn mo wd sy : Nat) {f i : Nat} (h : f ≠ 2 ∧ f ≠ 3 ∧ f ≠ 30 ∧ f ≠ 31) : (rScal R dn mo wd sy).1 f i = R.1 f i := by
  show (if f = 2 ∧ i = 0 then dn else if f = 3 ∧ i = 0 then mo else if f = 30 ∧ i = 0 then wd else if f = 31 ∧ i = 0 then sy else R.1 f i) = _
  rw [if_neg (by omega), if_neg (by omega), if_neg (by omega), if_neg (by omega)]
theorem WF_scal (h : WF R) {dn mo wd sy : Nat} (h1 : dn ≤ 1) (h2 : mo ≤ 40) (h3 : wd ≤ 12000) (h4 : sy ≤ wd) (h5 : wd ≤ wEnd R (R.1 15 0)) (h6 : dn = 0 → wd = wEnd R (R.1 15 0)) (h7 : R.1 7 0 = 0 → wd = 0 ∧ dn = 0) : WF (rScal R dn mo wd sy) := by
  refine ⟨⟨⟨h.r.1.1, h.r.1.2.1, h.r.1.2.2.1, h3, h4, h1, h2⟩, h.r.2.1, h.r.2.2.1, h.r.2.2.2.1, h.r.2.2.2.2.1, h.r.2.2.2.2.2⟩, h.i, h.n, h.nl, h.t, h.p, h.o, h.q, ?_, h.x, h.e, ?_, ?_⟩
  · have oe : ∀ l p y e n, oN (rScal R dn mo wd sy) l p y e n = oN R l p y e n := fun l p y e n => oN_congr (fun d _ _ => rfl)
    intro l l1 l2
    obtain ⟨t0, t1, t2, t3⟩ := h.sh l l1 l2
    refine ⟨t0, fun f p hp => ?_, t2, fun p day ent hp => ?_⟩
    · rw [oe]; exact t1 f p hp
    · unfold aShare; rw [oe]; exact t3 p day ent hp
  · exact ⟨h.l.1, h5, h6⟩
  · refine ⟨fun f => ?_, h.c.2⟩
    have := h.c.1 f
    exact ⟨this.1, this.2.1, (h7 f).1, (h7 f).2⟩
theorem WF_row (h : WF R) {l : List PT} (h1 : l.length ≤ 32) (h2 : ∀ p ∈ l, ig_ok p) : WF (rRow R l) := by
  refine ⟨⟨h.r.1, ⟨h1, h2⟩, h.r.2.2⟩, h.i, h.n, h.nl, h.t, h.p, h.o, h.q, ?_, h.x, h.e, h.l, h.c⟩
  have oe : ∀ l' p y e n, oN (rRow R l) l' p y e n = oN R l' p y e n := fun l' p y e n => oN_congr (fun d _ _ => rfl)
  intro l' l1 l2
  obtain ⟨t0, t1, t2, t3⟩ := h.sh l' l1 l2
  refine ⟨t0, fun f p hp => ?_, t2, fun p day ent hp => ?_⟩
  · rw [oe]; exact t1 f p hp
  · unfold aShare; rw [oe]; exact t3 p day ent hp
theorem WF_found (h : WF R) (h0 : R.1 7 0 = 0) {K : List PT} {ih : Nat → Bool} (hK : rg_ok K) : WF (rLotB R 0 0 0 K (fun p => if p = 0 then 5040 else 0) ih) := by
  obtain ⟨z15, z25, z30, z2⟩ := h.c.1 h0
  have e7 : (rLotB R 0 0 0 K (fun p => if p = 0 then 5040 else 0) ih).1 7 0 = 1 := by rw [rLotB_7, h0]
  have eo : ∀ {f : Nat} (i : Nat), f ≠ 7 ∧ (f < 11 ∨ 14 < f) → (rLotB R 0 0 0 K (fun p => if p = 0 then 5040 else 0) ih).1 f i = R.1 f i := fun i hf => rLotB_o R 0 0 0 K _ ih i hf
  have en : ∀ f, 11 ≤ f → f ≤ 14 → (rLotB R 0 0 0 K (fun p => if p = 0 then 5040 else 0) ih).1 f 1 = 0 := by
    intro f a b
    rw [rLotB_n, h0]
    rcases (show f = 11 ∨ f = 12 ∨ f = 13 ∨ f = 14 by omega) with q | q | q | q <;> subst q <;> simp
  have d0 : (rLotB R 0 0 0 K (fun p => if p = 0 then 5040 else 0) ih).1 15 0 = 0 := by rw [eo 0 (by omega)]; exact z15
  have e0 : (rLotB R 0 0 0 K (fun p => if p = 0 then 5040 else 0) ih).1 25 0 = 0 := by rw [eo 0 (by omega)]; exact z25
  have w0 : (rLotB R 0 0 0 K (fun p => if p = 0 then 5040 else 0) ih).1 30 0 = 0 := by rw [eo 0 (by omega)]; exact z30
  have er : aRing (rLotB R 0 0 0 K (fun p => if p = 0 then 5040 else 0) ih) 1 = K := by
    show (if 1 = R.1 7 0 + 1 then K else aRing R 1) = K
    rw [if_pos (by omega)]
  have es : aSh (rLotB R 0 0 0 K (fun p => if p = 0 then 5040 else 0) ih) 1 = fun p => if p = 0 then 5040 else 0 := by
    show updN (aSh R) (R.1 7 0 + 1) _ 1 = _
    rw [h0, updN_s]
  have W := h.r.1
  refine ⟨⟨⟨?_, ?_, ?_, ?_, ?_, ?_, ?_⟩, h.r.2.1, fun l l1 l2 => ?_, fun d d1 d2 => by omega, fun e e1 e2 => by omega, h.r.2.2.2.2.2⟩, fun e l e1 e2 => by omega, fun d l d1 d2 => by omega, fun d d1 d2 => by omega, fun d d1 d2 => by omega, ⟨fun l l1 l2 => ?_, fun l l1 l2 hne => ?_⟩, fun l l1 l2 hne => ?_, ⟨fun d d1 d2 => by omega, fun e e1 e2 => by omega, fun d d1 d2 => by omega⟩, fun l l1 l2 => ?_, fun l l' day ent a1 a2 b1 b2 hne => by omega, fun e e1 e2 => by omega, ⟨⟨fun _ => [], fun d d1 d2 => by omega⟩, by rw [w0]; omega, fun _ => by rw [w0, d0]; rfl⟩, ⟨fun f => by omega, fun _ d hd => ?_⟩⟩
  · rw [e7]; omega
  · rw [d0]; omega
  · rw [e0]; omega
  · rw [w0]; omega
  · rw [w0, eo 0 (by omega)]; omega
  · rw [eo 0 (by omega)]; omega
  · rw [eo 0 (by omega)]; omega
  · have : l = 1 := by omega
    subst this
    rw [er, en 11 (by omega) (by omega), en 12 (by omega) (by omega), en 13 (by omega) (by omega), en 14 (by omega) (by omega)]
    exact ⟨hK, by omega, by omega, by omega, by omega, Iff.rfl⟩
  · have : l = 1 := by omega
    subst this
    rw [en 11 (by omega) (by omega), en 14 (by omega) (by omega)]
    exact ⟨fun _ => rfl, fun f => absurd rfl f⟩
  · have : l = 1 := by omega
    subst this
    exact absurd (en 12 (by omega) (by omega)) hne
  · have : l = 1 := by omega
    subst this
    exact absurd (en 12 (by omega) (by omega)) hne
  · have : l = 1 := by omega
    subst this
    rw [en 11 (by omega) (by omega), es]
    refine ⟨fun _ p => rfl, fun f => absurd rfl f, ?_, fun p day ent hp => ?_⟩
    · have : (fun p : Nat => if p = 0 then (5040 : Int) else 0) = fun p => if 0 = p then 5040 else 0 := by
        funext p; by_cases c : p = 0
        · rw [if_pos c, if_pos c.symm]
        · rw [if_neg c, if_neg (fun q => c q.symm)]
      rw [this]; exact gx_S_one _ _ _ (by omega)
    · unfold aShare
      rw [es, d0]
      show 0 ≤ (if p = 0 then (5040 : Int) else 0) + 0
      split <;> omega
  · have z : d = 0 := by omega
    subst z
    refine ⟨⟨Nat.le_refl _, by rw [e7]; exact Nat.le_refl _, Nat.zero_le _⟩, fun l l1 l2 => ?_, fun e e1 e2 => by omega⟩
    have : l = 1 := by omega
    subst this
    rw [en 11 (by omega) (by omega)]
    exact ⟨fun _ => Nat.le_refl _, fun _ => Nat.le_refl _⟩
def R0 : AR := (fun _ _ => 0, fun _ => [], fun _ => [], fun _ _ => 0, fun _ _ => false, fun _ => 0, [])
theorem WF_R0 : WF R0 := by
  have z : ∀ f i, R0.1 f i = 0 := fun _ _ => rfl
  refine ⟨⟨⟨by decide, by decide, by decide, by decide, by decide, by decide, by decide⟩, ⟨by decide, fun p hp => absurd hp List.not_mem_nil⟩, fun l l1 l2 => ?_, fun d d1 d2 => ?_, fun e e1 e2 => ?_, fun i => inR_lit0⟩, fun e l e1 e2 => ?_, fun d l d1 d2 => ?_, fun d d1 d2 => ?_, fun d d1 d2 => ?_, ⟨fun l l1 l2 => ?_, fun l l1 l2 => ?_⟩, fun l l1 l2 => ?_, ⟨fun d d1 d2 => ?_, fun e e1 e2 => ?_, fun d d1 d2 => ?_⟩, fun l l1 l2 => ?_, fun l l' day ent a1 a2 => ?_, fun e e1 e2 => ?_, ⟨⟨fun _ => [], fun d d1 d2 => ?_⟩, Nat.le_refl _, fun _ => rfl⟩, ⟨fun _ => ⟨rfl, rfl, rfl, rfl⟩, fun f => ?_⟩⟩ <;> (simp only [z] at *; omega)
end SML
