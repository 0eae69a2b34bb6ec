/-! calls: mount: the reference, a record -/
section OPN
variable {qs : List Nat} {R : AR}
def mtD (R : AR) (d : Nat) : Prop := d ≤ R.1 15 0 ∧ wEnd R d ≤ R.1 30 0 ∧ ∀ d', d < d' → d' ≤ R.1 15 0 → R.1 30 0 < wEnd R d'
theorem mtD_uniq {d d' : Nat} (h : mtD R d) (g : mtD R d') : d = d' := by
  obtain ⟨h1, h2, h3⟩ := h
  obtain ⟨g1, g2, g3⟩ := g
  rcases Nat.lt_trichotomy d d' with q | q | q
  · have := h3 d' q g1; omega
  · exact q
  · have := g3 d q h1; omega
theorem wEnd_s (F : WF R) {d : Nat} (hd : d < R.1 15 0) : wEnd R d + 4 ≤ wEnd R (d + 1) ∧ wEnd R (d + 1) ≤ wEnd R d + 42 ∧ wEnd R (d + 1) = R.1 24 (d + 1) := by
  obtain ⟨bd, hb⟩ := F.l.1
  obtain ⟨b1, b2, b3, b4, b5⟩ := hb (d + 1) (by omega) (by omega)
  have e : wEnd R (d + 1) = R.1 24 (d + 1) := by unfold wEnd; rw [if_neg (by omega)]
  rw [show d + 1 - 1 = d by omega] at b4
  rw [e, b4]
  exact ⟨by omega, by omega, rfl⟩
theorem wEnd_mono (F : WF R) {d : Nat} : ∀ k, d + k ≤ R.1 15 0 → wEnd R d + 4 * k ≤ wEnd R (d + k) := by
  intro k
  induction k with
  | zero => intro _; exact Nat.le_refl _
  | succ k ih =>
    intro h
    have := ih (by omega)
    have := (wEnd_s F (d := d + k) (by omega)).1
    rw [show d + (k + 1) = d + k + 1 by omega]
    omega
theorem wEnd_le (F : WF R) : ∀ d, d ≤ R.1 15 0 → wEnd R d ≤ 42 * d := by
  intro d
  induction d with
  | zero => intro _; exact Nat.le_refl _
  | succ d ih =>
    intro h
    have := ih (by omega)
    have := (wEnd_s F (d := d) (by omega)).2.1
    omega
abbrev mtR (R : AR) (d : Nat) : AR := rCutF (rScal R 0 (R.1 3 0 + 1) (wEnd R d) (wEnd R d)) d (nlt R d) (net R d)
theorem mtR_o (R : AR) (d : Nat) {f : Nat} (i : Nat) (h : f ≠ 2 ∧ f ≠ 3 ∧ f ≠ 30 ∧ f ≠ 31 ∧ f ≠ 15 ∧ f ≠ 7 ∧ f ≠ 25 ∧ f ≠ 12 ∧ f ≠ 27) : (mtR R d).1 f i = R.1 f i := by
  unfold mtR rCutF
  rw [rCut_o (Or.inl ⟨by omega, by omega, by omega⟩) (Or.inl (by omega)) (Or.inl (by omega)), rScal_o _ _ _ _ _ (by omega)]
theorem mtR_12 (R : AR) (d : Nat) {l : Nat} (l1 : 1 ≤ l) (l2 : l ≤ nlt R d) : (mtR R d).1 12 l = if d < R.1 12 l then 0 else R.1 12 l := by
  unfold mtR rCutF rCut
  show (if 12 = 15 ∧ l = 0 then d else if 12 = 7 ∧ l = 0 then nlt R d else if 12 = 25 ∧ l = 0 then net R d else if 12 = 12 ∧ decide (0 < l ∧ l ≤ nlt R d ∧ d < R.1 12 l) = true then 0 else if 12 = 27 ∧ decide (0 < l ∧ l ≤ net R d ∧ d < R.1 27 l) = true then 0 else R.1 12 l) = _
  rw [if_neg (by omega), if_neg (by omega), if_neg (by omega)]
  by_cases c : d < R.1 12 l
  · rw [if_pos c, if_pos ⟨rfl, decide_eq_true ⟨by omega, l2, c⟩⟩]
  · rw [if_neg c, if_neg (fun q => c (of_decide_eq_true q.2).2.2), if_neg (by omega)]
theorem mtR_27 (R : AR) (d : Nat) {e : Nat} (e1 : 1 ≤ e) (e2 : e ≤ net R d) : (mtR R d).1 27 e = if d < R.1 27 e then 0 else R.1 27 e := by
  unfold mtR rCutF rCut
  show (if 27 = 15 ∧ e = 0 then d else if 27 = 7 ∧ e = 0 then nlt R d else if 27 = 25 ∧ e = 0 then net R d else if 27 = 12 ∧ decide (0 < e ∧ e ≤ nlt R d ∧ d < R.1 12 e) = true then 0 else if 27 = 27 ∧ decide (0 < e ∧ e ≤ net R d ∧ d < R.1 27 e) = true then 0 else R.1 27 e) = _
  rw [if_neg (by omega), if_neg (by omega), if_neg (by omega), if_neg (by omega)]
  by_cases c : d < R.1 27 e
  · rw [if_pos c, if_pos ⟨rfl, decide_eq_true ⟨by omega, e2, c⟩⟩]
  · rw [if_neg c, if_neg (fun q => c (of_decide_eq_true q.2).2.2)]
theorem mtR_s (R : AR) (d : Nat) : (mtR R d).1 15 0 = d ∧ (mtR R d).1 7 0 = nlt R d ∧ (mtR R d).1 25 0 = net R d ∧ (mtR R d).1 30 0 = wEnd R d ∧ (mtR R d).1 31 0 = wEnd R d ∧ (mtR R d).1 2 0 = 0 ∧ (mtR R d).1 3 0 = R.1 3 0 + 1 := ⟨rfl, rfl, rfl, rfl, rfl, rfl, rfl⟩
theorem mtR_stp {d : Nat} (h : mtD R d) (h3 : R.1 3 0 < 40) (h12 : R.1 30 0 ≤ 12000) : MStp R (mtR R d) d := by
  obtain ⟨s1, s2, s3, s4, s5, s6, s7⟩ := mtR_s R d
  refine ⟨⟨s1, s2, s3, s4, s5, s6, by rw [s7]; omega, by have := h.2.1; omega⟩, fun d' _ f f1 f2 => mtR_o R d d' (by omega), fun l l2 => ⟨⟨mtR_o R d l (by omega), mtR_o R d l (by omega), mtR_o R d l (by omega)⟩, fun l1 => mtR_12 R d l1 l2⟩, fun e e2 => ⟨mtR_o R d e (by omega), mtR_o R d e (by omega), fun e1 => mtR_27 R d e1 e2⟩, rfl⟩
theorem ms_a_at (S : MS) (k l : Nat) (v : Int) (t : Nat) : (ms_a S k (l : Int) v).2 k t = if t = l then v else S.2 k t := by
  show (if k = k ∧ t = ((l : Int)).toNat then v else S.2 k t) = _
  simp
theorem sp_Mo_mount {S : MS} {post : Int → MS → Prop} (h : MD S R) (hg : MG S) (F : WF R) (p1 : R.1 7 0 = 0 → post 0 (ms_i S 0 1)) (p2 : R.1 7 0 ≠ 0 → R.1 3 0 = 40 → post 0 (ms_i S 0 2))
    (p0 : R.1 7 0 ≠ 0 → R.1 3 0 < 40 → ∀ (d : Nat) S', mtD R d → S'.1 0 = 0 → MG S' → MD S' (mtR R d) → post (d : Int) S') : wp_Mo_mount post S := by
  have w := F.r
  have W := w.1
  have e3 := h.sc (f := 3) (by omega)
  unfold wp_Mo_mount
  rw [h.1.1, e3]
  by_cases c : R.1 7 0 = 0
  · rw [if_pos c]
    refine ⟨inR_lit0, fun f => absurd rfl f, fun _ => ?_⟩
    intro S1 y1
    rw [y1, ms_i0]
    exact ⟨inR_lit1, fun f => absurd f (by decide), fun _ => p1 c⟩
  rw [if_neg c]
  refine ⟨inR_lit1, fun _ => ⟨by unfold inR; omega, fun k => ?_, fun k => ?_⟩, fun f => absurd f (by decide)⟩
  · have k3 : R.1 3 0 < 40 := by omega
    intro S1 y1
    have z0 : S1.1 0 = 0 := by rw [y1]; exact ms_i0 S 0
    rw [z0]
    refine ⟨inR_lit0, fun _ S2 y2 => ⟨R.1 15 0 + 2, ?_⟩, fun q => absurd (Int.le_refl 0) q⟩
    have a20 : S2.1 0 = 0 := by rw [y2]; exact z0
    have a23 : S2.1 3 = ((R.1 3 0 + 1 : Nat) : Int) := by
      rw [y2, ms_i_same, y1]
      show S.1 3 + 1 = _
      rw [e3]; omega
    have a2 : ∀ k, k ≠ 0 → k ≠ 3 → S2.1 k = S.1 k := fun k q0 q3 => by
      rw [y2, y1]
      show (if k = 3 then _ else if k = 0 then _ else S.1 k) = S.1 k
      rw [if_neg q3, if_neg q0]
    have b2 : S2.2 = S.2 := by rw [y2, y1]; rfl
    have n15 : S2.1 15 = (R.1 15 0 : Int) := by rw [a2 15 (by omega) (by omega)]; exact h.nd
    have n30 : S2.1 30 = (R.1 30 0 : Int) := by rw [a2 30 (by omega) (by omega)]; exact h.sc (by omega)
    have lp : ∀ (n k i : Nat), R.1 15 0 + 1 - i < n → k < i → i ≤ R.1 15 0 + 1 → wEnd R k ≤ R.1 30 0 → (∀ d', k < d' → d' < i → R.1 30 0 < wEnd R d') → wp_Mo_mount_52 post n k i S2 := by
      intro n
      induction n with
      | zero => intro k i hm; omega
      | succ n ih =>
        intro k i hm hk hi he hd
        unfold wp_Mo_mount_52
        rw [n15, n30]
        refine ⟨by unfold inR; omega, by unfold inR; omega, fun q => ?_, fun q => ⟨⟨by omega, by omega⟩, ?_⟩⟩
        · have mt : mtD R k := ⟨by omega, he, fun d' q1 q2 => hd d' q1 (by omega)⟩
          obtain ⟨⟨C1, C2, C3⟩, C4, C5⟩ := F.c.2 (by omega) k mt.1
          have stp := mtR_stp mt k3 W.2.2.2.1
          -- the loops over lots and easements
          have fin : ∀ S4 : MS, S4.2 = S.2 → (∀ k, k ≠ 15 → k ≠ 7 → k ≠ 25 → k ≠ 30 → S4.1 k = S2.1 k) → S4.1 15 = (k : Int) → S4.1 7 = (nlt R k : Int) → S4.1 25 = (net R k : Int) → S4.1 30 = (wEnd R k : Int) → ∃ n0 : Nat, wp_Mo_mount_146 post n0 1 S4 := by
            intro S4 q2 q1 q15 q7 q25 q30
            refine ⟨nlt R k + 1, ?_⟩
            have l2 : ∀ (n e : Nat) (S5 : MS), net R k + 1 - e < n → 1 ≤ e → e ≤ net R k + 1 → S5.1 = S4.1 → (∀ f, f ≠ 12 → f ≠ 27 → S5.2 f = S.2 f) → (∀ l, 1 ≤ l → l ≤ nlt R k → S5.2 12 l = ((if k < R.1 12 l then 0 else R.1 12 l : Nat) : Int)) → (∀ x, 1 ≤ x → x ≤ net R k → S5.2 27 x = ((if x < e ∧ k < R.1 27 x then 0 else R.1 27 x : Nat) : Int)) → wp_Mo_mount_191 post n e S5 := by
              intro n
              induction n with
              | zero => intro e S5 hm; omega
              | succ n ih2 =>
                intro e S5 hm he1 he2 g1 g2 g12 g27
                unfold wp_Mo_mount_191
                rw [g1, q25, q15]
                refine ⟨by unfold inR; omega, by unfold inR; omega, fun u => ?_, fun u => ⟨⟨by omega, by omega⟩, ?_⟩⟩
                · intro S6 y6 S7 y7
                  have r15 : S7.1 15 = (k : Int) := by
                    rw [y7, y6]
                    show S5.1 15 = _
                    rw [g1]; exact q15
                  rw [r15]
                  have s7 : ∀ f, f ≠ 31 → f ≠ 2 → S7.1 f = S4.1 f := fun f f1 f2 => by
                    rw [y7, y6]
                    show (if f = 2 then _ else if f = 31 then _ else S5.1 f) = S4.1 f
                    rw [if_neg f2, if_neg f1, g1]
                  have s72 : S7.2 = S5.2 := by rw [y7, y6]; rfl
                  have cA : ∀ f, f ≠ 0 → f ≠ 2 → f ≠ 3 → f ≠ 15 → f ≠ 7 → f ≠ 25 → f ≠ 30 → f ≠ 31 → S7.1 f = S.1 f := fun f f0 f2 f3 f15 f7 f25 f30 f31 => by
                    rw [s7 f f31 f2, q1 f f15 f7 f25 f30, a2 f f0 f3]
                  refine p0 c k3 k S7 mt ?_ ?_ ?_
                  · rw [s7 0 (by omega) (by omega), q1 0 (by omega) (by omega) (by omega) (by omega)]; exact a20
                  · intro f d f1 f2
                    rw [s72, g2 f (by omega) (by omega)]; exact hg f d f1 f2
                  · obtain ⟨m15, m7, m25, m30, m31, m2, m3⟩ := mtR_s R k
                    refine ⟨⟨?_, fun f hf => ?_⟩, ?_, fun l l1 l2 => ?_, fun d d1 d2 f f1 f2 => ?_, fun x x1 x2 f f1 f2 => ?_, fun i hi => ?_⟩
                    · rw [m7, if_neg (by omega), cA 1 (by omega) (by omega) (by omega) (by omega) (by omega) (by omega) (by omega) (by omega), h.1.1, if_neg c]
                    · rcases hf with q | q | q | q | q | q | q <;> subst q
                      · rw [m2, y7, ms_i_same]; rfl
                      · rw [m3, s7 3 (by omega) (by omega), q1 3 (by omega) (by omega) (by omega) (by omega)]; exact a23
                      · rw [m7, s7 7 (by omega) (by omega)]; exact q7
                      · rw [m15]; exact r15
                      · rw [m25, s7 25 (by omega) (by omega)]; exact q25
                      · rw [m30, s7 30 (by omega) (by omega)]; exact q30
                      · rw [m31, y7, y6]; exact q30
                    · have := h.2.1
                      unfold marr at this ⊢
                      rw [cA 4 (by omega) (by omega) (by omega) (by omega) (by omega) (by omega) (by omega) (by omega), s72, g2 5 (by omega) (by omega), g2 6 (by omega) (by omega)]
                      exact this
                    · rw [m7] at l2
                      have := h.2.2.1 l l1 (by omega)
                      rw [s72, g2 10 (by omega) (by omega), g2 8 (by omega) (by omega), g2 9 (by omega) (by omega)]
                      refine ⟨this.1, this.2.1, fun f f1 f2 => ?_⟩
                      by_cases f12 : f = 12
                      · subst f12
                        rw [g12 l l1 l2, mtR_12 R k l1 l2]
                      · rw [g2 f f12 (by omega), mtR_o R k l (by omega)]; exact this.2.2 f f1 f2
                    · rw [m15] at d2
                      rw [s72, g2 f (by omega) (by omega), mtR_o R k d (by omega)]; exact h.deed d1 (by have := mt.1; omega) f1 f2
                    · rw [m25] at x2
                      rw [s72]
                      by_cases f27 : f = 27
                      · subst f27
                        rw [g27 x x1 x2, mtR_27 R k x1 x2]
                        by_cases v : k < R.1 27 x
                        · rw [if_pos v, if_pos ⟨by omega, v⟩]
                        · rw [if_neg v, if_neg (fun v2 => v v2.2)]
                      · rw [g2 f (by omega) f27, mtR_o R k x (by omega)]; exact h.eas x1 (by omega) f1 f2
                    · rw [m30] at hi
                      rw [s72, g2 32 (by omega) (by omega)]
                      exact h.2.2.2.2.2 i (by have := mt.2.1; omega)
                · have e27 := g27 e (by omega) (by omega)
                  rw [if_neg (by omega)] at e27
                  have we := w.2.2.2.2.1 e (by omega) (by omega)
                  have nx : ∀ v : Nat, v = (if k < R.1 27 e then 0 else R.1 27 e) → wp_Mo_mount_227 post (wp_Mo_mount_191 post n) e (v : Int) e S5 := by
                    intro v ev
                    refine ⟨⟨by omega, by omega⟩, fun S6 y6 => ?_⟩
                    rw [show (e : Int) + 1 = ((e + 1 : Nat) : Int) by omega]
                    refine ih2 (e + 1) S6 (by omega) (by omega) (by omega) (by rw [y6]; exact g1) (fun f f1 f2 => by rw [y6, ms_a_o _ _ _ _ f2]; exact g2 f f1 f2) (fun l l1 l2 => by rw [y6, ms_a_o _ _ _ _ (by omega)]; exact g12 l l1 l2) (fun x x1 x2 => ?_)
                    rw [y6, ms_a_at]
                    by_cases u1 : x = e
                    · subst u1
                      rw [if_pos rfl, ev]
                      by_cases u2 : k < R.1 27 x
                      · rw [if_pos u2, if_pos ⟨by omega, u2⟩]
                      · rw [if_neg u2, if_neg (fun u3 => u2 u3.2)]
                    · rw [if_neg u1, g27 x x1 x2]
                      by_cases u2 : x < e ∧ k < R.1 27 x
                      · rw [if_pos u2, if_pos ⟨by omega, u2.2⟩]
                      · rw [if_neg u2, if_neg (fun u3 => u2 ⟨by omega, u3.2⟩)]
                  rw [Int.toNat_natCast, e27]
                  refine ⟨by unfold inR; omega, by unfold inR; omega, fun u1 => ⟨⟨by omega, by omega⟩, nx _ (by rw [if_neg (by omega)])⟩, fun u1 => nx 0 (by rw [if_pos (by omega)])⟩
            have l1 : ∀ (n l : Nat) (S5 : MS), nlt R k + 1 - l < n → 1 ≤ l → l ≤ nlt R k + 1 → S5.1 = S4.1 → (∀ f, f ≠ 12 → S5.2 f = S.2 f) → (∀ x, 1 ≤ x → x ≤ nlt R k → S5.2 12 x = ((if x < l ∧ k < R.1 12 x then 0 else R.1 12 x : Nat) : Int)) → wp_Mo_mount_146 post n l S5 := by
              intro n
              induction n with
              | zero => intro e S5 hm; omega
              | succ n ih2 =>
                intro l S5 hm hl1 hl2 g1 g2 g12
                unfold wp_Mo_mount_146
                rw [g1, q7, q15]
                refine ⟨by unfold inR; omega, by unfold inR; omega, fun u => ⟨net R k + 1, l2 _ 1 S5 (by omega) (by omega) (by omega) g1 (fun f f1 _ => g2 f f1) (fun x x1 x2 => ?_) (fun x x1 x2 => ?_)⟩, fun u => ⟨⟨by omega, by omega⟩, ?_⟩⟩
                · rw [g12 x x1 x2]
                  by_cases v : k < R.1 12 x
                  · rw [if_pos v, if_pos ⟨by omega, v⟩]
                  · rw [if_neg v, if_neg (fun v2 => v v2.2)]
                · rw [if_neg (by omega), g2 27 (by omega)]; exact h.eas x1 (by omega) (by omega) (by omega)
                · have e12 := g12 l (by omega) (by omega)
                  rw [if_neg (by omega)] at e12
                  have we := w.2.2.1 l (by omega) (by omega)
                  have nx : ∀ v : Nat, v = (if k < R.1 12 l then 0 else R.1 12 l) → wp_Mo_mount_182 post (wp_Mo_mount_146 post n) l (v : Int) l S5 := by
                    intro v ev
                    refine ⟨⟨by omega, by omega⟩, fun S6 y6 => ?_⟩
                    rw [show (l : Int) + 1 = ((l + 1 : Nat) : Int) by omega]
                    refine ih2 (l + 1) S6 (by omega) (by omega) (by omega) (by rw [y6]; exact g1) (fun f f1 => by rw [y6, ms_a_o _ _ _ _ f1]; exact g2 f f1) (fun x x1 x2 => ?_)
                    rw [y6, ms_a_at]
                    by_cases u1 : x = l
                    · subst u1
                      rw [if_pos rfl, ev]
                      by_cases u2 : k < R.1 12 x
                      · rw [if_pos u2, if_pos ⟨by omega, u2⟩]
                      · rw [if_neg u2, if_neg (fun u3 => u2 u3.2)]
                    · rw [if_neg u1, g12 x x1 x2]
                      by_cases u2 : x < l ∧ k < R.1 12 x
                      · rw [if_pos u2, if_pos ⟨by omega, u2.2⟩]
                      · rw [if_neg u2, if_neg (fun u3 => u2 ⟨by omega, u3.2⟩)]
                  rw [Int.toNat_natCast, e12]
                  refine ⟨by unfold inR; omega, by unfold inR; omega, fun u1 => ⟨⟨by omega, by omega⟩, nx _ (by rw [if_neg (by omega)])⟩, fun u1 => nx 0 (by rw [if_pos (by omega)])⟩
            refine l1 _ 1 S4 (by omega) (by omega) (by omega) rfl (fun f _ => by rw [q2]) (fun x x1 x2 => ?_)
            rw [if_neg (by omega), q2]; exact h.lot x1 (by omega) (by omega) (by omega)
          intro S3 y3
          have go : ∀ (L E P : Int), L = (nlt R k : Int) → E = (net R k : Int) → P = (wEnd R k : Int) → ∀ S4 S5 S6 : MS, S4 = ms_i S3 7 L → S5 = ms_i S4 25 E → S6 = ms_i S5 30 P → ∃ n0 : Nat, wp_Mo_mount_146 post n0 1 S6 := by
            intro L E P eL eE eP S4 S5 S6 y4 y5 y6
            refine fin S6 (by rw [y6, y5, y4, y3]; exact b2) (fun f f15 f7 f25 f30 => ?_) ?_ ?_ ?_ ?_
            · rw [y6, y5, y4, y3]
              show (if f = 30 then _ else if f = 25 then _ else if f = 7 then _ else if f = 15 then _ else S2.1 f) = S2.1 f
              rw [if_neg f30, if_neg f25, if_neg f7, if_neg f15]
            · rw [y6, y5, y4, y3]; rfl
            · rw [y6, y5, y4]; exact eL
            · rw [y6, y5]; exact eE
            · rw [y6]; exact eP
          refine ⟨by unfold inR; omega, fun u => ⟨⟨by omega, by omega⟩, ?_⟩, fun u => ?_⟩
          · have k1 : 1 ≤ k := by omega
            have v3 : S3.2 = S.2 := by rw [y3]; exact b2
            have w22 : S3.2 22 ((k : Int)).toNat = (nlt R k : Int) := by
              rw [v3, Int.toNat_natCast, h.deed k1 mt.1 (by omega) (by omega)]
              unfold nlt; rw [if_neg (by omega)]
            have w23 : S3.2 23 ((k : Int)).toNat = (net R k : Int) := by
              rw [v3, Int.toNat_natCast, h.deed k1 mt.1 (by omega) (by omega)]
              unfold net; rw [if_neg (by omega)]
            have w24 : S3.2 24 ((k : Int)).toNat = (wEnd R k : Int) := by
              rw [v3, Int.toNat_natCast, h.deed k1 mt.1 (by omega) (by omega)]
              unfold wEnd; rw [if_neg (by omega)]
            intro S4 y4
            refine ⟨by unfold inR; omega, fun _ => ⟨⟨by omega, by omega⟩, fun S5 y5 => ⟨by unfold inR; omega, fun _ => ⟨⟨by omega, by omega⟩, fun S6 y6 => go _ _ _ w22 ?_ ?_ S4 S5 S6 y4 y5 y6⟩, fun f => absurd f u⟩⟩, fun f => absurd f u⟩
            · rw [y4]; exact w23
            · rw [y5, y4]; exact w24
          · have k0 : k = 0 := by omega
            intro S4 y4
            refine ⟨by unfold inR; omega, fun f => absurd u f, fun _ S5 y5 => ⟨by unfold inR; omega, fun f => absurd u f, fun _ S6 y6 => go _ _ _ ?_ ?_ ?_ S4 S5 S6 y4 y5 y6⟩⟩
            · rw [k0]; rfl
            · rw [k0]; rfl
            · rw [k0]; rfl
        · have i1 : 1 ≤ i := by omega
          have ei : S2.2 24 ((i : Int)).toNat = (wEnd R i : Int) := by
            rw [b2, Int.toNat_natCast, h.deed i1 (by omega) (by omega) (by omega)]
            unfold wEnd; rw [if_neg (by omega)]
          have wl := wEnd_le F i (by omega)
          rw [ei]
          unfold wp_Mo_mount_78
          rw [show (i : Int) + 1 = ((i + 1 : Nat) : Int) by omega]
          refine ⟨by unfold inR; omega, by unfold inR; omega, fun u => ih k (i + 1) (by omega) (by omega) (by omega) he (fun d' q1 q2 => ?_), fun u => ih i (i + 1) (by omega) (by omega) (by omega) (by omega) (fun d' q1 q2 => by omega)⟩
          by_cases v : d' = i
          · rw [v]; omega
          · exact hd d' q1 (by omega)
    exact lp _ 0 1 (by omega) (by omega) (by omega) (Nat.zero_le _) (fun d' q1 q2 => by omega)
  · intro S1 y1
    rw [y1, ms_i0]
    exact ⟨inR_lit2, fun f => absurd f (by decide), fun _ => p2 c (by omega)⟩
theorem sp_B_recLen {T : CS} {post : Int → CS → Prop} {lg wa k : Nat} {b : List Int} (h : lgAt T lg wa (R.1 30 0) (aLg R)) (hw : R.1 30 0 ≤ 12000) (hb : bdOK R (k + 1) b) (hlt : wEnd R k < R.1 30 0) (p1 : wEnd R (k + 1) ≤ R.1 30 0 → wEnd R (k + 1) = wEnd R k + (b.length + 2) → post ((b.length + 2 : Nat) : Int) T) (p0 : R.1 30 0 < wEnd R (k + 1) → post 0 T) : wp_BLg_recordLength post lg (wEnd R k : Int) T := by
  have h0 := h
  obtain ⟨a1, a2, a3, a4, a5, a6, a7⟩ := h
  obtain ⟨⟨b1, b2⟩, b3, b4, b5, b6⟩ := hb
  rw [show k + 1 - 1 = k by omega] at b5 b6
  have e1 : wEnd R (k + 1) = wEnd R k + b.length + 2 := by
    rw [← b5]; unfold wEnd; rw [if_neg (by omega)]
  have w0 : fi T wa (wEnd R k) = b.getD 0 0 := by
    have := b6 0 (by omega)
    rw [Nat.add_zero, wrec_in (by omega)] at this
    rw [a7 _ hlt, this]
  have n0 : 0 ≤ b.getD 0 0 ∧ b.getD 0 0 ≤ 700000000 := by
    have : b.getD 0 0 = b[0]'(by omega) := by simp [show 0 < b.length by omega]
    rw [this]; exact b3 _ (List.getElem_mem _)
  unfold wp_BLg_recordLength
  refine ⟨a1, wa, a3, a4, ⟨by omega, by omega⟩, ?_⟩
  rw [Int.toNat_natCast, w0]
  refine ⟨⟨⟨by omega, by omega⟩, by omega, by omega⟩, fun v ev => ?_⟩
  rw [b4] at ev
  subst ev
  rw [a2]
  refine ⟨by unfold inR; omega, fun q => by omega, fun _ => ⟨a1, by unfold inR; omega, by unfold inR; omega, fun q => ⟨a1, wa, a3, a4, ?_⟩, fun q => p0 (by omega)⟩⟩
  have le : wEnd R k + b.length + 2 ≤ R.1 30 0 := by omega
  have w1 : fi T wa (wEnd R k + b.length) = (b.length : Int) - 2147483648 := by
    rw [a7 _ (by omega), b6 b.length (by omega), wrec_0]
  have w2 : fi T wa (wEnd R k + b.length + 1) = wsum b % 2147483648 - 2147483648 := by
    rw [a7 _ (by omega), Nat.add_assoc, b6 (b.length + 1) (by omega), wrec_1]
  rw [show ((wEnd R k : Int) + (b.length : Int)).toNat = wEnd R k + b.length by omega, show ((wEnd R k : Int) + (b.length : Int) + 1).toNat = wEnd R k + b.length + 1 by omega, w1]
  refine ⟨⟨by omega, by omega⟩, by unfold inR; omega, by unfold inR; omega, fun f => absurd (by omega) f, fun _ => ⟨a1, wa, a3, a4, ⟨by omega, by omega⟩, a1, ?_⟩⟩
  refine sp_B_sumOf h0 (body := b) (fun i hi => ?_) (by omega) b3 b2 ?_
  · rw [b6 i (by omega), wrec_in hi]
  · show inR (fi T wa (wEnd R k + b.length + 1)) ∧ _
    rw [w2]
    refine ⟨by unfold inR; omega, by unfold inR; omega, fun f => absurd (by omega) f, fun _ => ⟨inR_lit1, fun f => absurd f (by decide), fun _ => ?_⟩⟩
    rw [show (b.length : Int) + 2 = ((b.length + 2 : Nat) : Int) by omega]
    exact p1 (by omega) (by omega)
end OPN
