/-! calls: parent, child, sync, crash, point -/
section OPB
variable {qs : List Nat}
theorem cntN_0 {f : Nat → Bool} {n : Nat} (h : ∀ k, k < n → f k = false) : cntN f n = 0 := by
  induction n with
  | zero => rfl
  | succ n ih =>
    show cntN f n + (if f n then 1 else 0) = 0
    rw [ih (fun k hk => h k (by omega)), h n (by omega)]; rfl
theorem cntN_s {f : Nat → Bool} {l : Nat} (h : 1 ≤ l) : cntN (fun k => f (k + 1)) l = cntN (fun k => f (k + 1)) (l - 1) + if f l then 1 else 0 := by
  obtain ⟨m, e⟩ : ∃ m, l = m + 1 := ⟨l - 1, by omega⟩
  subst e; rfl
theorem cntN_1 {f : Nat → Bool} {n k0 : Nat} (hk : k0 < n) (h : ∀ k, k < n → (f k = true ↔ k = k0)) : cntN f n = 1 := by
  induction n with
  | zero => omega
  | succ n ih =>
    show cntN f n + (if f n then 1 else 0) = 1
    by_cases c : k0 = n
    · rw [cntN_0 (fun k hk => by
        cases e : f k
        · rfl
        · have := (h k (by omega)).mp e; omega), if_pos ((h n (by omega)).mpr c.symm)]
    · rw [ih (by omega) (fun k hk => h k (by omega)), if_neg (fun q => c ((h n (by omega)).mp q).symm)]
theorem par_nth {R : AR} (F : WF R) {l : Nat} (l1 : 1 ≤ l) (l2 : l ≤ R.1 7 0) : nthOK (fun l' => decide (R.1 11 l ≠ 0 ∧ R.1 12 l' = R.1 11 l)) (R.1 7 0) 0 (R.1 13 l) ∧ nthOK (fun l' => decide (R.1 11 l ≠ 0 ∧ R.1 12 l' = R.1 11 l)) (R.1 7 0) 1 (R.1 14 l) := by
  have P := F.p.1 l l1 l2
  have dl := F.dl l1 l2
  by_cases c : R.1 11 l = 0
  · have e13 := dl.2.2.2.2.mp c
    have e14 := P.1 c
    rw [e13, e14]
    exact ⟨Or.inr ⟨rfl, fun r' _ _ f => absurd c (decide_eq_true_iff.mp f).1⟩, Or.inr ⟨rfl, fun r' _ _ f => absurd c (decide_eq_true_iff.mp f).1⟩⟩
  · obtain ⟨P1, P2, P3, P4⟩ := P.2 c
    have fe : ∀ l', 1 ≤ l' → l' ≤ R.1 7 0 → (decide (R.1 11 l ≠ 0 ∧ R.1 12 l' = R.1 11 l) = true ↔ l' = R.1 13 l ∨ (R.1 14 l ≠ 0 ∧ l' = R.1 14 l)) := by
      intro l' a b
      rw [decide_eq_true_iff, P4 l' a b]
      exact ⟨fun q => q.2, fun q => ⟨c, q⟩⟩
    have z : cntN (fun k => decide (R.1 11 l ≠ 0 ∧ R.1 12 (k + 1) = R.1 11 l)) (R.1 13 l - 1) = 0 := cntN_0 (fun k hk => by
      cases e : decide (R.1 11 l ≠ 0 ∧ R.1 12 (k + 1) = R.1 11 l)
      · rfl
      · rcases (fe (k + 1) (by omega) (by omega)).mp e with q | q
        · omega
        · have := P2 q.1; omega)
    refine ⟨Or.inl ⟨P1, by omega, (fe _ P1 (by omega)).mpr (Or.inl rfl), by rw [z]; rfl⟩, ?_⟩
    by_cases d : R.1 14 l = 0
    · rw [d]
      refine Or.inr ⟨rfl, fun r' a b f => ?_⟩
      rcases (fe r' a b).mp f with q | q
      · rw [q, z]; decide
      · exact absurd d q.1
    · have lt := P2 d
      refine Or.inl ⟨by omega, by omega, (fe _ (by omega) (by omega)).mpr (Or.inr ⟨d, rfl⟩), ?_⟩
      rw [cntN_1 (k0 := R.1 13 l - 1) (by omega) (fun k hk => ?_)]
      · rfl
      · rw [fe (k + 1) (by omega) (by omega)]
        constructor
        · rintro (q | q) <;> omega
        · intro q; exact Or.inl (by omega)
theorem sp_Mo_parent {S : MS} {R : AR} (h : MD S R) (w : WR R) {post : Int → MS → Prop} {a k : Int} (ha : inR a) (hk : inR k) (p1 : ¬ (1 ≤ R.1 7 0 ∧ R.1 2 0 = 0) → post 0 (ms_i S 0 1)) (p2 : 1 ≤ R.1 7 0 → R.1 2 0 = 0 → ¬ ((1 ≤ a ∧ a ≤ (R.1 7 0 : Int)) ∧ (k = 0 ∨ k = 1)) → post 0 (ms_i S 0 2)) (p0 : 1 ≤ R.1 7 0 → R.1 2 0 = 0 → ∀ l : Nat, a = l → 1 ≤ l → l ≤ R.1 7 0 → (k = 0 → post (R.1 13 l : Int) (ms_i S 0 0)) ∧ (k = 1 → post (R.1 14 l : Int) (ms_i S 0 0))) : wp_Mo_parent post a k S := by
  have W := w.1
  have e2 : 1 ≤ R.1 7 0 → R.1 2 0 = 0 → ¬ ((1 ≤ a ∧ a ≤ (R.1 7 0 : Int)) ∧ (k = 0 ∨ k = 1)) → wp_Mo_parent_34 post a k 2 S := by
    intro u1 u2 q S1 y1
    rw [y1, ms_i0]
    exact ⟨inR_lit2, fun f => absurd f (by decide), fun _ => p2 u1 u2 q⟩
  unfold wp_Mo_parent
  refine sp_Mo_isUp h w (fun u1 u2 => ⟨inR_lit1, fun _ => sp_Mo_isLot h w ha (fun l e l1 l2 => ⟨inR_lit1, fun f => absurd f (by decide), fun _ => ⟨hk, fun c => e2 u1 u2 (by omega), fun c => ⟨hk, fun d => ?_, fun d => e2 u1 u2 (by omega)⟩⟩⟩) (fun q => ⟨inR_lit0, fun _ => e2 u1 u2 (fun f => q f.1), fun f => absurd rfl f⟩), fun f => absurd f (by decide)⟩) (fun q => ⟨inR_lit0, fun f => absurd rfl f, fun _ => ?_⟩)
  · intro S1 y1
    rw [y1, ms_i0]
    refine ⟨inR_lit0, fun _ => ⟨hk, fun c2 => ⟨⟨by omega, by omega⟩, ?_⟩, fun c2 => ⟨⟨by omega, by omega⟩, ?_⟩⟩, fun f => absurd (Int.le_refl 0) f⟩
    · show post (S.2 14 a.toNat) _
      rw [e, Int.toNat_natCast, h.lot l1 l2 (by omega) (by omega)]
      exact (p0 u1 u2 l e l1 l2).2 (by omega)
    · show post (S.2 13 a.toNat) _
      rw [e, Int.toNat_natCast, h.lot l1 l2 (by omega) (by omega)]
      exact (p0 u1 u2 l e l1 l2).1 c2
  · intro S1 y1; rw [y1, ms_i0]
    exact ⟨inR_lit1, fun f => absurd f (by decide), fun _ => p1 q⟩
theorem op_parent (hq : qs.Nodup) (hl : qs.length = 30) {j c n : Nat} {T : CS} {S : MS} {f : Nat → Int64} {a1 a2 a3 a4 a5 a6 : Int} (hj : j < 512) (h : LInv qs j c n T S) (h1 : inR a1) (h2 : inR a2) (h3 : inR a3) (h4 : inR a4) (h5 : inR a5) (h6 : inR a6) : st_parent (LInv qs (j + 1)) (qa qs 0) f c n a1 a2 a3 a4 a5 a6 T S := by
  obtain ⟨hc, ad, R, hS, hw, hz⟩ := h
  have B := hS.1
  have M := hS.2.1
  have F := hS.2.2.2.1
  have w := F.r
  have W := w.1
  have t0 : tg T (qa qs 0) = 1 := B.1.tag (by omega) rfl
  have r4 : fo T (qa qs 0) 4 = some (qa qs 22) := B.1.ref (i := 0) (j := 4) (z := 22) (by omega) rfl (by omega)
  have r5 : fo T (qa qs 0) 5 = some (qa qs 28) := B.1.ref (i := 0) (j := 5) (z := 28) (by omega) rfl (by omega)
  have t22 : tg T (qa qs 22) = 5 := B.1.tag (by omega) rfl
  have t28 : tg T (qa qs 28) = 6 := B.1.tag (by omega) rfl
  have inv : ∀ {T1 : CS} {S1 : MS}, Tx (scr qs) T T1 → n20 T T1 → mfr S S1 → LInv qs (j + 1) (c + 1000) (n + 14000) T1 S1 := fun g g2 m => inv_q hq hl hS hc hw hz g g2 m
  have er : ∀ v : Int, LInv qs (j + 1) (c + 1000) (n + 14000) T (ms_i S 0 v) := fun v => inv (Tx_refl _ _) (n20_refl _) (mfr_i0 S v)
  unfold st_parent hx_parent
  refine ⟨1000, 14000, ⟨by omega, by omega⟩, t0, ?_⟩
  unfold wp_BLB_parent
  refine ⟨1, 6, 999, 13994, ⟨by omega, by omega⟩, t0, sp_B_up B w ⟨by omega, by omega⟩ (fun u1 u2 => ⟨1, 6, 998, 13988, ⟨by omega, by omega⟩, t0, sp_B_ckLot B w h1 ⟨by omega, by omega⟩ (fun l e l1 l2 => ⟨1, 6, 997, 13982, ⟨by omega, by omega⟩, sp_B_ckRel h2 ⟨by omega, by omega⟩ (fun k => ⟨t0, qa qs 22, r4, t0, qa qs 22, r4, t22, ?_⟩) (fun k => Or.inr ⟨rfl, inR_lit2, sp_Mo_parent M w h1 h2 (fun q => absurd ⟨u1, u2⟩ q) (fun _ _ _ => fin_e (by decide) (ms_i0 S 2) (er 2)) (fun _ _ l e l1 l2 => ⟨fun q => absurd (Or.inl q) k, fun q => absurd (Or.inr q) k⟩)⟩)⟩) (fun k => Or.inr ⟨rfl, inR_lit2, sp_Mo_parent M w h1 h2 (fun q => absurd ⟨u1, u2⟩ q) (fun _ _ _ => fin_e (by decide) (ms_i0 S 2) (er 2)) (fun _ _ l e l1 l2 => absurd ⟨by omega, by omega⟩ k)⟩)⟩) (fun k => Or.inl ⟨rfl, inR_lit1, sp_Mo_parent M w h1 h2 (fun _ => fin_e (by decide) (ms_i0 S 1) (er 1)) (fun q1 q2 => absurd ⟨q1, q2⟩ k) (fun q1 q2 => absurd ⟨q1, q2⟩ k)⟩)⟩
  subst e
  have la := B.lta l1 l2
  have dl := F.dl l1 l2
  refine sp_B_lot B l1 l2 ⟨B.lt9 l1 l2, t22, ?_⟩
  rw [la.2.2.1]
  refine sp_B_changedBy (en := R.1 11 l) B w (by omega) true h2 (fun r hr => ?_)
  have pn := par_nth F l1 l2
  have rb : r ≤ 300 := by rcases hr with q | q <;> omega
  refine ⟨by unfold inR; omega, inR_lit0, sp_Mo_parent M w h1 h2 (fun q => absurd ⟨u1, u2⟩ q) (fun _ _ q => absurd ⟨⟨by omega, by omega⟩, k⟩ q) (fun _ _ l' e' _ _ => ?_)⟩
  have q : l' = l := by omega
  subst q
  refine ⟨fun k0 => ?_, fun k0 => ?_⟩
  · rw [k0] at hr
    exact fin_r (by unfold inR; omega) (by rw [nthOK_uniq hr pn.1]) (ms_i0 S 0) (er 0)
  · rw [k0] at hr
    exact fin_r (by unfold inR; omega) (by rw [nthOK_uniq hr pn.2]) (ms_i0 S 0) (er 0)
theorem sp_Mo_child {S : MS} {R : AR} (h : MD S R) (w : WR R) {post : Int → MS → Prop} {a k : Int} (ha : inR a) (hk : inR k) (p1 : ¬ (1 ≤ R.1 7 0 ∧ R.1 2 0 = 0) → post 0 (ms_i S 0 1)) (p2 : 1 ≤ R.1 7 0 → R.1 2 0 = 0 → ¬ ((1 ≤ a ∧ a ≤ (R.1 7 0 : Int)) ∧ (k = 0 ∨ k = 1)) → post 0 (ms_i S 0 2)) (p0 : 1 ≤ R.1 7 0 → R.1 2 0 = 0 → ∀ l : Nat, a = l → 1 ≤ l → l ≤ R.1 7 0 → (k = 0 ∨ k = 1) → ∀ r, nthOK (fun l' => decide (R.1 12 l ≠ 0 ∧ R.1 11 l' = R.1 12 l)) (R.1 7 0) k r → post (r : Int) (ms_i S 0 0)) : wp_Mo_child post a k S := by
  have W := w.1
  have ex : ∀ v : Int, v = 1 ∨ v = 2 → post 0 (ms_i S 0 v) → wp_Mo_child_34 post a k v S := by
    intro v hv hp S1 y1
    refine ⟨1, ?_⟩
    have M1 : MD S1 R := by rw [y1]; exact h.fr (mfr_i0 S v)
    have e0 : S1.1 0 = v := by rw [y1]; exact ms_i0 S v
    unfold wp_Mo_child_42
    rw [M1.nl, e0]
    refine ⟨inR_lit1, by unfold inR; omega, fun _ => by rw [y1]; exact hp, fun _ => ⟨by unfold inR; omega, fun _ => by rw [y1]; exact hp, fun f => by omega⟩⟩
  have e2 : 1 ≤ R.1 7 0 → R.1 2 0 = 0 → ¬ ((1 ≤ a ∧ a ≤ (R.1 7 0 : Int)) ∧ (k = 0 ∨ k = 1)) → wp_Mo_child_34 post a k 2 S := fun u1 u2 q => ex 2 (Or.inr rfl) (p2 u1 u2 q)
  unfold wp_Mo_child
  refine sp_Mo_isUp h w (fun u1 u2 => ⟨inR_lit1, fun _ => sp_Mo_isLot h w ha (fun l e l1 l2 => ⟨inR_lit1, fun f => absurd f (by decide), fun _ => ⟨hk, fun c => e2 u1 u2 (by omega), fun c => ⟨hk, fun d => ?_, fun d => e2 u1 u2 (by omega)⟩⟩⟩) (fun q => ⟨inR_lit0, fun _ => e2 u1 u2 (fun f => q f.1), fun f => absurd rfl f⟩), fun f => absurd f (by decide)⟩) (fun q => ⟨inR_lit0, fun f => absurd rfl f, fun _ => ex 1 (Or.inl rfl) (p1 q)⟩)
  intro S1 y1
  have M1 : MD S1 R := by rw [y1]; exact h.fr (mfr_i0 S 0)
  have e0 : S1.1 0 = 0 := by rw [y1]; exact ms_i0 S 0
  have kk : k = 0 ∨ k = 1 := by omega
  have pp := p0 u1 u2 l e l1 l2 kk
  rw [← y1] at pp
  have wl := (w.2.2.1 l l1 l2).2
  have lp : ∀ (n x : Nat), R.1 7 0 + 1 - x < n → 1 ≤ x → x ≤ R.1 7 0 + 1 → (∀ r', 1 ≤ r' → r' < x → decide (R.1 12 l ≠ 0 ∧ R.1 11 r' = R.1 12 l) = true → ((cntN (fun i => decide (R.1 12 l ≠ 0 ∧ R.1 11 (i + 1) = R.1 12 l)) (r' - 1) : Nat) : Int) ≠ k) → wp_Mo_child_42 post n a k ((cntN (fun i => decide (R.1 12 l ≠ 0 ∧ R.1 11 (i + 1) = R.1 12 l)) (x - 1) : Nat) : Int) (x : Int) S1 := by
    intro n
    induction n with
    | zero => intro x hm; omega
    | succ n ih =>
      intro x hm x1 x2 I
      have cb := cntN_le (fun i => decide (R.1 12 l ≠ 0 ∧ R.1 11 (i + 1) = R.1 12 l)) (x - 1)
      unfold wp_Mo_child_42
      rw [M1.nl, e0]
      refine ⟨by unfold inR; omega, by unfold inR; omega, fun c2 => ?_, fun c2 => ⟨inR_lit0, fun f => absurd rfl f, fun _ => ⟨⟨by omega, by omega⟩, ?_⟩⟩⟩
      · exact pp 0 (nthOK_none (k := x) (by omega) I)
      · have xl : x ≤ R.1 7 0 := by omega
        have wx := (w.2.2.1 x x1 xl).2
        rw [e, Int.toNat_natCast, Int.toNat_natCast, M1.lot l1 l2 (by omega) (by omega), M1.lot x1 xl (by omega) (by omega)]
        have step := cntN_s (f := fun l' => decide (R.1 12 l ≠ 0 ∧ R.1 11 l' = R.1 12 l)) x1
        refine ⟨by unfold inR; omega, fun c3 => pp 0 (Or.inr ⟨rfl, fun r' _ _ f => absurd (decide_eq_true_iff.mp f).1 (by omega)⟩), fun c3 => ⟨⟨by omega, by omega⟩, ⟨by omega, by omega⟩, by unfold inR; omega, by unfold inR; omega, fun c4 => ?_, fun c4 => ⟨by unfold inR; omega, hk, fun c5 => ?_, fun c5 => ?_⟩⟩⟩
        · have fx : decide (R.1 12 l ≠ 0 ∧ R.1 11 x = R.1 12 l) = false := decide_eq_false (by omega)
          rw [fx] at step
          have := ih (x + 1) (by omega) (by omega) (by omega) (fun r' a b f => by
            by_cases q : r' = x
            · rw [q, fx] at f; exact absurd f (by decide)
            · exact I r' a (by omega) f)
          rw [show x + 1 - 1 = x by omega, step, e] at this
          unfold wp_Mo_child_94
          rw [show (x : Int) + 1 = ((x + 1 : Nat) : Int) by omega]
          exact this
        · have fx : decide (R.1 12 l ≠ 0 ∧ R.1 11 x = R.1 12 l) = true := decide_eq_true ⟨by omega, by omega⟩
          rw [fx] at step
          have := ih (x + 1) (by omega) (by omega) (by omega) (fun r' a b f => by
            by_cases q : r' = x
            · rw [q]; exact c5
            · exact I r' a (by omega) f)
          rw [show x + 1 - 1 = x by omega, step, e] at this
          unfold wp_Mo_child_94
          rw [show (x : Int) + 1 = ((x + 1 : Nat) : Int) by omega]
          exact this
        · exact pp x (Or.inl ⟨x1, xl, decide_eq_true ⟨by omega, by omega⟩, c5⟩)
  exact ⟨R.1 7 0 + 2, lp _ 1 (by omega) (by omega) (by omega) (fun r' a b => by omega)⟩
theorem op_child (hq : qs.Nodup) (hl : qs.length = 30) {j c n : Nat} {T : CS} {S : MS} {f : Nat → Int64} {a1 a2 a3 a4 a5 a6 : Int} (hj : j < 512) (h : LInv qs j c n T S) (h1 : inR a1) (h2 : inR a2) (h3 : inR a3) (h4 : inR a4) (h5 : inR a5) (h6 : inR a6) : st_child (LInv qs (j + 1)) (qa qs 0) f c n a1 a2 a3 a4 a5 a6 T S := by
  obtain ⟨hc, ad, R, hS, hw, hz⟩ := h
  have B := hS.1
  have M := hS.2.1
  have F := hS.2.2.2.1
  have w := F.r
  have W := w.1
  have t0 : tg T (qa qs 0) = 1 := B.1.tag (by omega) rfl
  have r4 : fo T (qa qs 0) 4 = some (qa qs 22) := B.1.ref (i := 0) (j := 4) (z := 22) (by omega) rfl (by omega)
  have r5 : fo T (qa qs 0) 5 = some (qa qs 28) := B.1.ref (i := 0) (j := 5) (z := 28) (by omega) rfl (by omega)
  have t22 : tg T (qa qs 22) = 5 := B.1.tag (by omega) rfl
  have t28 : tg T (qa qs 28) = 6 := B.1.tag (by omega) rfl
  have inv : ∀ {T1 : CS} {S1 : MS}, Tx (scr qs) T T1 → n20 T T1 → mfr S S1 → LInv qs (j + 1) (c + 1000) (n + 14000) T1 S1 := fun g g2 m => inv_q hq hl hS hc hw hz g g2 m
  have er : ∀ v : Int, LInv qs (j + 1) (c + 1000) (n + 14000) T (ms_i S 0 v) := fun v => inv (Tx_refl _ _) (n20_refl _) (mfr_i0 S v)
  unfold st_child hx_child
  refine ⟨1000, 14000, ⟨by omega, by omega⟩, t0, ?_⟩
  unfold wp_BLB_child
  refine ⟨1, 6, 999, 13994, ⟨by omega, by omega⟩, t0, sp_B_up B w ⟨by omega, by omega⟩ (fun u1 u2 => ⟨1, 6, 998, 13988, ⟨by omega, by omega⟩, t0, sp_B_ckLot B w h1 ⟨by omega, by omega⟩ (fun l e l1 l2 => ⟨1, 6, 997, 13982, ⟨by omega, by omega⟩, sp_B_ckRel h2 ⟨by omega, by omega⟩ (fun k => ⟨t0, qa qs 22, r4, t0, qa qs 22, r4, t22, ?_⟩) (fun k => Or.inr ⟨rfl, inR_lit2, sp_Mo_child M w h1 h2 (fun q => absurd ⟨u1, u2⟩ q) (fun _ _ _ => fin_e (by decide) (ms_i0 S 2) (er 2)) (fun _ _ l e l1 l2 q => absurd q k)⟩)⟩) (fun k => Or.inr ⟨rfl, inR_lit2, sp_Mo_child M w h1 h2 (fun q => absurd ⟨u1, u2⟩ q) (fun _ _ _ => fin_e (by decide) (ms_i0 S 2) (er 2)) (fun _ _ l e l1 l2 => absurd ⟨by omega, by omega⟩ k)⟩)⟩) (fun k => Or.inl ⟨rfl, inR_lit1, sp_Mo_child M w h1 h2 (fun _ => fin_e (by decide) (ms_i0 S 1) (er 1)) (fun q1 q2 => absurd ⟨q1, q2⟩ k) (fun q1 q2 => absurd ⟨q1, q2⟩ k)⟩)⟩
  subst e
  have la := B.lta l1 l2
  have dl := F.dl l1 l2
  refine sp_B_lot B l1 l2 ⟨B.lt9 l1 l2, t22, ?_⟩
  rw [la.2.2.2.1]
  refine sp_B_changedBy (en := R.1 12 l) B w (by omega) false h2 (fun r hr => ?_)
  have rb : r ≤ 300 := by rcases hr with q | q <;> omega
  refine ⟨by unfold inR; omega, inR_lit0, sp_Mo_child M w h1 h2 (fun q => absurd ⟨u1, u2⟩ q) (fun _ _ q => absurd ⟨⟨by omega, by omega⟩, k⟩ q) (fun _ _ l' e' _ _ _ r' hr' => ?_)⟩
  have q : l' = l := by omega
  subst q
  have er' : r' = r := nthOK_uniq hr' hr
  exact fin_r (by unfold inR; omega) (by rw [er']) (ms_i0 S 0) (er 0)
end OPB
