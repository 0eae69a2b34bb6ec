/-! calls: sync, crash, point -/
section OPC
variable {qs : List Nat}
theorem rScal_id (R : AR) : rScal R (R.1 2 0) (R.1 3 0) (R.1 30 0) (R.1 31 0) = R := by
  refine Prod.ext (funext fun f => funext fun i => ?_) rfl
  show (if f = 2 ∧ i = 0 then _ else if f = 3 ∧ i = 0 then _ else if f = 30 ∧ i = 0 then _ else if f = 31 ∧ i = 0 then _ else R.1 f i) = R.1 f i
  by_cases c1 : f = 2 ∧ i = 0
  · rw [if_pos c1, c1.1, c1.2]
  · rw [if_neg c1]
    by_cases c2 : f = 3 ∧ i = 0
    · rw [if_pos c2, c2.1, c2.2]
    · rw [if_neg c2]
      by_cases c3 : f = 30 ∧ i = 0
      · rw [if_pos c3, c3.1, c3.2]
      · rw [if_neg c3]
        by_cases c4 : f = 31 ∧ i = 0
        · rw [if_pos c4, c4.1, c4.2]
        · rw [if_neg c4]
section
variable {R : AR} {dn mo wd sy : Nat}
theorem rScal_2 (v : Nat) : rN (rScal R dn mo wd sy) [(2, 0, v)] = rScal R v mo wd sy := by
  refine Prod.ext (funext fun f => funext fun i => ?_) rfl
  rw [rN1]
  show (if _ then _ else if f = 2 ∧ i = 0 then _ else _) = if f = 2 ∧ i = 0 then _ else _
  by_cases c : f = 2 ∧ i = 0
  · rw [if_pos c, if_pos c]
  · rw [if_neg c, if_neg c, if_neg c]
theorem rScal_3 (v : Nat) : rN (rScal R dn mo wd sy) [(3, 0, v)] = rScal R dn v wd sy := by
  refine Prod.ext (funext fun f => funext fun i => ?_) rfl
  rw [rN1]
  show (if _ then _ else if f = 2 ∧ i = 0 then _ else if f = 3 ∧ i = 0 then _ else _) = if f = 2 ∧ i = 0 then _ else if f = 3 ∧ i = 0 then _ else _
  by_cases c : f = 3 ∧ i = 0
  · rw [if_pos c, if_neg (by omega), if_pos c]
  · rw [if_neg c, if_neg c, if_neg c]
theorem rScal_30 (v : Nat) : rN (rScal R dn mo wd sy) [(30, 0, v)] = rScal R dn mo v sy := by
  refine Prod.ext (funext fun f => funext fun i => ?_) rfl
  rw [rN1]
  show (if _ then _ else if f = 2 ∧ i = 0 then _ else if f = 3 ∧ i = 0 then _ else if f = 30 ∧ i = 0 then _ else _) = if f = 2 ∧ i = 0 then _ else if f = 3 ∧ i = 0 then _ else if f = 30 ∧ i = 0 then _ else _
  by_cases c : f = 30 ∧ i = 0
  · rw [if_pos c, if_neg (by omega), if_neg (by omega), if_pos c]
  · rw [if_neg c, if_neg c, if_neg c]
theorem rScal_31 (v : Nat) : rN (rScal R dn mo wd sy) [(31, 0, v)] = rScal R dn mo wd v := by
  refine Prod.ext (funext fun f => funext fun i => ?_) rfl
  rw [rN1]
  show (if _ then _ else if f = 2 ∧ i = 0 then _ else if f = 3 ∧ i = 0 then _ else if f = 30 ∧ i = 0 then _ else if f = 31 ∧ i = 0 then _ else _) = if f = 2 ∧ i = 0 then _ else if f = 3 ∧ i = 0 then _ else if f = 30 ∧ i = 0 then _ else if f = 31 ∧ i = 0 then _ else _
  by_cases c : f = 31 ∧ i = 0
  · rw [if_pos c, if_neg (by omega), if_neg (by omega), if_neg (by omega), if_pos c]
  · rw [if_neg c, if_neg c, if_neg c]
theorem MD.scal {S S' : MS} (h : MD S R) (h2 : S'.2 = S.2) (h1 : ∀ k, k ≠ 0 → k ≠ 2 → k ≠ 3 → k ≠ 30 → k ≠ 31 → S'.1 k = S.1 k) (e2 : S'.1 2 = (dn : Int)) (e3 : S'.1 3 = (mo : Int)) (e30 : S'.1 30 = (wd : Int)) (e31 : S'.1 31 = (sy : Int)) (hw : wd ≤ R.1 30 0) : MD S' (rScal R dn mo wd sy) := by
  obtain ⟨⟨k1, k2⟩, k3, k4, k5, k6, k7⟩ := h
  refine ⟨⟨?_, fun f hf => ?_⟩, ?_, ?_, ?_, ?_, fun i hi => ?_⟩
  · rw [h1 1 (by omega) (by omega) (by omega) (by omega) (by omega)]; exact k1
  · rcases hf with q | q | q | q | q | q | q <;> subst q
    · exact e2
    · exact e3
    · rw [h1 7 (by omega) (by omega) (by omega) (by omega) (by omega)]; exact k2 7 (by omega)
    · rw [h1 15 (by omega) (by omega) (by omega) (by omega) (by omega)]; exact k2 15 (by omega)
    · rw [h1 25 (by omega) (by omega) (by omega) (by omega) (by omega)]; exact k2 25 (by omega)
    · exact e30
    · exact e31
  · unfold marr at k3 ⊢
    rw [h1 4 (by omega) (by omega) (by omega) (by omega) (by omega), h2]; exact k3
  · intro l l1 l2
    rw [h2]
    have := k4 l l1 l2
    refine ⟨this.1, this.2.1, fun f f1 f2 => ?_⟩
    rw [rScal_o _ _ _ _ _ (by omega)]; exact this.2.2 f f1 f2
  · intro d d1 d2 f f1 f2
    rw [h2, rScal_o _ _ _ _ _ (by omega)]; exact k5 d d1 d2 f f1 f2
  · intro e e1 e2 f f1 f2
    rw [h2, rScal_o _ _ _ _ _ (by omega)]; exact k6 e e1 e2 f f1 f2
  · rw [h2]
    have : i < wd := hi
    exact k7 i (by omega)
end
theorem MG.e2 {S S' : MS} (h : MG S) (e : S'.2 = S.2) : MG S' := by
  intro f d a b; rw [e]; exact h f d a b
theorem MD.rw {S S' : MS} {R : AR} {l : List PT} (h : MD S R) (h1 : ∀ k, 1 ≤ k → k < 33 → k ≠ 4 → S'.1 k = S.1 k) (h2 : ∀ k, k < 33 → k ≠ 5 → k ≠ 6 → k ≠ 29 → S'.2 k = S.2 k) (hr : marr S' 4 5 6 32 l) : MD S' (rRow R l) := by
  obtain ⟨⟨k1, k2⟩, k3, k4, k5, k6, k7⟩ := h
  refine ⟨⟨?_, fun f hf => ?_⟩, hr, fun l l1 l2 => ?_, fun d d1 d2 f f1 f2 => ?_, fun e e1 e2 f f1 f2 => ?_, fun i hi => ?_⟩
  · rw [h1 1 (by omega) (by omega) (by omega)]; exact k1
  · rw [h1 f (by omega) (by omega) (by omega)]; exact k2 f hf
  · rw [h2 10 (by omega) (by omega) (by omega) (by omega), h2 8 (by omega) (by omega) (by omega) (by omega), h2 9 (by omega) (by omega) (by omega) (by omega)]
    have := k4 l l1 l2
    exact ⟨this.1, this.2.1, fun f f1 f2 => by rw [h2 f (by omega) (by omega) (by omega) (by omega)]; exact this.2.2 f f1 f2⟩
  · rw [h2 f (by omega) (by omega) (by omega) (by omega)]; exact k5 d d1 d2 f f1 f2
  · rw [h2 f (by omega) (by omega) (by omega) (by omega)]; exact k6 e e1 e2 f f1 f2
  · rw [h2 32 (by omega) (by omega) (by omega) (by omega)]; exact k7 i hi
theorem op_sync (hq : qs.Nodup) (hl : qs.length = 30) {j c n : Nat} {T : CS} {S : MS} {f : Nat → Int64} {a1 a2 a3 a4 a5 a6 : Int} (hj : j < 512) (h : LInv qs j c n T S) (h1 : inR a1) (h2 : inR a2) (h3 : inR a3) (h4 : inR a4) (h5 : inR a5) (h6 : inR a6) : st_sync (LInv qs (j + 1)) (qa qs 0) f c n a1 a2 a3 a4 a5 a6 T S := by
  obtain ⟨hc, ad, R, hS, hw, hz⟩ := h
  have B := hS.1
  have M := hS.2.1
  have F := hS.2.2.2.1
  have w := F.r
  have W := w.1
  have t0 : tg T (qa qs 0) = 1 := B.1.tag (by omega) rfl
  have r4 : fo T (qa qs 0) 4 = some (qa qs 22) := B.1.ref (i := 0) (j := 4) (z := 22) (by omega) rfl (by omega)
  have r5 : fo T (qa qs 0) 5 = some (qa qs 28) := B.1.ref (i := 0) (j := 5) (z := 28) (by omega) rfl (by omega)
  have t22 : tg T (qa qs 22) = 5 := B.1.tag (by omega) rfl
  have t28 : tg T (qa qs 28) = 6 := B.1.tag (by omega) rfl
  have inv : ∀ {T1 : CS} {S1 : MS}, Tx (scr qs) T T1 → n20 T T1 → mfr S S1 → LInv qs (j + 1) (c + 1000) (n + 14000) T1 S1 := fun g g2 m => inv_q hq hl hS hc hw hz g g2 m
  have er : ∀ v : Int, LInv qs (j + 1) (c + 1000) (n + 14000) T (ms_i S 0 v) := fun v => inv (Tx_refl _ _) (n20_refl _) (mfr_i0 S v)
  have e30 := M.sc (f := 30) (by omega)
  have e31 := M.sc (f := 31) (by omega)
  have mod : ∀ {post : Int → MS → Prop}, (¬ (1 ≤ R.1 7 0 ∧ R.1 2 0 = 0) → post 0 (ms_i S 0 1)) → (1 ≤ R.1 7 0 → R.1 2 0 = 0 → post ((R.1 30 0 : Int) - (R.1 31 0 : Int)) (ms_i (ms_i S 0 0) 31 (R.1 30 0 : Int))) → wp_Mo_sync post S := by
    intro post p1 p0
    unfold wp_Mo_sync
    refine sp_Mo_isUp M w (fun u1 u2 => ⟨inR_lit1, fun _ => ?_, fun q => absurd q (by decide)⟩) (fun k => ⟨inR_lit0, fun q => absurd rfl q, fun _ => ?_⟩)
    · intro S1 y1 v ev
      have z : S1.1 30 = (R.1 30 0 : Int) := by rw [y1]; exact e30
      have z2 : S1.1 31 = (R.1 31 0 : Int) := by rw [y1]; exact e31
      have z0 : S1.1 0 = 0 := by rw [y1]; exact ms_i0 S 0
      rw [z0]
      refine ⟨inR_lit0, fun _ S3 y3 => ?_, fun q => absurd (Int.le_refl 0) q⟩
      rw [ev, z, z2, y3, z, y1]; exact p0 u1 u2
    · intro S1 y1 v ev
      rw [y1, ms_i0]
      exact ⟨inR_lit1, fun q => absurd q (by decide), fun _ => p1 k⟩
  unfold st_sync hx_sync
  refine ⟨1000, 14000, ⟨by omega, by omega⟩, t0, ?_⟩
  unfold wp_BLB_sync
  refine ⟨1, 6, 999, 13994, ⟨by omega, by omega⟩, t0, sp_B_up B w ⟨by omega, by omega⟩ (fun u1 u2 => ⟨t0, qa qs 28, r5, t28, t0, qa qs 28, r5, t28, fun v ev => ⟨t0, qa qs 28, r5, t0, qa qs 28, r5, t28, t28, ?_⟩⟩) (fun k => ⟨rfl, inR_lit1, mod (fun _ => fin_e (by decide) (ms_i0 S 1) (er 1)) (fun q1 q2 => absurd ⟨q1, q2⟩ k)⟩)⟩
  rw [B.lgA.1, B.lgA.2.1] at ev
  rw [B.lgA.1]
  unfold wp_BLg_keep
  refine ⟨t28, fun T1 y1 => ⟨by rw [y1]; exact t28, fun T2 y2 => ?_⟩⟩
  rw [ev]
  have B2 : BK qs ad T2 (rScal R (R.1 2 0) (R.1 3 0) (R.1 30 0) (R.1 30 0)) := by
    rw [← rScal_31 (sy := R.1 31 0), ← rScal_30 (wd := R.1 30 0), rScal_id, y2, y1]
    exact (B.log (j := 1) (Or.inl rfl) (fun _ => Nat.le_refl _)).log (j := 2) (Or.inr rfl) (fun q => by omega)
  have g2 : Tw (fun a => a = qa qs 28) T T2 := by rw [y2, y1]; exact Tw_trans (Tw_i rfl) (Tw_i rfl)
  refine ⟨by unfold inR; omega, inR_lit0, mod (fun q => absurd ⟨u1, u2⟩ q) (fun _ _ => fin_r (by unfold inR; omega) rfl (ms_i0 S 0) ⟨⟨by omega, by omega⟩, ad, rScal R (R.1 2 0) (R.1 3 0) (R.1 30 0) (R.1 30 0), ⟨B2, ?_, ?_, ?_, ?_, ?_, ?_⟩, ?_, fun z => by have z : R.1 7 0 = 0 := z; omega⟩)⟩
  · exact M.scal rfl (fun k k0 k2 k3 k30 k31 => by
      show (if k = 31 then _ else if k = 0 then _ else S.1 k) = S.1 k
      rw [if_neg k31, if_neg k0]) (M.sc (f := 2) (by omega)) (M.sc (f := 3) (by omega)) e30 rfl (Nat.le_refl _)
  · exact hS.2.2.1.e2 rfl
  · exact WF_scal F W.2.2.2.2.2.1 W.2.2.2.2.2.2 W.2.2.2.1 (Nat.le_refl _) F.l.2.1 F.l.2.2 (fun q => ⟨(F.c.1 q).2.2.1, (F.c.1 q).2.2.2⟩)
  · exact hS.2.2.2.2.1.n (n20_tw g2)
  · exact hS.2.2.2.2.2.1.cg rfl (fun _ => rfl) (fun _ _ _ => rfl) (fun l a b => by rw [g2.2.1])
  · rw [g2.2.1]; exact hS.2.2.2.2.2.2
  · show R.1 30 0 + (aRow R).length ≤ _; omega
theorem op_crash (hq : qs.Nodup) (hl : qs.length = 30) {j c n : Nat} {T : CS} {S : MS} {f : Nat → Int64} {a1 a2 a3 a4 a5 a6 : Int} (hj : j < 512) (h : LInv qs j c n T S) (h1 : inR a1) (h2 : inR a2) (h3 : inR a3) (h4 : inR a4) (h5 : inR a5) (h6 : inR a6) : st_crash (LInv qs (j + 1)) (qa qs 0) f c n a1 a2 a3 a4 a5 a6 T S := by
  obtain ⟨hc, ad, R, hS, hw, hz⟩ := h
  have B := hS.1
  have M := hS.2.1
  have F := hS.2.2.2.1
  have w := F.r
  have W := w.1
  have t0 : tg T (qa qs 0) = 1 := B.1.tag (by omega) rfl
  have r4 : fo T (qa qs 0) 4 = some (qa qs 22) := B.1.ref (i := 0) (j := 4) (z := 22) (by omega) rfl (by omega)
  have r5 : fo T (qa qs 0) 5 = some (qa qs 28) := B.1.ref (i := 0) (j := 5) (z := 28) (by omega) rfl (by omega)
  have t22 : tg T (qa qs 22) = 5 := B.1.tag (by omega) rfl
  have t28 : tg T (qa qs 28) = 6 := B.1.tag (by omega) rfl
  have inv : ∀ {T1 : CS} {S1 : MS}, Tx (scr qs) T T1 → n20 T T1 → mfr S S1 → LInv qs (j + 1) (c + 1000) (n + 14000) T1 S1 := fun g g2 m => inv_q hq hl hS hc hw hz g g2 m
  have er : ∀ v : Int, LInv qs (j + 1) (c + 1000) (n + 14000) T (ms_i S 0 v) := fun v => inv (Tx_refl _ _) (n20_refl _) (mfr_i0 S v)
  have e30 := M.sc (f := 30) (by omega)
  have e31 := M.sc (f := 31) (by omega)
  have mod : ∀ {post : Int → MS → Prop}, (¬ (1 ≤ R.1 7 0 ∧ R.1 2 0 = 0) → post 0 (ms_i S 0 1)) → (1 ≤ R.1 7 0 → R.1 2 0 = 0 → ¬ 0 ≤ a1 → post 0 (ms_i S 0 2)) → (1 ≤ R.1 7 0 → R.1 2 0 = 0 → 0 ≤ a1 → ∀ v : Int, v = (R.1 31 0 : Int) + min a1 ((R.1 30 0 : Int) - (R.1 31 0 : Int)) → post v (ms_i (ms_i (ms_i S 0 0) 2 1) 30 v)) → wp_Mo_crash post a1 S := by
    intro post p1 p2 p0
    unfold wp_Mo_crash
    refine sp_Mo_isUp M w (fun u1 u2 => ⟨inR_lit1, fun _ => ⟨h1, fun k => ?_, fun k => ?_⟩, fun q => absurd q (by decide)⟩) (fun k => ⟨inR_lit0, fun q => absurd rfl q, fun _ => ?_⟩)
    · intro S1 y1
      have z0 : S1.1 0 = 0 := by rw [y1]; exact ms_i0 S 0
      rw [z0]
      refine ⟨inR_lit0, fun _ S2 y2 v ev => ?_, fun q => absurd (Int.le_refl 0) q⟩
      have z : S2.1 30 = (R.1 30 0 : Int) := by rw [y2, y1]; exact e30
      have z2 : S2.1 31 = (R.1 31 0 : Int) := by rw [y2, y1]; exact e31
      rw [z, z2] at ev
      rw [z, z2]
      refine ⟨h1, by unfold inR; omega, fun q => ?_, fun q => ?_⟩
      · intro S3 y3
        have z3 : S3.1 30 = (R.1 30 0 : Int) := by rw [y3]; exact ms_i_same _ _ _
        rw [z3, y3, y2, y1]
        exact p0 u1 u2 k _ (by omega)
      · intro S3 y3
        have z3 : S3.1 30 = (R.1 31 0 : Int) + a1 := by rw [y3]; exact ms_i_same _ _ _
        rw [z3, y3, y2, y1]
        exact p0 u1 u2 k _ (by omega)
    · intro S1 y1
      rw [y1, ms_i0]
      exact ⟨inR_lit2, fun q => absurd q (by decide), fun _ => p2 u1 u2 k⟩
    · intro S1 y1
      rw [y1, ms_i0]
      exact ⟨inR_lit1, fun q => absurd q (by decide), fun _ => p1 k⟩
  unfold st_crash hx_crash
  refine ⟨1000, 14000, ⟨by omega, by omega⟩, t0, ?_⟩
  unfold wp_BLB_crash
  refine ⟨1, 6, 999, 13994, ⟨by omega, by omega⟩, t0, sp_B_up B w ⟨by omega, by omega⟩ (fun u1 u2 => ⟨h1, fun k => ⟨t0, qa qs 28, r5, t28, ?_⟩, fun k => ⟨⟨by omega, by omega⟩, Or.inr ⟨rfl, inR_lit2, mod (fun q => absurd ⟨u1, u2⟩ q) (fun _ _ _ => fin_e (by decide) (ms_i0 S 2) (er 2)) (fun _ _ q => absurd q k)⟩⟩⟩) (fun k => Or.inl ⟨rfl, inR_lit1, mod (fun _ => fin_e (by decide) (ms_i0 S 1) (er 1)) (fun q1 q2 => absurd ⟨q1, q2⟩ k) (fun q1 q2 => absurd ⟨q1, q2⟩ k)⟩)⟩
  unfold wp_BLg_tear
  rw [B.lgA.1, B.lgA.2.1]
  refine ⟨t28, t28, t28, sp_BMa_min h1 (by unfold inR; omega) ⟨t28, fun T8 y8 => ?_⟩⟩
  obtain ⟨v, ev⟩ : ∃ v : Nat, (v : Int) = (R.1 31 0 : Int) + min a1 ((R.1 30 0 : Int) - (R.1 31 0 : Int)) := ⟨((R.1 31 0 : Int) + min a1 ((R.1 30 0 : Int) - (R.1 31 0 : Int))).toNat, by omega⟩
  have vb : R.1 31 0 ≤ v ∧ v ≤ R.1 30 0 := by omega
  rw [← ev] at y8
  have B8 : BK qs ad T8 (rScal R (R.1 2 0) (R.1 3 0) v (R.1 31 0)) := by
    rw [← rScal_30 (wd := R.1 30 0), rScal_id, y8]
    exact B.log (j := 1) (Or.inl rfl) (fun _ => vb.2)
  have t08 : tg T8 (qa qs 0) = 1 := B8.1.tag (by omega) rfl
  refine ⟨t08, fun T10 y10 => ?_⟩
  have B10 : BK qs ad T10 (rScal R 1 (R.1 3 0) v (R.1 31 0)) := by
    rw [← rScal_2 (dn := R.1 2 0), y10]
    exact B8.flag (j := 6) (v := 1) (Or.inl rfl)
  have g10 : Tw (fun a => a = qa qs 28 ∨ a = qa qs 0) T T10 := by
    rw [y10, y8]; exact Tw_trans (Tw_i (Or.inl rfl)) (Tw_i (Or.inr rfl))
  refine ⟨B10.1.tag (by omega) rfl, qa qs 28, B10.1.ref (i := 0) (j := 5) (z := 28) (by omega) rfl (by omega), B10.1.tag (by omega) rfl, ?_⟩
  have e10 : fi T10 (qa qs 28) 1 = (v : Int) := B10.lgA.1
  rw [e10]
  refine ⟨by unfold inR; omega, inR_lit0, mod (fun q => absurd ⟨u1, u2⟩ q) (fun _ _ q => absurd k q) (fun _ _ _ v' ev' => ?_)⟩
  have : v' = (v : Int) := by omega
  subst this
  refine fin_r (by unfold inR; omega) rfl (ms_i0 S 0) ⟨⟨by omega, by omega⟩, ad, rScal R 1 (R.1 3 0) v (R.1 31 0), ⟨B10, ?_, ?_, ?_, ?_, ?_, ?_⟩, ?_, fun z => by have z : R.1 7 0 = 0 := z; omega⟩
  · exact M.scal rfl (fun k k0 k2 k3 k30 k31 => by
      show (if k = 30 then _ else if k = 2 then _ else if k = 0 then _ else S.1 k) = S.1 k
      rw [if_neg k30, if_neg k2, if_neg k0]) rfl (M.sc (f := 3) (by omega)) rfl e31 vb.2
  · exact hS.2.2.1.e2 rfl
  · exact WF_scal F (Nat.le_refl _) W.2.2.2.2.2.2 (by omega) vb.1 (by have := F.l.2.1; omega) (fun q => by omega) (fun q => by omega)
  · exact hS.2.2.2.2.1.n (n20_tw g10)
  · exact hS.2.2.2.2.2.1.cg rfl (fun _ => rfl) (fun _ _ _ => rfl) (fun l a b => by rw [g10.2.1])
  · rw [g10.2.1]; exact hS.2.2.2.2.2.2
  · show v + (aRow R).length ≤ _; omega
theorem op_point (hq : qs.Nodup) (hl : qs.length = 30) {j c n : Nat} {T : CS} {S : MS} {f : Nat → Int64} {a1 a2 a3 a4 a5 a6 : Int} (hj : j < 512) (h : LInv qs j c n T S) (h1 : inR a1) (h2 : inR a2) (h3 : inR a3) (h4 : inR a4) (h5 : inR a5) (h6 : inR a6) : st_point (LInv qs (j + 1)) (qa qs 0) f c n a1 a2 a3 a4 a5 a6 T S := by
  obtain ⟨hc, ad, R, hS, hw, hz⟩ := h
  have B := hS.1
  have M := hS.2.1
  have F := hS.2.2.2.1
  have w := F.r
  have W := w.1
  have t0 : tg T (qa qs 0) = 1 := B.1.tag (by omega) rfl
  have r4 : fo T (qa qs 0) 4 = some (qa qs 22) := B.1.ref (i := 0) (j := 4) (z := 22) (by omega) rfl (by omega)
  have r5 : fo T (qa qs 0) 5 = some (qa qs 28) := B.1.ref (i := 0) (j := 5) (z := 28) (by omega) rfl (by omega)
  have t22 : tg T (qa qs 22) = 5 := B.1.tag (by omega) rfl
  have t28 : tg T (qa qs 28) = 6 := B.1.tag (by omega) rfl
  have inv : ∀ {T1 : CS} {S1 : MS}, Tx (scr qs) T T1 → n20 T T1 → mfr S S1 → LInv qs (j + 1) (c + 1000) (n + 14000) T1 S1 := fun g g2 m => inv_q hq hl hS hc hw hz g g2 m
  have er : ∀ v : Int, LInv qs (j + 1) (c + 1000) (n + 14000) T (ms_i S 0 v) := fun v => inv (Tx_refl _ _) (n20_refl _) (mfr_i0 S v)
  have e4 : S.1 4 = ((aRow R).length : Int) := M.2.1.1
  have l32 := w.2.1.1
  have mod : ∀ {post : Int → MS → Prop}, (¬ ig_ok (a1, a2) → post 0 (ms_i S 0 1)) → (ig_ok (a1, a2) → (aRow R).length = 32 → post 0 (ms_i S 0 2)) → (ig_ok (a1, a2) → (aRow R).length < 32 → post (((aRow R).length : Int) + 1) (ms_i (ms_a (ms_a (ms_i S 0 0) 5 ((aRow R).length : Int) a1) 6 ((aRow R).length : Int) a2) 4 (((aRow R).length : Int) + 1))) → wp_Mo_point post a1 a2 S := by
    intro post p1 p2 p0
    have ex : ∀ v : Int, v = 1 ∨ v = 2 → post 0 (ms_i S 0 v) → wp_Mo_point_27 post a1 a2 v S := by
      intro v hv hp S1 y1
      rw [y1, ms_i0]
      exact ⟨by unfold inR; omega, fun q => by omega, fun _ => hp⟩
    unfold wp_Mo_point
    refine sp_Mo_isPoint h1 h2 (fun k => ⟨inR_lit1, fun _ => ?_, fun q => absurd q (by decide)⟩) (fun k => ⟨inR_lit0, fun q => absurd rfl q, fun _ => ex 1 (Or.inl rfl) (p1 k)⟩)
    rw [e4]
    refine ⟨by unfold inR; omega, fun q => ?_, fun q => ex 2 (Or.inr rfl) (p2 k (by omega))⟩
    intro S1 y1
    have z0 : S1.1 0 = 0 := by rw [y1]; exact ms_i0 S 0
    have z4 : S1.1 4 = ((aRow R).length : Int) := by rw [y1]; exact e4
    rw [z0]
    refine ⟨inR_lit0, fun _ => ?_, fun q => absurd (Int.le_refl 0) q⟩
    rw [z4]
    refine ⟨⟨by omega, by omega⟩, fun S2 y2 => ?_⟩
    have z42 : S2.1 4 = ((aRow R).length : Int) := by rw [y2]; exact z4
    rw [z42]
    refine ⟨⟨by omega, by omega⟩, fun S3 y3 S4 y4 => ?_⟩
    have z43 : S3.1 4 = ((aRow R).length : Int) := by rw [y3]; exact z42
    rw [z43] at y4
    have z44 : S4.1 4 = ((aRow R).length : Int) + 1 := by rw [y4]; exact ms_i_same _ _ _
    rw [z44, y4, y3, y2, y1]
    exact p0 k (by omega)
  have r0 : fo T (qa qs 0) 0 = some (qa qs 1) := B.1.ref (i := 0) (j := 0) (z := 1) (by omega) rfl (by omega)
  have Rw := B.2.2.1
  unfold st_point hx_point
  refine ⟨1000, 14000, ⟨by omega, by omega⟩, t0, ?_⟩
  unfold wp_BLB_point
  refine ⟨1, 6, 999, 13994, ⟨by omega, by omega⟩, sp_B_ckPoint h1 h2 ⟨by omega, by omega⟩ (fun k => ⟨t0, qa qs 1, r0, Rw.1, ?_⟩) (fun k => Or.inl ⟨rfl, inR_lit1, mod (fun _ => fin_e (by decide) (ms_i0 S 1) (er 1)) (fun q => absurd q k) (fun q => absurd q k)⟩)⟩
  rw [Rw.sz]
  refine ⟨by unfold inR; omega, fun k2 => ⟨t0, qa qs 1, r0, ?_⟩, fun k2 => ⟨⟨by omega, by omega⟩, Or.inr ⟨rfl, inR_lit2, mod (fun q => absurd k q) (fun _ _ => fin_e (by decide) (ms_i0 S 2) (er 2)) (fun _ q => by omega)⟩⟩⟩
  unfold wp_BPl_pack
  refine ⟨Rw.1, sp_add (p := (a1, a2)) Rw (by omega) (fun T10 g10 p10 => ?_)⟩
  have B10 := B.row hq hl g10 p10
  refine ⟨B10.1.tag (by omega) rfl, qa qs 1, B10.1.ref (i := 0) (j := 0) (z := 1) (by omega) rfl (by omega), p10.1, ?_⟩
  have len : (aRow R ++ [(a1, a2)]).length = (aRow R).length + 1 := by rw [List.length_append]; rfl
  rw [p10.sz, len]
  refine ⟨by unfold inR; omega, inR_lit0, mod (fun q => absurd k q) (fun _ q => by omega) (fun _ _ => fin_r (by unfold inR; omega) (by omega) (ms_i0 S 0) ⟨⟨by omega, by omega⟩, ad, rRow R (aRow R ++ [(a1, a2)]), ⟨B10, ?_, ?_, ?_, ?_, ?_, ?_⟩, ?_, fun z f f1 f2 => ?_⟩)⟩
  · have m3 := M.2.1
    refine M.rw (fun k k1 k2 k3 => ?_) (fun k k1 k2 k3 k4 => ?_) ⟨?_, ?_, fun k hk => ?_⟩
    · show (if k = 4 then _ else if k = 0 then _ else S.1 k) = S.1 k
      rw [if_neg k3, if_neg (by omega)]
    · funext d
      show (if k = 6 ∧ d = _ then a2 else if k = 5 ∧ d = _ then a1 else S.2 k d) = S.2 k d
      rw [if_neg (fun q => k3 q.1), if_neg (fun q => k2 q.1)]
    · show ((aRow R).length : Int) + 1 = ((aRow R ++ [(a1, a2)]).length : Int)
      rw [List.length_append]; show _ = (((aRow R).length + 1 : Nat) : Int); omega
    · show (aRow R ++ [(a1, a2)]).length ≤ 32
      rw [List.length_append]; show (aRow R).length + 1 ≤ 32; omega
    · have hk' : k < (aRow R).length + 1 := by
        have : k < (aRow R ++ [(a1, a2)]).length := hk
        rw [List.length_append] at this; exact this
      show (if 5 = 6 ∧ k = ((aRow R).length : Int).toNat then a2 else if 5 = 5 ∧ k = ((aRow R).length : Int).toNat then a1 else S.2 5 k) = (ig_at (aRow R ++ [(a1, a2)]) k).1 ∧ (if 6 = 6 ∧ k = ((aRow R).length : Int).toNat then a2 else if 6 = 5 ∧ k = ((aRow R).length : Int).toNat then a1 else S.2 6 k) = (ig_at (aRow R ++ [(a1, a2)]) k).2
      rw [Int.toNat_natCast]
      by_cases c2 : k = (aRow R).length
      · rw [if_neg (by omega), if_pos ⟨rfl, c2⟩, if_pos ⟨rfl, c2⟩, c2, ig_at_app_last]; exact ⟨rfl, rfl⟩
      · rw [if_neg (by omega), if_neg (fun q => c2 q.2), if_neg (fun q => c2 q.2), if_neg (by omega), ig_at_app_lt (by omega)]
        exact m3.2.2 k (by omega)
  · intro f d q1 q2
    have := hS.2.2.1 f d q1 q2
    show 0 ≤ (if f = 6 ∧ d = _ then a2 else if f = 5 ∧ d = _ then a1 else S.2 f d)
    rw [if_neg (by omega), if_neg (by omega)]; exact this
  · refine WF_row F ?_ (fun p hp => ?_)
    · rw [List.length_append]; show (aRow R).length + 1 ≤ 32; omega
    · rcases List.mem_append.mp hp with q | q
      · exact w.2.1.2 p q
      · rw [List.mem_singleton.mp q]; exact k
  · exact hS.2.2.2.2.1.n (n20_tw g10)
  · exact hS.2.2.2.2.2.1.cg rfl (fun _ => rfl) (fun _ _ _ => rfl) (fun l a b => by rw [g10.2.1])
  · rw [g10.2.1]; exact hS.2.2.2.2.2.2
  · show R.1 30 0 + (aRow R ++ [(a1, a2)]).length ≤ _
    rw [List.length_append]; show R.1 30 0 + ((aRow R).length + 1) ≤ _; omega
  · show (if f = 6 ∧ 1 = ((aRow R).length : Int).toNat then a2 else if f = 5 ∧ 1 = ((aRow R).length : Int).toNat then a1 else S.2 f 1) = 0
    rw [if_neg (by omega), if_neg (by omega)]; exact hz z f f1 f2
end OPC
