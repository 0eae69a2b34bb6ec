/-! calls: mount -/
section OPO
variable {qs : List Nat}
theorem WR_scal {R : AR} (w : WR R) {dn mo wd sy : Nat} (h1 : dn ≤ 1) (h2 : mo ≤ 40) (h3 : wd ≤ 12000) (h4 : sy ≤ wd) : WR (rScal R dn mo wd sy) :=
  ⟨⟨w.1.1, w.1.2.1, w.1.2.2.1, h3, h4, h1, h2⟩, w.2.1, w.2.2.1, w.2.2.2.1, w.2.2.2.2.1, w.2.2.2.2.2⟩
theorem op_mount (hq : qs.Nodup) (hl : qs.length = 30) {j c n : Nat} {T : CS} {S : MS} {f : Nat → Int64} {a1 a2 a3 a4 a5 a6 : Int} (hj : j < 512) (h : LInv qs j c n T S) (h1 : inR a1) (h2 : inR a2) (h3 : inR a3) (h4 : inR a4) (h5 : inR a5) (h6 : inR a6) : st_mount (LInv qs (j + 1)) (qa qs 0) f c n a1 a2 a3 a4 a5 a6 T S := by
  obtain ⟨hc, ad, R, hS, hw, hz⟩ := h
  have B := hS.1
  have M := hS.2.1
  have F := hS.2.2.2.1
  have w := F.r
  have W := w.1
  have t0 : tg T (qa qs 0) = 1 := B.1.tag (by omega) rfl
  have r4 : fo T (qa qs 0) 4 = some (qa qs 22) := B.1.ref (i := 0) (j := 4) (z := 22) (by omega) rfl (by omega)
  have r5 : fo T (qa qs 0) 5 = some (qa qs 28) := B.1.ref (i := 0) (j := 5) (z := 28) (by omega) rfl (by omega)
  have t22 : tg T (qa qs 22) = 5 := B.1.tag (by omega) rfl
  have t28 : tg T (qa qs 28) = 6 := B.1.tag (by omega) rfl
  have inv : ∀ {T1 : CS} {S1 : MS}, Tx (scr qs) T T1 → n20 T T1 → mfr S S1 → LInv qs (j + 1) (c + 1000) (n + 14000) T1 S1 := fun g g2 m => inv_q hq hl hS hc hw hz g g2 m
  have er : ∀ v : Int, LInv qs (j + 1) (c + 1000) (n + 14000) T (ms_i S 0 v) := fun v => inv (Tx_refl _ _) (n20_refl _) (mfr_i0 S v)
  have hg := hS.2.2.1
  have he := hS.2.2.2.2.1
  have hb := hS.2.2.2.2.2.1
  have h7 := hS.2.2.2.2.2.2
  have sc : ∀ {U V : CS}, Tx (fun _ => False) U V → Tx (scr qs) U V := fun g => Tx_mono g (fun a f => f.elim)
  have t9 : tg T (ad 9 0) = 11 := B.lgA.2.2.2.1
  have e3 : fi T (qa qs 0) 7 = (R.1 3 0 : Int) := B.2.1.2
  unfold st_mount hx_mount
  refine ⟨1000, 14000, ⟨by omega, by omega⟩, t0, ?_⟩
  unfold wp_BLB_mount
  refine ⟨t0, qa qs 22, r4, t22, sp_B_lotCount B ⟨by unfold inR; omega, fun k => ⟨t0, ?_⟩, fun k => ⟨⟨by omega, by omega⟩, Or.inl ⟨rfl, inR_lit1, sp_Mo_mount M hg F (fun _ => fin_e (by decide) (ms_i0 S 1) (er 1)) (fun q => by omega) (fun q => by omega)⟩⟩⟩⟩
  have k0 : R.1 7 0 ≠ 0 := by omega
  rw [e3]
  refine ⟨by unfold inR; omega, fun q => ⟨t0, t0, ?_⟩, fun q => ⟨⟨by omega, by omega⟩, Or.inr ⟨rfl, inR_lit2, sp_Mo_mount M hg F (fun q => absurd q k0) (fun _ _ => fin_e (by decide) (ms_i0 S 2) (er 2)) (fun _ q => by omega)⟩⟩⟩
  have k3 : R.1 3 0 < 40 := by omega
  rw [show (R.1 3 0 : Int) + 1 = ((R.1 3 0 + 1 : Nat) : Int) by omega]
  intro T4 y4
  refine ⟨by rw [y4]; exact t0, fun T5 y5 => ⟨R.1 15 0 + 1, ?_⟩⟩
  have B5 : BK qs ad T5 (rScal R 0 (R.1 3 0 + 1) (R.1 30 0) (R.1 31 0)) := by
    rw [← rScal_2 (dn := R.1 2 0), ← rScal_3 (mo := R.1 3 0), rScal_id, y5, y4]
    exact (B.flag (j := 7) (v := R.1 3 0 + 1) (Or.inr rfl)).flag (j := 6) (v := 0) (Or.inl rfl)
  have g5 : Tw (fun a => a = qa qs 0) T T5 := by rw [y5, y4]; exact Tw_trans (Tw_i rfl) (Tw_i rfl)
  have t05 : tg T5 (qa qs 0) = 1 := B5.1.tag (by omega) rfl
  have r55 : fo T5 (qa qs 0) 5 = some (qa qs 28) := B5.1.ref (i := 0) (j := 5) (z := 28) (by omega) rfl (by omega)
  have t285 : tg T5 (qa qs 28) = 6 := B5.1.tag (by omega) rfl
  have l5 : lgAt T5 (qa qs 28) (ad 9 0) (R.1 30 0) (aLg R) := B5.lg
  obtain ⟨bd, hbd⟩ := F.l.1
  have fin : ∀ k : Nat, mtD R k → wp_BLB_mount_97 (fun r T1 => inR r ∧ inR 0 ∧ wp_Mo_mount (fun b S1 => inR b ∧ S1.1 0 = 0 ∧ ((0 : Int) = 0 → vp_updL f 0 (lI r) 0 = lI b) ∧ LInv qs (j + 1) (c + 1000) (n + 14000) T1 S1) S) (fun cls T1 => (cls = "java/lang/IllegalStateException" ∧ inR 1 ∧ wp_Mo_mount (fun b S1 => inR b ∧ S1.1 0 = 1 ∧ ((1 : Int) = 0 → f 0 = lI b) ∧ LInv qs (j + 1) (c + 1000) (n + 14000) T1 S1) S) ∨ (cls = "java/lang/UnsupportedOperationException" ∧ inR 2 ∧ wp_Mo_mount (fun b S1 => inR b ∧ S1.1 0 = 2 ∧ ((2 : Int) = 0 → f 0 = lI b) ∧ LInv qs (j + 1) (c + 1000) (n + 14000) T1 S1) S)) 1000 14000 (qa qs 0) (wEnd R k) k T5 := by
    intro k mt
    obtain ⟨m1, m2, m3⟩ := mt
    have mt : mtD R k := ⟨m1, m2, m3⟩
    obtain ⟨⟨C1, C2, C3⟩, C4, C5⟩ := F.c.2 (by omega) k m1
    have F' : WF (mtR R k) := WF_mnt F (by omega) m1 (mtR_stp mt k3 W.2.2.2.1)
    unfold wp_BLB_mount_97 wp_BLg_keep
    refine ⟨t05, qa qs 28, r55, t285, t285, fun T6 y6 => ⟨by rw [y6]; exact t285, fun T7 y7 => ?_⟩⟩
    have B7 : BK qs ad T7 (rScal R 0 (R.1 3 0 + 1) (wEnd R k) (wEnd R k)) := by
      rw [← rScal_31 (sy := R.1 31 0), ← rScal_30 (wd := R.1 30 0), y7, y6]
      exact (B5.log (j := 1) (v := wEnd R k) (Or.inl rfl) (fun _ => m2)).log (j := 2) (v := wEnd R k) (Or.inr rfl) (fun q => by omega)
    have g7 : Tw (fun a => a = qa qs 0 ∨ a = qa qs 28) T T7 := by
      rw [y7, y6]; exact Tw_trans (Tw_mono g5 (fun a q => Or.inl q)) (Tw_trans (Tw_i (Or.inr rfl)) (Tw_i (Or.inr rfl)))
    refine ⟨B7.1.tag (by omega) rfl, qa qs 22, B7.1.ref (i := 0) (j := 4) (z := 22) (by omega) rfl (by omega), B7.1.tag (by omega) rfl, sp_B_cutBack hq hl B7 (WR_scal w (by omega) (by omega) (by omega) (Nat.le_refl _)) m1 C2 C3 C4 C5 (fun T8 B8 g8 n8 => ?_)⟩
    refine ⟨B8.1.tag (by omega) rfl, qa qs 22, B8.1.ref (i := 0) (j := 4) (z := 22) (by omega) rfl (by omega), B8.1.tag (by omega) rfl, sp_B_lastEntry B8 ?_⟩
    show inR ((k : Nat) : Int) ∧ _
    refine ⟨by unfold inR; omega, inR_lit0, sp_Mo_mount M hg F (fun q => absurd q k0) (fun _ q => by omega) (fun _ _ d S' md z0 mg mD => ?_)⟩
    have ed : d = k := mtD_uniq md mt
    rw [ed] at mD ⊢
    refine fin_r (show inR ((k : Nat) : Int) by unfold inR; omega) rfl z0 (inv_acc hc B8 mD mg F' (he.n (n20_trans (n20_tw g7) n8)) (fun l l1 l2 => ?_) ?_ ?_ ?_)
    · have l2 : l ≤ nlt R k := l2
      have t7 := B.t7 l1 (show l ≤ R.1 7 0 by omega)
      rw [mtR_o R k l (by omega), mtR_o R k _ (by omega), (g8 _ (by rw [g7.1]; omega)).2.1, g7.2.1]
      exact hb l l1 (by omega)
    · rw [(g8 _ (by rw [g7.1]; omega)).2.1, g7.2.1]; exact h7
    · show wEnd R k + (aRow R).length ≤ _
      omega
    · show nlt R k ≠ 0
      omega
  have lp : ∀ (m k : Nat), R.1 15 0 - k < m → k ≤ R.1 15 0 → wEnd R k ≤ R.1 30 0 → wp_BLB_mount_60 (fun r T1 => inR r ∧ inR 0 ∧ wp_Mo_mount (fun b S1 => inR b ∧ S1.1 0 = 0 ∧ ((0 : Int) = 0 → vp_updL f 0 (lI r) 0 = lI b) ∧ LInv qs (j + 1) (c + 1000) (n + 14000) T1 S1) S) (fun cls T1 => (cls = "java/lang/IllegalStateException" ∧ inR 1 ∧ wp_Mo_mount (fun b S1 => inR b ∧ S1.1 0 = 1 ∧ ((1 : Int) = 0 → f 0 = lI b) ∧ LInv qs (j + 1) (c + 1000) (n + 14000) T1 S1) S) ∨ (cls = "java/lang/UnsupportedOperationException" ∧ inR 2 ∧ wp_Mo_mount (fun b S1 => inR b ∧ S1.1 0 = 2 ∧ ((2 : Int) = 0 → f 0 = lI b) ∧ LInv qs (j + 1) (c + 1000) (n + 14000) T1 S1) S)) m 1000 14000 (qa qs 0) (wEnd R k) k T5 := by
    intro m
    induction m with
    | zero => intro k hm; omega
    | succ m ih =>
      intro k hm hk he2
      have wl := wEnd_le F k hk
      unfold wp_BLB_mount_60
      refine ⟨t05, qa qs 28, r55, t285, ?_⟩
      rw [l5.2.1]
      refine ⟨by unfold inR; omega, by unfold inR; omega, fun q => fin k ⟨hk, he2, fun d' q1 q2 => ?_⟩, fun q => ⟨t05, qa qs 28, r55, t285, ?_⟩⟩
      · have := wEnd_mono F (d := k) (d' - k) (by omega)
        rw [show k + (d' - k) = d' by omega] at this
        omega
      · have kD : k < R.1 15 0 := by
          refine Classical.byContradiction fun u => ?_
          have ek : k = R.1 15 0 := by omega
          have := F.l.2.1
          rw [← ek] at this
          omega
        refine sp_B_recLen l5 W.2.2.2.1 (hbd (k + 1) (by omega) (by omega)) (by omega) (fun u1 u2 => ?_) (fun u1 => ⟨inR_lit0, fun v => absurd v (by decide), fun _ => fin k ⟨hk, he2, fun d' q1 q2 => ?_⟩⟩)
        · have := (hbd (k + 1) (by omega) (by omega)).1
          refine ⟨by unfold inR; omega, fun _ v ev => ?_, fun v => absurd (by omega) v⟩
          rw [ev, show (wEnd R k : Int) + (((bd (k + 1)).length + 2 : Nat) : Int) = (wEnd R (k + 1) : Int) by omega, show (k : Int) + 1 = ((k + 1 : Nat) : Int) by omega]
          exact ih (k + 1) (by omega) (by omega) u1
        · have := wEnd_mono F (d := k + 1) (d' - (k + 1)) (by omega)
          rw [show k + 1 + (d' - (k + 1)) = d' by omega] at this
          omega
  exact lp _ 0 (by omega) (by omega) (Nat.zero_le _)
end OPO
