/-! calls: area2, share, next, burden, lotAt -/
section OPE
variable {qs : List Nat}
theorem op_area2 (hq : qs.Nodup) (hl : qs.length = 30) {j c n : Nat} {T : CS} {S : MS} {f : Nat → Int64} {a1 a2 a3 a4 a5 a6 : Int} (hj : j < 512) (h : LInv qs j c n T S) (h1 : inR a1) (h2 : inR a2) (h3 : inR a3) (h4 : inR a4) (h5 : inR a5) (h6 : inR a6) : st_area2 (LInv qs (j + 1)) (qa qs 0) f c n a1 a2 a3 a4 a5 a6 T S := by
  obtain ⟨hc, ad, R, hS, hw, hz⟩ := h
  have B := hS.1
  have M := hS.2.1
  have F := hS.2.2.2.1
  have w := F.r
  have W := w.1
  have t0 : tg T (qa qs 0) = 1 := B.1.tag (by omega) rfl
  have r4 : fo T (qa qs 0) 4 = some (qa qs 22) := B.1.ref (i := 0) (j := 4) (z := 22) (by omega) rfl (by omega)
  have r5 : fo T (qa qs 0) 5 = some (qa qs 28) := B.1.ref (i := 0) (j := 5) (z := 28) (by omega) rfl (by omega)
  have t22 : tg T (qa qs 22) = 5 := B.1.tag (by omega) rfl
  have t28 : tg T (qa qs 28) = 6 := B.1.tag (by omega) rfl
  have inv : ∀ {T1 : CS} {S1 : MS}, Tx (scr qs) T T1 → n20 T T1 → mfr S S1 → LInv qs (j + 1) (c + 1000) (n + 14000) T1 S1 := fun g g2 m => inv_q hq hl hS hc hw hz g g2 m
  have er : ∀ v : Int, LInv qs (j + 1) (c + 1000) (n + 14000) T (ms_i S 0 v) := fun v => inv (Tx_refl _ _) (n20_refl _) (mfr_i0 S v)
  unfold st_area2 hx_area2
  refine ⟨1000, 14000, ⟨by omega, by omega⟩, t0, ?_⟩
  unfold wp_BLB_area2
  refine ⟨1, 6, 999, 13994, ⟨by omega, by omega⟩, t0, sp_B_up B w ⟨by omega, by omega⟩ (fun u1 u2 => ⟨1, 6, 998, 13988, ⟨by omega, by omega⟩, t0, sp_B_ckLot B w h1 ⟨by omega, by omega⟩ (fun l e l1 l2 => ⟨2, 12, 996, 13976, ⟨by omega, by omega⟩, sp_B_ckAsOf h2 h3 ⟨by omega, by omega⟩ (fun k => ⟨t0, qa qs 22, r4, t22, ?_⟩) (fun k => Or.inr (Or.inr ⟨rfl, inR_lit3, sp_Mo_area2 M w h1 h2 h3 (fun q => absurd ⟨u1, u2⟩ q) (fun _ _ q => absurd ⟨by omega, by omega⟩ q) (fun _ _ _ _ => fin_e (by decide) (ms_i0 S 3) (er 3)) (fun _ _ _ _ _ _ q => absurd q k) (fun _ _ _ _ _ _ q => absurd q k)⟩))⟩) (fun k => Or.inr (Or.inl ⟨rfl, inR_lit2, sp_Mo_area2 M w h1 h2 h3 (fun q => absurd ⟨u1, u2⟩ q) (fun _ _ _ => fin_e (by decide) (ms_i0 S 2) (er 2)) (fun _ _ q => absurd q k) (fun _ _ l e l1 l2 => absurd ⟨by omega, by omega⟩ k) (fun _ _ l e l1 l2 => absurd ⟨by omega, by omega⟩ k)⟩))⟩) (fun k => Or.inl ⟨rfl, inR_lit1, sp_Mo_area2 M w h1 h2 h3 (fun _ => fin_e (by decide) (ms_i0 S 1) (er 1)) (fun q1 q2 => absurd ⟨q1, q2⟩ k) (fun q1 q2 => absurd ⟨q1, q2⟩ k) (fun q1 q2 => absurd ⟨q1, q2⟩ k) (fun q1 q2 => absurd ⟨q1, q2⟩ k)⟩)⟩
  subst e
  have la := B.lta l1 l2
  have rg := w.rg l1 l2
  have ar := rg_area rg
  refine sp_B_isInBeing B w l1 l2 h2 h3 (fun kb => ⟨inR_lit1, fun _ => ⟨t0, qa qs 22, r4, t22, sp_B_lot B l1 l2 ⟨B.lt9 l1 l2, ad 4 l, la.1, sp_B_twiceArea la.2.1 rg.ne rg.1 ⟨by unfold inR; omega, inR_lit0, sp_Mo_area2 M w h1 h2 h3 (fun q => absurd ⟨u1, u2⟩ q) (fun _ _ q => absurd ⟨by omega, by omega⟩ q) (fun _ _ _ q => absurd k q) (fun _ _ l' e' _ _ _ q => ?_) (fun _ _ l' e' _ _ _ q => ?_)⟩⟩⟩, fun q => absurd q (by decide)⟩) (fun kb => ⟨inR_lit0, fun q => absurd rfl q, fun _ => ⟨by unfold inR; omega, inR_lit0, sp_Mo_area2 M w h1 h2 h3 (fun q => absurd ⟨u1, u2⟩ q) (fun _ _ q => absurd ⟨by omega, by omega⟩ q) (fun _ _ _ q => absurd k q) (fun _ _ l' e' _ _ _ q => fin_r (by unfold inR; omega) rfl (ms_i0 S 0) (er 0)) (fun _ _ l' e' _ _ _ q => ?_)⟩⟩)
  · have z : l' = l := by omega
    subst z; exact absurd kb q
  · have z : l' = l := by omega
    subst z; exact fin_r (by unfold inR; omega) rfl (ms_i0 S 0) (er 0)
  · have z : l' = l := by omega
    subst z; exact absurd q kb
theorem op_share (hq : qs.Nodup) (hl : qs.length = 30) {j c n : Nat} {T : CS} {S : MS} {f : Nat → Int64} {a1 a2 a3 a4 a5 a6 : Int} (hj : j < 512) (h : LInv qs j c n T S) (h1 : inR a1) (h2 : inR a2) (h3 : inR a3) (h4 : inR a4) (h5 : inR a5) (h6 : inR a6) : st_share (LInv qs (j + 1)) (qa qs 0) f c n a1 a2 a3 a4 a5 a6 T S := by
  obtain ⟨hc, ad, R, hS, hw, hz⟩ := h
  have B := hS.1
  have M := hS.2.1
  have F := hS.2.2.2.1
  have w := F.r
  have W := w.1
  have t0 : tg T (qa qs 0) = 1 := B.1.tag (by omega) rfl
  have r4 : fo T (qa qs 0) 4 = some (qa qs 22) := B.1.ref (i := 0) (j := 4) (z := 22) (by omega) rfl (by omega)
  have r5 : fo T (qa qs 0) 5 = some (qa qs 28) := B.1.ref (i := 0) (j := 5) (z := 28) (by omega) rfl (by omega)
  have t22 : tg T (qa qs 22) = 5 := B.1.tag (by omega) rfl
  have t28 : tg T (qa qs 28) = 6 := B.1.tag (by omega) rfl
  have inv : ∀ {T1 : CS} {S1 : MS}, Tx (scr qs) T T1 → n20 T T1 → mfr S S1 → LInv qs (j + 1) (c + 1000) (n + 14000) T1 S1 := fun g g2 m => inv_q hq hl hS hc hw hz g g2 m
  have er : ∀ v : Int, LInv qs (j + 1) (c + 1000) (n + 14000) T (ms_i S 0 v) := fun v => inv (Tx_refl _ _) (n20_refl _) (mfr_i0 S v)
  unfold st_share hx_share
  refine ⟨1000, 14000, ⟨by omega, by omega⟩, t0, ?_⟩
  unfold wp_BLB_share
  refine ⟨1, 6, 999, 13994, ⟨by omega, by omega⟩, t0, sp_B_up B w ⟨by omega, by omega⟩ (fun u1 u2 => ⟨1, 6, 998, 13988, ⟨by omega, by omega⟩, t0, sp_B_ckLot B w h1 ⟨by omega, by omega⟩ (fun l e l1 l2 => ⟨1, 6, 997, 13982, ⟨by omega, by omega⟩, sp_B_ckPerson h2 ⟨by omega, by omega⟩ (fun kp => ⟨2, 12, 995, 13970, ⟨by omega, by omega⟩, sp_B_ckAsOf h3 h4 ⟨by omega, by omega⟩ (fun k => ⟨t0, qa qs 22, r4, t22, ?_⟩) (fun k => Or.inr (Or.inr ⟨rfl, inR_lit3, sp_Mo_share M F h1 h2 h3 h4 (fun q => absurd ⟨u1, u2⟩ q) (fun _ _ q => absurd ⟨by omega, by omega⟩ q) (fun _ _ _ _ => fin_e (by decide) (ms_i0 S 3) (er 3)) (fun _ _ _ _ _ _ q => absurd q k) (fun _ _ _ _ _ _ q => absurd q k)⟩))⟩) (fun k => Or.inr (Or.inr ⟨rfl, inR_lit3, sp_Mo_share M F h1 h2 h3 h4 (fun q => absurd ⟨u1, u2⟩ q) (fun _ _ q => absurd ⟨by omega, by omega⟩ q) (fun _ _ _ _ => fin_e (by decide) (ms_i0 S 3) (er 3)) (fun _ _ _ _ _ _ _ q => absurd q k) (fun _ _ _ _ _ _ _ q => absurd q k)⟩))⟩) (fun k => Or.inr (Or.inl ⟨rfl, inR_lit2, sp_Mo_share M F h1 h2 h3 h4 (fun q => absurd ⟨u1, u2⟩ q) (fun _ _ _ => fin_e (by decide) (ms_i0 S 2) (er 2)) (fun _ _ q => absurd q k) (fun _ _ l e l1 l2 => absurd ⟨by omega, by omega⟩ k) (fun _ _ l e l1 l2 => absurd ⟨by omega, by omega⟩ k)⟩))⟩) (fun k => Or.inl ⟨rfl, inR_lit1, sp_Mo_share M F h1 h2 h3 h4 (fun _ => fin_e (by decide) (ms_i0 S 1) (er 1)) (fun q1 q2 => absurd ⟨q1, q2⟩ k) (fun q1 q2 => absurd ⟨q1, q2⟩ k) (fun q1 q2 => absurd ⟨q1, q2⟩ k) (fun q1 q2 => absurd ⟨q1, q2⟩ k)⟩)⟩
  subst e
  have bd := aShare_bd (y := a3) (e := a4) (p := a2.toNat) F l1 l2 (by omega)
  refine sp_B_isInBeing B w l1 l2 h3 h4 (fun kb => ⟨inR_lit1, fun _ => ⟨t0, qa qs 22, r4, t22, ?_⟩, fun q => absurd q (by decide)⟩) (fun kb => ⟨inR_lit0, fun q => absurd rfl q, fun _ => ⟨by unfold inR; omega, inR_lit0, sp_Mo_share M F h1 h2 h3 h4 (fun q => absurd ⟨u1, u2⟩ q) (fun _ _ q => absurd ⟨by omega, by omega⟩ q) (fun _ _ _ q => absurd ⟨k, kp⟩ q) (fun _ _ l' e' _ _ _ _ q => fin_r (by unfold inR; omega) rfl (ms_i0 S 0) (er 0)) (fun _ _ l' e' _ _ _ _ q => ?_)⟩⟩)
  · have e2 : a2 = ((a2.toNat : Nat) : Int) := by omega
    have := sp_B_shareOf (post := fun r_30 T_29 => inR r_30 ∧ inR 0 ∧ wp_Mo_share (fun b S1 => inR b ∧ S1.1 0 = 0 ∧ ((0 : Int) = 0 → vp_updL f 0 (lI r_30) 0 = lI b) ∧ LInv qs (j + 1) (c + 1000) (n + 14000) T_29 S1) (l : Int) a2 a3 a4 S) (p := a2.toNat) hq hl B w F.nl F.t l1 l2 (by omega) h3 h4 (fun T' g' => ⟨by unfold inR; omega, inR_lit0, sp_Mo_share M F h1 h2 h3 h4 (fun q => absurd ⟨u1, u2⟩ q) (fun _ _ q => absurd ⟨by omega, by omega⟩ q) (fun _ _ _ q => absurd ⟨k, kp⟩ q) (fun _ _ l' e' _ _ _ _ q => by
      have z : l' = l := by omega
      subst z; exact absurd kb q) (fun _ _ l' e' _ _ _ _ q => by
      have z : l' = l := by omega
      subst z; exact fin_r (by unfold inR; omega) rfl (ms_i0 S 0) (inv g'.tx (n20_tw g') (mfr_i0 S 0)))⟩)
    rw [← e2] at this
    exact this
  · have z : l' = l := by omega
    subst z; exact absurd q kb
theorem op_next (hq : qs.Nodup) (hl : qs.length = 30) {j c n : Nat} {T : CS} {S : MS} {f : Nat → Int64} {a1 a2 a3 a4 a5 a6 : Int} (hj : j < 512) (h : LInv qs j c n T S) (h1 : inR a1) (h2 : inR a2) (h3 : inR a3) (h4 : inR a4) (h5 : inR a5) (h6 : inR a6) : st_next (LInv qs (j + 1)) (qa qs 0) f c n a1 a2 a3 a4 a5 a6 T S := by
  obtain ⟨hc, ad, R, hS, hw, hz⟩ := h
  have B := hS.1
  have M := hS.2.1
  have F := hS.2.2.2.1
  have w := F.r
  have W := w.1
  have t0 : tg T (qa qs 0) = 1 := B.1.tag (by omega) rfl
  have r4 : fo T (qa qs 0) 4 = some (qa qs 22) := B.1.ref (i := 0) (j := 4) (z := 22) (by omega) rfl (by omega)
  have r5 : fo T (qa qs 0) 5 = some (qa qs 28) := B.1.ref (i := 0) (j := 5) (z := 28) (by omega) rfl (by omega)
  have t22 : tg T (qa qs 22) = 5 := B.1.tag (by omega) rfl
  have t28 : tg T (qa qs 28) = 6 := B.1.tag (by omega) rfl
  have inv : ∀ {T1 : CS} {S1 : MS}, Tx (scr qs) T T1 → n20 T T1 → mfr S S1 → LInv qs (j + 1) (c + 1000) (n + 14000) T1 S1 := fun g g2 m => inv_q hq hl hS hc hw hz g g2 m
  have er : ∀ v : Int, LInv qs (j + 1) (c + 1000) (n + 14000) T (ms_i S 0 v) := fun v => inv (Tx_refl _ _) (n20_refl _) (mfr_i0 S v)
  unfold st_next hx_next
  refine ⟨1000, 14000, ⟨by omega, by omega⟩, t0, ?_⟩
  unfold wp_BLB_next
  refine ⟨1, 6, 999, 13994, ⟨by omega, by omega⟩, t0, sp_B_up B w ⟨by omega, by omega⟩ (fun u1 u2 => ⟨1, 6, 998, 13988, ⟨by omega, by omega⟩, t0, sp_B_ckLot B w h1 ⟨by omega, by omega⟩ (fun l e l1 l2 => ⟨1, 6, 997, 13982, ⟨by omega, by omega⟩, sp_B_ckPlace h2 ⟨by omega, by omega⟩ (fun kp => ⟨2, 12, 995, 13970, ⟨by omega, by omega⟩, sp_B_ckAsOf h3 h4 ⟨by omega, by omega⟩ (fun k => ⟨t0, qa qs 22, r4, t22, ?_⟩) (fun k => Or.inr (Or.inr ⟨rfl, inR_lit3, sp_Mo_next M w h1 h2 h3 h4 (fun q => absurd ⟨u1, u2⟩ q) (fun _ _ q => absurd ⟨by omega, by omega⟩ q) (fun _ _ _ _ => fin_e (by decide) (ms_i0 S 3) (er 3)) (fun _ _ _ _ _ _ q => absurd q k) (fun _ _ _ _ _ _ q => absurd q k)⟩))⟩) (fun k => Or.inr (Or.inr ⟨rfl, inR_lit3, sp_Mo_next M w h1 h2 h3 h4 (fun q => absurd ⟨u1, u2⟩ q) (fun _ _ q => absurd ⟨by omega, by omega⟩ q) (fun _ _ _ _ => fin_e (by decide) (ms_i0 S 3) (er 3)) (fun _ _ _ _ _ _ _ q => absurd q k) (fun _ _ _ _ _ _ _ q => absurd q k)⟩))⟩) (fun k => Or.inr (Or.inl ⟨rfl, inR_lit2, sp_Mo_next M w h1 h2 h3 h4 (fun q => absurd ⟨u1, u2⟩ q) (fun _ _ _ => fin_e (by decide) (ms_i0 S 2) (er 2)) (fun _ _ q => absurd q k) (fun _ _ l e l1 l2 => absurd ⟨by omega, by omega⟩ k) (fun _ _ l e l1 l2 => absurd ⟨by omega, by omega⟩ k)⟩))⟩) (fun k => Or.inl ⟨rfl, inR_lit1, sp_Mo_next M w h1 h2 h3 h4 (fun _ => fin_e (by decide) (ms_i0 S 1) (er 1)) (fun q1 q2 => absurd ⟨q1, q2⟩ k) (fun q1 q2 => absurd ⟨q1, q2⟩ k) (fun q1 q2 => absurd ⟨q1, q2⟩ k) (fun q1 q2 => absurd ⟨q1, q2⟩ k)⟩)⟩
  subst e
  have la := B.lta l1 l2
  have rg := w.rg l1 l2
  refine sp_B_isInBeing B w l1 l2 h3 h4 (fun kb => ⟨inR_lit1, fun _ => ⟨R.1 7 0 + 2, ?_⟩, fun q => absurd q (by decide)⟩) (fun kb => ⟨inR_lit0, fun q => absurd rfl q, fun _ => ⟨by unfold inR; omega, inR_lit0, sp_Mo_next M w h1 h2 h3 h4 (fun q => absurd ⟨u1, u2⟩ q) (fun _ _ q => absurd ⟨by omega, by omega⟩ q) (fun _ _ _ q => absurd ⟨k, kp⟩ q) (fun _ _ l' e' _ _ _ _ q => fin_r (by unfold inR; omega) rfl (ms_i0 S 0) (er 0)) (fun _ _ l' e' _ _ _ _ q => ?_)⟩⟩)
  · have fin : ∀ r : Nat, nthOK (fNext R l a3 a4) (R.1 7 0) a2 r → inR (r : Int) ∧ inR 0 ∧ wp_Mo_next (fun b S1 => inR b ∧ S1.1 0 = 0 ∧ ((0 : Int) = 0 → vp_updL f 0 (lI (r : Int)) 0 = lI b) ∧ LInv qs (j + 1) (c + 1000) (n + 14000) T S1) (l : Int) a2 a3 a4 S := by
      intro r hr
      have rb : r ≤ 300 := by rcases hr with q | q <;> omega
      exact ⟨by unfold inR; omega, inR_lit0, sp_Mo_next M w h1 h2 h3 h4 (fun q => absurd ⟨u1, u2⟩ q) (fun _ _ q => absurd ⟨by omega, by omega⟩ q) (fun _ _ _ q => absurd ⟨k, kp⟩ q) (fun _ _ l' e' _ _ _ _ q => by
        have z : l' = l := by omega
        subst z; exact absurd kb q) (fun _ _ l' e' _ _ _ _ q r' hr' => by
        have z : l' = l := by omega
        subst z
        exact fin_r (by unfold inR; omega) (by rw [nthOK_uniq hr' hr]) (ms_i0 S 0) (er 0))⟩
    have lp : ∀ (n' x : Nat), R.1 7 0 + 1 - x < n' → 1 ≤ x → x ≤ R.1 7 0 + 1 → (∀ r', 1 ≤ r' → r' < x → fNext R l a3 a4 r' = true → ((cntN (fun k => fNext R l a3 a4 (k + 1)) (r' - 1) : Nat) : Int) ≠ a2) → wp_BLB_next_41 (fun r T1 => inR r ∧ inR 0 ∧ wp_Mo_next (fun b S1 => inR b ∧ S1.1 0 = 0 ∧ ((0 : Int) = 0 → vp_updL f 0 (lI r) 0 = lI b) ∧ LInv qs (j + 1) (c + 1000) (n + 14000) T1 S1) (l : Int) a2 a3 a4 S) (fun cls T1 => (cls = "java/lang/IllegalStateException" ∧ inR 1 ∧ wp_Mo_next (fun b S1 => inR b ∧ S1.1 0 = 1 ∧ ((1 : Int) = 0 → f 0 = lI b) ∧ LInv qs (j + 1) (c + 1000) (n + 14000) T1 S1) (l : Int) a2 a3 a4 S) ∨ (cls = "java/lang/IndexOutOfBoundsException" ∧ inR 2 ∧ wp_Mo_next (fun b S1 => inR b ∧ S1.1 0 = 2 ∧ ((2 : Int) = 0 → f 0 = lI b) ∧ LInv qs (j + 1) (c + 1000) (n + 14000) T1 S1) (l : Int) a2 a3 a4 S) ∨ (cls = "java/lang/IllegalArgumentException" ∧ inR 3 ∧ wp_Mo_next (fun b S1 => inR b ∧ S1.1 0 = 3 ∧ ((3 : Int) = 0 → f 0 = lI b) ∧ LInv qs (j + 1) (c + 1000) (n + 14000) T1 S1) (l : Int) a2 a3 a4 S)) n' 995 13970 (qa qs 0) (l : Int) a2 a3 a4 ((cntN (fun k => fNext R l a3 a4 (k + 1)) (x - 1) : Nat) : Int) (x : Int) T := by
      intro n'
      induction n' with
      | zero => intro x hm; omega
      | succ n' ih =>
        intro x hm x1 x2 I
        have cb := cntN_le (fun k => fNext R l a3 a4 (k + 1)) (x - 1)
        have step := cntN_s (f := fNext R l a3 a4) x1
        unfold wp_BLB_next_41
        refine ⟨t0, qa qs 22, r4, t22, sp_B_lotCount B ⟨by unfold inR; omega, by unfold inR; omega, fun c2 => fin 0 (nthOK_none (k := x) (by omega) I), fun c2 => ?_⟩⟩
        have xl : x ≤ R.1 7 0 := by omega
        have lx := B.lta x1 xl
        have rx := w.rg x1 xl
        have no : fNext R l a3 a4 x = false → wp_BLB_next_115 (fun r T1 => inR r ∧ inR 0 ∧ wp_Mo_next (fun b S1 => inR b ∧ S1.1 0 = 0 ∧ ((0 : Int) = 0 → vp_updL f 0 (lI r) 0 = lI b) ∧ LInv qs (j + 1) (c + 1000) (n + 14000) T1 S1) (l : Int) a2 a3 a4 S) (fun cls T1 => (cls = "java/lang/IllegalStateException" ∧ inR 1 ∧ wp_Mo_next (fun b S1 => inR b ∧ S1.1 0 = 1 ∧ ((1 : Int) = 0 → f 0 = lI b) ∧ LInv qs (j + 1) (c + 1000) (n + 14000) T1 S1) (l : Int) a2 a3 a4 S) ∨ (cls = "java/lang/IndexOutOfBoundsException" ∧ inR 2 ∧ wp_Mo_next (fun b S1 => inR b ∧ S1.1 0 = 2 ∧ ((2 : Int) = 0 → f 0 = lI b) ∧ LInv qs (j + 1) (c + 1000) (n + 14000) T1 S1) (l : Int) a2 a3 a4 S) ∨ (cls = "java/lang/IllegalArgumentException" ∧ inR 3 ∧ wp_Mo_next (fun b S1 => inR b ∧ S1.1 0 = 3 ∧ ((3 : Int) = 0 → f 0 = lI b) ∧ LInv qs (j + 1) (c + 1000) (n + 14000) T1 S1) (l : Int) a2 a3 a4 S)) (wp_BLB_next_41 (fun r T1 => inR r ∧ inR 0 ∧ wp_Mo_next (fun b S1 => inR b ∧ S1.1 0 = 0 ∧ ((0 : Int) = 0 → vp_updL f 0 (lI r) 0 = lI b) ∧ LInv qs (j + 1) (c + 1000) (n + 14000) T1 S1) (l : Int) a2 a3 a4 S) (fun cls T1 => (cls = "java/lang/IllegalStateException" ∧ inR 1 ∧ wp_Mo_next (fun b S1 => inR b ∧ S1.1 0 = 1 ∧ ((1 : Int) = 0 → f 0 = lI b) ∧ LInv qs (j + 1) (c + 1000) (n + 14000) T1 S1) (l : Int) a2 a3 a4 S) ∨ (cls = "java/lang/IndexOutOfBoundsException" ∧ inR 2 ∧ wp_Mo_next (fun b S1 => inR b ∧ S1.1 0 = 2 ∧ ((2 : Int) = 0 → f 0 = lI b) ∧ LInv qs (j + 1) (c + 1000) (n + 14000) T1 S1) (l : Int) a2 a3 a4 S) ∨ (cls = "java/lang/IllegalArgumentException" ∧ inR 3 ∧ wp_Mo_next (fun b S1 => inR b ∧ S1.1 0 = 3 ∧ ((3 : Int) = 0 → f 0 = lI b) ∧ LInv qs (j + 1) (c + 1000) (n + 14000) T1 S1) (l : Int) a2 a3 a4 S)) n') 995 13970 (qa qs 0) (l : Int) a2 a3 a4 ((cntN (fun k => fNext R l a3 a4 (k + 1)) (x - 1) : Nat) : Int) (x : Int) T := by
          intro fx
          rw [fx] at step
          have := ih (x + 1) (by omega) (by omega) (by omega) (fun r' a b f => by
            by_cases q : r' = x
            · rw [q, fx] at f; exact absurd f (by decide)
            · exact I r' a (by omega) f)
          rw [show x + 1 - 1 = x by omega, step] at this
          unfold wp_BLB_next_115
          rw [show (x : Int) + 1 = ((x + 1 : Nat) : Int) by omega]
          exact this
        refine ⟨by unfold inR; omega, by unfold inR; omega, fun c3 => no (pB_f.mpr (fun q => q.1 (by omega))), fun c3 => ⟨t0, qa qs 22, r4, t22, sp_B_isInBeing B w x1 xl h3 h4 (fun k2 => ⟨inR_lit1, fun q => absurd q (by decide), fun _ => ⟨t0, qa qs 22, r4, t22, sp_B_lot B l1 l2 ⟨B.lt9 l1 l2, ad 4 l, la.1, t0, qa qs 22, r4, t22, sp_B_lot B x1 xl ⟨B.lt9 x1 xl, ad 4 x, lx.1, sp_B_haveLine la.2.1 lx.2.1 rg.ne rx.ne rg.1 rx.1 (fun k3 => ⟨inR_lit1, fun q => absurd q (by decide), fun _ => ?_⟩) (fun k3 => ⟨inR_lit0, fun _ => no (pB_f.mpr (fun q => k3 q.2.2)), fun q => absurd rfl q⟩)⟩⟩⟩⟩) (fun k2 => ⟨inR_lit0, fun _ => no (pB_f.mpr (fun q => k2 q.2.1)), fun q => absurd rfl q⟩)⟩⟩
        have fx : fNext R l a3 a4 x = true := pB_iff.mpr ⟨by omega, k2, k3⟩
        refine ⟨by unfold inR; omega, h2, fun c5 => ?_, fun c5 => fin x (Or.inl ⟨x1, xl, fx, c5⟩)⟩
        rw [fx] at step
        have := ih (x + 1) (by omega) (by omega) (by omega) (fun r' a b f => by
          by_cases q : r' = x
          · rw [q]; exact c5
          · exact I r' a (by omega) f)
        rw [show x + 1 - 1 = x by omega, step] at this
        unfold wp_BLB_next_115
        rw [show (x : Int) + 1 = ((x + 1 : Nat) : Int) by omega]
        exact this
    exact lp _ 1 (by omega) (by omega) (by omega) (fun r' a b => by omega)
  · have z : l' = l := by omega
    subst z; exact absurd q kb
theorem op_burden (hq : qs.Nodup) (hl : qs.length = 30) {j c n : Nat} {T : CS} {S : MS} {f : Nat → Int64} {a1 a2 a3 a4 a5 a6 : Int} (hj : j < 512) (h : LInv qs j c n T S) (h1 : inR a1) (h2 : inR a2) (h3 : inR a3) (h4 : inR a4) (h5 : inR a5) (h6 : inR a6) : st_burden (LInv qs (j + 1)) (qa qs 0) f c n a1 a2 a3 a4 a5 a6 T S := by
  obtain ⟨hc, ad, R, hS, hw, hz⟩ := h
  have B := hS.1
  have M := hS.2.1
  have F := hS.2.2.2.1
  have w := F.r
  have W := w.1
  have t0 : tg T (qa qs 0) = 1 := B.1.tag (by omega) rfl
  have r4 : fo T (qa qs 0) 4 = some (qa qs 22) := B.1.ref (i := 0) (j := 4) (z := 22) (by omega) rfl (by omega)
  have r5 : fo T (qa qs 0) 5 = some (qa qs 28) := B.1.ref (i := 0) (j := 5) (z := 28) (by omega) rfl (by omega)
  have t22 : tg T (qa qs 22) = 5 := B.1.tag (by omega) rfl
  have t28 : tg T (qa qs 28) = 6 := B.1.tag (by omega) rfl
  have inv : ∀ {T1 : CS} {S1 : MS}, Tx (scr qs) T T1 → n20 T T1 → mfr S S1 → LInv qs (j + 1) (c + 1000) (n + 14000) T1 S1 := fun g g2 m => inv_q hq hl hS hc hw hz g g2 m
  have er : ∀ v : Int, LInv qs (j + 1) (c + 1000) (n + 14000) T (ms_i S 0 v) := fun v => inv (Tx_refl _ _) (n20_refl _) (mfr_i0 S v)
  unfold st_burden hx_burden
  refine ⟨1000, 14000, ⟨by omega, by omega⟩, t0, ?_⟩
  unfold wp_BLB_burden
  refine ⟨1, 6, 999, 13994, ⟨by omega, by omega⟩, t0, sp_B_up B w ⟨by omega, by omega⟩ (fun u1 u2 => ⟨1, 6, 998, 13988, ⟨by omega, by omega⟩, t0, sp_B_ckLot B w h1 ⟨by omega, by omega⟩ (fun l e l1 l2 => ⟨1, 6, 997, 13982, ⟨by omega, by omega⟩, sp_B_ckPlace h2 ⟨by omega, by omega⟩ (fun kp => ⟨2, 12, 995, 13970, ⟨by omega, by omega⟩, sp_B_ckAsOf h3 h4 ⟨by omega, by omega⟩ (fun k => ⟨t0, qa qs 22, r4, t22, ?_⟩) (fun k => Or.inr (Or.inr ⟨rfl, inR_lit3, sp_Mo_burden M F h1 h2 h3 h4 (fun q => absurd ⟨u1, u2⟩ q) (fun _ _ q => absurd ⟨by omega, by omega⟩ q) (fun _ _ _ _ => fin_e (by decide) (ms_i0 S 3) (er 3)) (fun _ _ _ _ _ _ q => absurd q k) (fun _ _ _ _ _ _ q => absurd q k)⟩))⟩) (fun k => Or.inr (Or.inr ⟨rfl, inR_lit3, sp_Mo_burden M F h1 h2 h3 h4 (fun q => absurd ⟨u1, u2⟩ q) (fun _ _ q => absurd ⟨by omega, by omega⟩ q) (fun _ _ _ _ => fin_e (by decide) (ms_i0 S 3) (er 3)) (fun _ _ _ _ _ _ _ q => absurd q k) (fun _ _ _ _ _ _ _ q => absurd q k)⟩))⟩) (fun k => Or.inr (Or.inl ⟨rfl, inR_lit2, sp_Mo_burden M F h1 h2 h3 h4 (fun q => absurd ⟨u1, u2⟩ q) (fun _ _ _ => fin_e (by decide) (ms_i0 S 2) (er 2)) (fun _ _ q => absurd q k) (fun _ _ l e l1 l2 => absurd ⟨by omega, by omega⟩ k) (fun _ _ l e l1 l2 => absurd ⟨by omega, by omega⟩ k)⟩))⟩) (fun k => Or.inl ⟨rfl, inR_lit1, sp_Mo_burden M F h1 h2 h3 h4 (fun _ => fin_e (by decide) (ms_i0 S 1) (er 1)) (fun q1 q2 => absurd ⟨q1, q2⟩ k) (fun q1 q2 => absurd ⟨q1, q2⟩ k) (fun q1 q2 => absurd ⟨q1, q2⟩ k) (fun q1 q2 => absurd ⟨q1, q2⟩ k)⟩)⟩
  subst e
  refine sp_B_isInBeing B w l1 l2 h3 h4 (fun kb => ⟨inR_lit1, fun _ => ⟨R.1 25 0 + 2, ?_⟩, fun q => absurd q (by decide)⟩) (fun kb => ⟨inR_lit0, fun q => absurd rfl q, fun _ => ⟨by unfold inR; omega, inR_lit0, sp_Mo_burden M F h1 h2 h3 h4 (fun q => absurd ⟨u1, u2⟩ q) (fun _ _ q => absurd ⟨by omega, by omega⟩ q) (fun _ _ _ q => absurd ⟨k, kp⟩ q) (fun _ _ l' e' _ _ _ _ q => fin_r (by unfold inR; omega) rfl (ms_i0 S 0) (er 0)) (fun _ _ l' e' _ _ _ _ q => ?_)⟩⟩)
  · have fin : ∀ r : Nat, nthOK (fBurd R l a3 a4) (R.1 25 0) a2 r → inR (r : Int) ∧ inR 0 ∧ wp_Mo_burden (fun b S1 => inR b ∧ S1.1 0 = 0 ∧ ((0 : Int) = 0 → vp_updL f 0 (lI (r : Int)) 0 = lI b) ∧ LInv qs (j + 1) (c + 1000) (n + 14000) T S1) (l : Int) a2 a3 a4 S := by
      intro r hr
      have rb : r ≤ 300 := by rcases hr with q | q <;> omega
      exact ⟨by unfold inR; omega, inR_lit0, sp_Mo_burden M F h1 h2 h3 h4 (fun q => absurd ⟨u1, u2⟩ q) (fun _ _ q => absurd ⟨by omega, by omega⟩ q) (fun _ _ _ q => absurd ⟨k, kp⟩ q) (fun _ _ l' e' _ _ _ _ q => by
        have z : l' = l := by omega
        subst z; exact absurd kb q) (fun _ _ l' e' _ _ _ _ q r' S' g' hr' => by
        have z : l' = l := by omega
        subst z
        exact fin_r (by unfold inR; omega) (by rw [nthOK_uniq hr' hr]) (by rw [g'.1 0 (by omega)]; exact ms_i0 S 0) (inv (Tx_refl _ _) (n20_refl _) (mfr_trans (mfr_i0 S 0) g'.fr)))⟩
    have lp : ∀ (n' x : Nat), R.1 25 0 + 1 - x < n' → 1 ≤ x → x ≤ R.1 25 0 + 1 → (∀ r', 1 ≤ r' → r' < x → fBurd R l a3 a4 r' = true → ((cntN (fun k => fBurd R l a3 a4 (k + 1)) (r' - 1) : Nat) : Int) ≠ a2) → wp_BLB_burden_41 (fun r T1 => inR r ∧ inR 0 ∧ wp_Mo_burden (fun b S1 => inR b ∧ S1.1 0 = 0 ∧ ((0 : Int) = 0 → vp_updL f 0 (lI r) 0 = lI b) ∧ LInv qs (j + 1) (c + 1000) (n + 14000) T1 S1) (l : Int) a2 a3 a4 S) (fun cls T1 => (cls = "java/lang/IllegalStateException" ∧ inR 1 ∧ wp_Mo_burden (fun b S1 => inR b ∧ S1.1 0 = 1 ∧ ((1 : Int) = 0 → f 0 = lI b) ∧ LInv qs (j + 1) (c + 1000) (n + 14000) T1 S1) (l : Int) a2 a3 a4 S) ∨ (cls = "java/lang/IndexOutOfBoundsException" ∧ inR 2 ∧ wp_Mo_burden (fun b S1 => inR b ∧ S1.1 0 = 2 ∧ ((2 : Int) = 0 → f 0 = lI b) ∧ LInv qs (j + 1) (c + 1000) (n + 14000) T1 S1) (l : Int) a2 a3 a4 S) ∨ (cls = "java/lang/IllegalArgumentException" ∧ inR 3 ∧ wp_Mo_burden (fun b S1 => inR b ∧ S1.1 0 = 3 ∧ ((3 : Int) = 0 → f 0 = lI b) ∧ LInv qs (j + 1) (c + 1000) (n + 14000) T1 S1) (l : Int) a2 a3 a4 S)) n' 995 13970 (qa qs 0) (l : Int) a2 a3 a4 ((cntN (fun k => fBurd R l a3 a4 (k + 1)) (x - 1) : Nat) : Int) (x : Int) T := by
      intro n'
      induction n' with
      | zero => intro x hm; omega
      | succ n' ih =>
        intro x hm x1 x2 I
        have cb := cntN_le (fun k => fBurd R l a3 a4 (k + 1)) (x - 1)
        have step := cntN_s (f := fBurd R l a3 a4) x1
        unfold wp_BLB_burden_41
        refine ⟨t0, qa qs 22, r4, t22, sp_B_easementCount B ⟨by unfold inR; omega, by unfold inR; omega, fun c2 => fin 0 (nthOK_none (k := x) (by omega) I), fun c2 => ?_⟩⟩
        have xl : x ≤ R.1 25 0 := by omega
        refine ⟨t0, qa qs 22, r4, t22, sp_B_isBurdened B w l1 l2 x1 xl h3 h4 (fun k2 k3 => ⟨inR_lit1, fun q => absurd q (by decide), fun _ => ?_⟩) (fun k2 => ⟨inR_lit0, fun _ => ?_, fun q => absurd rfl q⟩)⟩
        · have fx : fBurd R l a3 a4 x = true := pB_iff.mpr ⟨k2, k3⟩
          refine ⟨by unfold inR; omega, h2, fun c5 => ?_, fun c5 => fin x (Or.inl ⟨x1, xl, fx, c5⟩)⟩
          rw [fx] at step
          have := ih (x + 1) (by omega) (by omega) (by omega) (fun r' a b f => by
            by_cases q : r' = x
            · rw [q]; exact c5
            · exact I r' a (by omega) f)
          rw [show x + 1 - 1 = x by omega, step] at this
          unfold wp_BLB_burden_81
          rw [show (x : Int) + 1 = ((x + 1 : Nat) : Int) by omega]
          exact this
        · have fx : fBurd R l a3 a4 x = false := pB_f.mpr k2
          rw [fx] at step
          have := ih (x + 1) (by omega) (by omega) (by omega) (fun r' a b f => by
            by_cases q : r' = x
            · rw [q, fx] at f; exact absurd f (by decide)
            · exact I r' a (by omega) f)
          rw [show x + 1 - 1 = x by omega, step] at this
          unfold wp_BLB_burden_81
          rw [show (x : Int) + 1 = ((x + 1 : Nat) : Int) by omega]
          exact this
    exact lp _ 1 (by omega) (by omega) (by omega) (fun r' a b => by omega)
  · have z : l' = l := by omega
    subst z; exact absurd q kb
theorem op_lotAt (hq : qs.Nodup) (hl : qs.length = 30) {j c n : Nat} {T : CS} {S : MS} {f : Nat → Int64} {a1 a2 a3 a4 a5 a6 : Int} (hj : j < 512) (h : LInv qs j c n T S) (h1 : inR a1) (h2 : inR a2) (h3 : inR a3) (h4 : inR a4) (h5 : inR a5) (h6 : inR a6) : st_lotAt (LInv qs (j + 1)) (qa qs 0) f c n a1 a2 a3 a4 a5 a6 T S := by
  obtain ⟨hc, ad, R, hS, hw, hz⟩ := h
  have B := hS.1
  have M := hS.2.1
  have F := hS.2.2.2.1
  have w := F.r
  have W := w.1
  have t0 : tg T (qa qs 0) = 1 := B.1.tag (by omega) rfl
  have r4 : fo T (qa qs 0) 4 = some (qa qs 22) := B.1.ref (i := 0) (j := 4) (z := 22) (by omega) rfl (by omega)
  have r5 : fo T (qa qs 0) 5 = some (qa qs 28) := B.1.ref (i := 0) (j := 5) (z := 28) (by omega) rfl (by omega)
  have t22 : tg T (qa qs 22) = 5 := B.1.tag (by omega) rfl
  have t28 : tg T (qa qs 28) = 6 := B.1.tag (by omega) rfl
  have inv : ∀ {T1 : CS} {S1 : MS}, Tx (scr qs) T T1 → n20 T T1 → mfr S S1 → LInv qs (j + 1) (c + 1000) (n + 14000) T1 S1 := fun g g2 m => inv_q hq hl hS hc hw hz g g2 m
  have er : ∀ v : Int, LInv qs (j + 1) (c + 1000) (n + 14000) T (ms_i S 0 v) := fun v => inv (Tx_refl _ _) (n20_refl _) (mfr_i0 S v)
  unfold st_lotAt hx_lotAt
  refine ⟨1000, 14000, ⟨by omega, by omega⟩, t0, ?_⟩
  unfold wp_BLB_lotAt
  refine ⟨1, 6, 999, 13994, ⟨by omega, by omega⟩, t0, sp_B_up B w ⟨by omega, by omega⟩ (fun u1 u2 => ⟨1, 6, 998, 13988, ⟨by omega, by omega⟩, sp_B_ckPoint h1 h2 ⟨by omega, by omega⟩ (fun kp => ⟨2, 12, 996, 13976, ⟨by omega, by omega⟩, sp_B_ckAsOf h3 h4 ⟨by omega, by omega⟩ (fun k => ⟨R.1 7 0 + 2, ?_⟩) (fun k => Or.inr ⟨rfl, inR_lit2, sp_Mo_lotAt M w h1 h2 h3 h4 (fun q => absurd ⟨u1, u2⟩ q) (fun _ _ _ => fin_e (by decide) (ms_i0 S 2) (er 2)) (fun _ _ _ q => absurd q k)⟩)⟩) (fun k => Or.inr ⟨rfl, inR_lit2, sp_Mo_lotAt M w h1 h2 h3 h4 (fun q => absurd ⟨u1, u2⟩ q) (fun _ _ _ => fin_e (by decide) (ms_i0 S 2) (er 2)) (fun _ _ q => absurd q k)⟩)⟩) (fun k => Or.inl ⟨rfl, inR_lit1, sp_Mo_lotAt M w h1 h2 h3 h4 (fun _ => fin_e (by decide) (ms_i0 S 1) (er 1)) (fun q1 q2 => absurd ⟨q1, q2⟩ k) (fun q1 q2 => absurd ⟨q1, q2⟩ k)⟩)⟩
  have fin : ∀ r : Nat, fstOK (fAt R (a1, a2) a3 a4) (R.1 7 0) r → inR (r : Int) ∧ inR 0 ∧ wp_Mo_lotAt (fun b S1 => inR b ∧ S1.1 0 = 0 ∧ ((0 : Int) = 0 → vp_updL f 0 (lI (r : Int)) 0 = lI b) ∧ LInv qs (j + 1) (c + 1000) (n + 14000) T S1) a1 a2 a3 a4 S := by
    intro r hr
    have rb : r ≤ 300 := by rcases hr with q | q <;> omega
    exact ⟨by unfold inR; omega, inR_lit0, sp_Mo_lotAt M w h1 h2 h3 h4 (fun q => absurd ⟨u1, u2⟩ q) (fun _ _ q => absurd ⟨kp, k⟩ q) (fun _ _ _ _ r' hr' => fin_r (by unfold inR; omega) (by rw [fstOK_uniq hr' hr]) (ms_i0 S 0) (er 0))⟩
  have ad2 := ok_add kp kp
  have lp : ∀ (n' l : Nat), R.1 7 0 + 1 - l < n' → 1 ≤ l → l ≤ R.1 7 0 + 1 → (∀ r', 1 ≤ r' → r' < l → fAt R (a1, a2) a3 a4 r' = false) → wp_BLB_lotAt_18 (fun r T1 => inR r ∧ inR 0 ∧ wp_Mo_lotAt (fun b S1 => inR b ∧ S1.1 0 = 0 ∧ ((0 : Int) = 0 → vp_updL f 0 (lI r) 0 = lI b) ∧ LInv qs (j + 1) (c + 1000) (n + 14000) T1 S1) a1 a2 a3 a4 S) (fun cls T1 => (cls = "java/lang/IllegalStateException" ∧ inR 1 ∧ wp_Mo_lotAt (fun b S1 => inR b ∧ S1.1 0 = 1 ∧ ((1 : Int) = 0 → f 0 = lI b) ∧ LInv qs (j + 1) (c + 1000) (n + 14000) T1 S1) a1 a2 a3 a4 S) ∨ (cls = "java/lang/IllegalArgumentException" ∧ inR 2 ∧ wp_Mo_lotAt (fun b S1 => inR b ∧ S1.1 0 = 2 ∧ ((2 : Int) = 0 → f 0 = lI b) ∧ LInv qs (j + 1) (c + 1000) (n + 14000) T1 S1) a1 a2 a3 a4 S)) n' 996 13976 (qa qs 0) a1 a2 a3 a4 (l : Int) T := by
    intro n'
    induction n' with
    | zero => intro l hm; omega
    | succ n' ih =>
      intro l hm l1 l2 I
      unfold wp_BLB_lotAt_18
      refine ⟨t0, qa qs 22, r4, t22, sp_B_lotCount B ⟨by unfold inR; omega, by unfold inR; omega, fun c2 => fin 0 (Or.inr ⟨rfl, fun r' a b => I r' a (by omega)⟩), fun c2 => ⟨t0, qa qs 22, r4, t22, ?_⟩⟩⟩
      have ll : l ≤ R.1 7 0 := by omega
      have la := B.lta l1 ll
      have rg := w.rg l1 ll
      have no : fAt R (a1, a2) a3 a4 l = false → wp_BLB_lotAt_73 (fun r T1 => inR r ∧ inR 0 ∧ wp_Mo_lotAt (fun b S1 => inR b ∧ S1.1 0 = 0 ∧ ((0 : Int) = 0 → vp_updL f 0 (lI r) 0 = lI b) ∧ LInv qs (j + 1) (c + 1000) (n + 14000) T1 S1) a1 a2 a3 a4 S) (fun cls T1 => (cls = "java/lang/IllegalStateException" ∧ inR 1 ∧ wp_Mo_lotAt (fun b S1 => inR b ∧ S1.1 0 = 1 ∧ ((1 : Int) = 0 → f 0 = lI b) ∧ LInv qs (j + 1) (c + 1000) (n + 14000) T1 S1) a1 a2 a3 a4 S) ∨ (cls = "java/lang/IllegalArgumentException" ∧ inR 2 ∧ wp_Mo_lotAt (fun b S1 => inR b ∧ S1.1 0 = 2 ∧ ((2 : Int) = 0 → f 0 = lI b) ∧ LInv qs (j + 1) (c + 1000) (n + 14000) T1 S1) a1 a2 a3 a4 S)) (wp_BLB_lotAt_18 (fun r T1 => inR r ∧ inR 0 ∧ wp_Mo_lotAt (fun b S1 => inR b ∧ S1.1 0 = 0 ∧ ((0 : Int) = 0 → vp_updL f 0 (lI r) 0 = lI b) ∧ LInv qs (j + 1) (c + 1000) (n + 14000) T1 S1) a1 a2 a3 a4 S) (fun cls T1 => (cls = "java/lang/IllegalStateException" ∧ inR 1 ∧ wp_Mo_lotAt (fun b S1 => inR b ∧ S1.1 0 = 1 ∧ ((1 : Int) = 0 → f 0 = lI b) ∧ LInv qs (j + 1) (c + 1000) (n + 14000) T1 S1) a1 a2 a3 a4 S) ∨ (cls = "java/lang/IllegalArgumentException" ∧ inR 2 ∧ wp_Mo_lotAt (fun b S1 => inR b ∧ S1.1 0 = 2 ∧ ((2 : Int) = 0 → f 0 = lI b) ∧ LInv qs (j + 1) (c + 1000) (n + 14000) T1 S1) a1 a2 a3 a4 S)) n') 996 13976 (qa qs 0) a1 a2 a3 a4 (l : Int) T := by
        intro fx
        unfold wp_BLB_lotAt_73
        rw [show (l : Int) + 1 = ((l + 1 : Nat) : Int) by omega]
        refine ih (l + 1) (by omega) (by omega) (by omega) (fun r' a b => ?_)
        by_cases q : r' = l
        · rw [q]; exact fx
        · exact I r' a (by omega)
      have yes : fAt R (a1, a2) a3 a4 l = true → inR (l : Int) ∧ inR 0 ∧ wp_Mo_lotAt (fun b S1 => inR b ∧ S1.1 0 = 0 ∧ ((0 : Int) = 0 → vp_updL f 0 (lI (l : Int)) 0 = lI b) ∧ LInv qs (j + 1) (c + 1000) (n + 14000) T S1) a1 a2 a3 a4 S := fun fx => fin l (Or.inl ⟨l1, ll, fx, I⟩)
      refine sp_B_isInBeing B w l1 ll h3 h4 (fun k3 => ⟨inR_lit1, fun q => absurd q (by decide), fun _ => ⟨t0, qa qs 22, r4, t22, sp_B_lot B l1 ll ⟨B.lt9 l1 ll, ad 4 l, la.1, ?_⟩⟩⟩) (fun k3 => ⟨inR_lit0, fun _ => no (pB_f.mpr (fun q => k3 q.1)), fun q => absurd rfl q⟩)
      have e1 : 2 * a1 = (ig_add (a1, a2) (a1, a2)).1 := by show 2 * a1 = a1 + a1; omega
      have e2 : 2 * a2 = (ig_add (a1, a2) (a1, a2)).2 := by show 2 * a2 = a2 + a2; omega
      rw [e1, e2]
      exact sp_B_where la.2.1 rg.ne rg.1 ad2 (fun ko => ⟨inR_lit0, fun q => absurd q (by decide), fun _ => yes (pB_iff.mpr ⟨k3, Or.inl ko⟩)⟩) (fun ki => ⟨inR_lit1, fun q => absurd q (by decide), fun _ => yes (pB_iff.mpr ⟨k3, Or.inr ki⟩)⟩) (fun ko ki => ⟨by unfold inR; omega, fun _ => no (pB_f.mpr (fun q => q.2.elim ko ki)), fun q => absurd rfl q⟩)
  exact lp _ 1 (by omega) (by omega) (by omega) (fun r' a b => by omega)
end OPE
