/-! calls: release -/
section OPH
variable {qs : List Nat}
abbrev rlL (R : AR) (e : Nat) (y : Int) : Prop := ∃ x, (1 ≤ x ∧ x ≤ R.1 7 0) ∧ aBu R e x y (R.1 15 0) ∧ aLate R x y
abbrev rlRf (R : AR) (e : Nat) (y v : Int) : Prop := Rf (¬ aS R e y (R.1 15 0)) (rlL R e y) False (aMuch R 0 0 5 0) v
abbrev rlR (R : AR) (e : Nat) (y : Int) (nm : List Nat) : AR := rN (rEnt R 5 y.toNat e 0 0 0 (R.1 7 0) (R.1 25 0) (R.1 30 0 + (wrec (dbody 5 y.toNat (R.1 15 0 + 1) e 0 0 0 (aRow R))).length) nm (dbody 5 y.toNat (R.1 15 0 + 1) e 0 0 0 (aRow R))) [(27, e, R.1 15 0 + 1)]
theorem set_rel {R : AR} {kd dy a b c p x y z e v : Nat} {nm : List Nat} {body : List Int} (f i : Nat) : (rN (rEnt R kd dy a b c p (R.1 7 0) (R.1 25 0) (R.1 30 0 + (wrec body).length) nm body) [(27, e, v)]).1 f i = (rSet (rN (rEnt R kd dy a b c p x y z nm body) [(27, e, v)])).1 f i := by
  have e15 : (rN (rEnt R kd dy a b c p x y z nm body) [(27, e, v)]).1 15 0 = R.1 15 0 + 1 := by rw [rN_o (by omega)]; exact rEnt_15
  have e7 : (rN (rEnt R kd dy a b c p x y z nm body) [(27, e, v)]).1 7 0 = R.1 7 0 := by rw [rN_o (by omega)]; exact rEnt_o (by omega)
  have e25 : (rN (rEnt R kd dy a b c p x y z nm body) [(27, e, v)]).1 25 0 = R.1 25 0 := by rw [rN_o (by omega)]; exact rEnt_o (by omega)
  have e30 : (rN (rEnt R kd dy a b c p x y z nm body) [(27, e, v)]).1 30 0 = R.1 30 0 + (wrec body).length := by rw [rN_o (by omega)]; exact rEnt_30
  obtain ⟨_, _, _, _, _, _, q7, q8, q9⟩ := rEnt_d (R := R) (kd := kd) (dy := dy) (a := a) (b := b) (c := c) (p := p) (x := R.1 7 0) (y := R.1 25 0) (z := R.1 30 0 + (wrec body).length) (nm := nm) (body := body)
  rw [rSet_n, e15, e7, e25, e30]
  by_cases k24 : f = 24 ∧ i = R.1 15 0 + 1
  · rw [if_pos k24, k24.1, k24.2, rN_o (by omega)]; exact q9
  · rw [if_neg k24]
    by_cases k23 : f = 23 ∧ i = R.1 15 0 + 1
    · rw [if_pos k23, k23.1, k23.2, rN_o (by omega)]; exact q8
    · rw [if_neg k23]
      by_cases k22 : f = 22 ∧ i = R.1 15 0 + 1
      · rw [if_pos k22, k22.1, k22.2, rN_o (by omega)]; exact q7
      · rw [if_neg k22, rN1, rN1, rEnt_xyz (x' := x) (y' := y) (z' := z) (by omega)]
theorem sp_Mo_release {S : MS} {R : AR} {post : Int → MS → Prop} (h : MD S R) (hg : MG S) (F : WF R) {a1 a2 : Int} (h1 : inR a1) (h2 : inR a2) (p1 : ¬ (1 ≤ R.1 7 0 ∧ R.1 2 0 = 0) → post 0 (ms_i S 0 1)) (p2 : 1 ≤ R.1 7 0 → R.1 2 0 = 0 → ¬ (1 ≤ a1 ∧ a1 ≤ (R.1 25 0 : Int)) → post 0 (ms_i S 0 2)) (p3 : 1 ≤ R.1 7 0 → R.1 2 0 = 0 → (1 ≤ a1 ∧ a1 ≤ (R.1 25 0 : Int)) → ¬ (0 ≤ a2 ∧ a2 ≤ 30000) → post 0 (ms_i S 0 3))
    (pr : 1 ≤ R.1 7 0 → R.1 2 0 = 0 → ∀ e : Nat, a1 = e → 1 ≤ e → e ≤ R.1 25 0 → (0 ≤ a2 ∧ a2 ≤ 30000) → ∀ v S', mfz (ms_i S 0 0) S' → rlRf R e a2 v → post v S')
    (p0 : 1 ≤ R.1 7 0 → R.1 2 0 = 0 → ∀ e : Nat, a1 = e → 1 ≤ e → e ≤ R.1 25 0 → (0 ≤ a2 ∧ a2 ≤ 30000) → aS R e a2 (R.1 15 0) → ¬ rlL R e a2 → ¬ aMuch R 0 0 5 0 → ∀ S', S'.1 0 = 0 → MG S' → (∀ nm, MD S' (rlR R e a2 nm)) → post ((R.1 15 0 + 1 : Nat) : Int) S') : wp_Mo_release post a1 a2 S := by
  have w := F.r
  have W := w.1
  have ex : ∀ v : Int, 0 < v → v ≤ 3 → post 0 (ms_i S 0 v) → wp_Mo_release_41 post a1 a2 v S := by
    intro v v0 v3 hp S1 y1
    rw [y1, ms_i0]
    exact ⟨by unfold inR; omega, fun f => by omega, fun _ => hp⟩
  unfold wp_Mo_release
  refine sp_Mo_isUp h w (fun u1 u2 => ⟨inR_lit1, fun _ => ⟨h1, fun k => ex 2 (by omega) (by omega) (p2 u1 u2 (by omega)), fun k => ⟨h1, by rw [h.ne]; unfold inR; omega, fun k2 => sp_Mo_isDay h2 (fun kd => ⟨inR_lit1, fun _ => ?_, fun f => absurd f (by decide)⟩) (fun kd => ⟨inR_lit0, fun f => absurd rfl f, fun _ => ex 3 (by omega) (by omega) (p3 u1 u2 (by rw [h.ne] at k2; omega) kd)⟩), fun k2 => ex 2 (by omega) (by omega) (p2 u1 u2 (by rw [h.ne] at k2; omega))⟩⟩, fun f => absurd f (by decide)⟩) (fun k => ⟨inR_lit0, fun f => absurd rfl f, fun _ => ex 1 (by omega) (by omega) (p1 k)⟩)
  rw [h.ne] at k2
  obtain ⟨e, ee⟩ : ∃ e : Nat, a1 = e := ⟨a1.toNat, by omega⟩
  have e1 : 1 ≤ e := by omega
  have e2 : e ≤ R.1 25 0 := by omega
  have prr := pr u1 u2 e ee e1 e2 kd
  have p00 := p0 u1 u2 e ee e1 e2 kd
  intro S1 y1
  rw [y1, ms_i0]
  have M1 : MD (ms_i S 0 0) R := h.fr (mfr_i0 S 0)
  refine ⟨inR_lit0, fun _ => ?_, fun f => absurd (Int.le_refl 0) f⟩
  rw [M1.nd, ee]
  refine sp_Mo_stands M1 w e1 e2 h2 (by unfold inR; omega) (fun ks => ⟨inR_lit1, fun _ => ?_, fun f => absurd f (by decide)⟩) (fun ks => ⟨inR_lit0, fun f => absurd rfl f, fun _ => prr _ _ (mfz_refl _) (Or.inl ⟨rfl, ks⟩)⟩)
  have k123 : ∀ (g : Bool) (S5 : MS), mfz (ms_i S 0 0) S5 → (g = true ↔ rlL R e a2) → wp_Mo_release_123 post e a2 (bI g) S5 := by
    intro g S5 g5 hg5
    have M5 := M1.fz g5
    have G5 : MG S5 := (hg.e2 (S' := ms_i S 0 0) rfl).fr g5.fr
    have z5 : S5.1 0 = 0 := by rw [g5.1 0 (by omega)]; exact ms_i0 S 0
    unfold wp_Mo_release_123
    refine ⟨bI_in g, fun q => ?_, fun q => prr _ _ g5 (Or.inr (Or.inl ⟨rfl, fun f => f ks, hg5.mp (bI_ne.mp q)⟩))⟩
    have nlt : ¬ rlL R e a2 := fun f => by rw [bI_0, hg5.mpr f] at q; exact absurd q (by decide)
    refine sp_Mo_isMuch (ml := 0) (me := 0) (kd := 5) (n := 0) M5 w (by omega) (by omega) (by omega) (by omega) (fun ku => ⟨inR_lit1, fun f => absurd f (by decide), fun _ => prr _ _ g5 (Or.inr (Or.inr (Or.inr ⟨rfl, fun f => f ks, nlt, fun f => f, ku⟩)))⟩) (fun ku => ⟨inR_lit0, fun _ => ?_, fun f => absurd rfl f⟩)
    have ku' := ku
    unfold aMuch at ku'
    have bo := dbody_ok (kd := 5) (dy := a2.toNat) (a := e) (b := 0) (c := 0) (p := 0) (row := aRow R) (en := R.1 15 0 + 1) (by omega) (by omega) (by omega) (by omega) (by omega) (by omega) (by omega) w.2.1
    have r6 : rsz 5 0 = 5 := rfl
    have r6' : rsz 5 (aRow R).length = 5 := rfl
    have acc := sp_Mo_accept (post := fun r_4 S_3 => ixR (e : Int) 202 ∧ (∀ S_5 : MS, S_5 = ms_a S_3 27 (e : Int) r_4 → wp_Mo_settle (fun S_6 => post r_4 S_6) S_5)) (kd := 5) (dy := a2.toNat) (a := e) (b := 0) (c := 0) (p := 0) M5 w G5 (by omega) (by omega) (by omega) (by omega) (by omega) (by omega) (by omega) (fun S9 x y z m9 g9 _ e9 => ?_)
    · rw [show ((a2.toNat : Nat) : Int) = a2 by omega] at acc
      exact acc
    have w9 := fun nm => WR_ent (R := R) (kd := 5) (dy := a2.toNat) (a := e) (b := 0) (c := 0) (p := 0) (x := x) (y := y) (z := z) (nm := nm) (body := dbody 5 a2.toNat (R.1 15 0 + 1) e 0 0 0 (aRow R)) w (by omega) (by omega) (by omega) (by omega) (by omega) (by omega) (by omega) (fun f => ⟨e1, e2⟩) (by rw [bo.2.1, r6']; omega) bo.1.2.1 bo.1.1.2
    refine ⟨⟨by omega, by omega⟩, fun S5' y5' => ?_⟩
    have m5 : MD S5' (rN (rEnt R 5 a2.toNat e 0 0 0 x y z [] (dbody 5 a2.toNat (R.1 15 0 + 1) e 0 0 0 (aRow R))) [(27, e, R.1 15 0 + 1)]) := by
      rw [y5']
      exact MD.wr (R := rEnt R 5 a2.toNat e 0 0 0 x y z [] (dbody 5 a2.toNat (R.1 15 0 + 1) e 0 0 0 (aRow R))) m9 (by omega)
    have g5' : MG S5' := by rw [y5']; exact g9.wr (by omega)
    refine sp_Mo_settle m5 (WR_rel (w9 []) (by rw [rEnt_15]; exact Nat.le_refl _)) g5' (fun S' s1 s2 s3 => p00 ks nlt ku S' ?_ s2 (fun nm => ?_))
    · rw [s3, y5']; show S9.1 0 = 0; rw [e9]; exact z5
    · exact s1.cgn (fun f i => set_rel (nm := []) f i) rfl rfl rfl
  have lp : ∀ (n l : Nat) (g : Bool) (S5 : MS), mfz (ms_i S 0 0) S5 → R.1 7 0 + 1 - l < n → 1 ≤ l → l ≤ R.1 7 0 + 1 → (g = true ↔ ∃ x, (1 ≤ x ∧ x < l) ∧ aBu R e x a2 (R.1 15 0) ∧ aLate R x a2) → wp_Mo_release_73 post n e a2 (bI g) l S5 := by
    intro n
    induction n with
    | zero => intro l g S5 g5 hm; omega
    | succ n ih =>
      intro l g S5 g5 hm l1 l2 hgl
      have M5 := M1.fz g5
      unfold wp_Mo_release_73
      rw [M5.nl, M5.nd]
      refine ⟨by unfold inR; clear hgl; omega, by unfold inR; clear hgl; omega, fun c => k123 g S5 g5 ?_, fun c => ⟨bI_in g, fun q => k123 g S5 g5 ?_, fun q => ?_⟩⟩
      · rw [hgl]
        constructor
        · rintro ⟨x, q1, q2⟩; exact ⟨x, ⟨q1.1, by clear hgl; omega⟩, q2⟩
        · rintro ⟨x, q1, q2⟩; exact ⟨x, ⟨q1.1, by clear hgl; omega⟩, q2⟩
      · have gt := bI_ne.mp q
        refine ⟨fun _ => ?_, fun _ => gt⟩
        obtain ⟨x, q1, q2⟩ := hgl.mp gt
        exact ⟨x, ⟨q1.1, by clear hgl; omega⟩, q2⟩
      · have gf : g = false := bI_0.mp q
        have ll : l ≤ R.1 7 0 := by clear hgl; omega
        have nn : ¬ ∃ x, (1 ≤ x ∧ x < l) ∧ aBu R e x a2 (R.1 15 0) ∧ aLate R x a2 := fun f => by rw [gf] at hgl; exact absurd (hgl.mpr f) (by decide)
        have go : ∀ (g' : Bool) S6, mfz (ms_i S 0 0) S6 → (g' = true ↔ aBu R e l a2 (R.1 15 0) ∧ aLate R l a2) → wp_Mo_release_116 post (wp_Mo_release_73 post n) e a2 l (bI g') S6 := by
          intro g' S6 g6 hg'
          unfold wp_Mo_release_116
          rw [show (l : Int) + 1 = ((l + 1 : Nat) : Int) by omega]
          refine ih (l + 1) g' S6 g6 (by clear hgl; omega) (by clear hgl; omega) (by clear hgl; omega) ?_
          rw [hg']
          constructor
          · intro f; exact ⟨l, ⟨l1, by clear hgl; omega⟩, f⟩
          · rintro ⟨x, q1, q2⟩
            by_cases cx : x = l
            · rw [cx] at q2; exact q2
            · exact absurd ⟨x, ⟨q1.1, by clear hgl; omega⟩, q2⟩ nn
        refine sz_Mo_burdens M5 w F.i e1 e2 l1 ll h2 (by unfold inR; clear hgl; omega) (fun S6 g6 kb => ⟨inR_lit1, fun f => absurd f (by decide), fun _ => ?_⟩) (fun S6 g6 kb => ⟨inR_lit0, fun _ => go false S6 (mfz_trans g5 g6) ⟨fun f => absurd f (by decide), fun f => absurd f.1 kb⟩, fun f => absurd rfl f⟩)
        exact sz_Mo_isLate (M5.fz g6) w F.i F.n l1 ll h2 (fun S7 g7 kl => ⟨inR_lit1, fun f => absurd f (by decide), fun _ => go true S7 (mfz_trans g5 (mfz_trans g6 g7)) ⟨fun _ => ⟨kb, kl⟩, fun _ => rfl⟩⟩) (fun S7 g7 kl => ⟨inR_lit0, fun _ => go false S7 (mfz_trans g5 (mfz_trans g6 g7)) ⟨fun f => absurd f (by decide), fun f => absurd f.2 kl⟩, fun f => absurd rfl f⟩)
  exact ⟨R.1 7 0 + 2, lp _ 1 false _ (mfz_refl _) (by omega) (by omega) (by omega) ⟨fun f => absurd f (by decide), fun ⟨x, q1, _⟩ => by omega⟩⟩
theorem op_release (hq : qs.Nodup) (hl : qs.length = 30) {j c n : Nat} {T : CS} {S : MS} {f : Nat → Int64} {a1 a2 a3 a4 a5 a6 : Int} (hj : j < 512) (h : LInv qs j c n T S) (h1 : inR a1) (h2 : inR a2) (h3 : inR a3) (h4 : inR a4) (h5 : inR a5) (h6 : inR a6) : st_release (LInv qs (j + 1)) (qa qs 0) f c n a1 a2 a3 a4 a5 a6 T S := by
  obtain ⟨hc, ad, R, hS, hw, hz⟩ := h
  have B := hS.1
  have M := hS.2.1
  have F := hS.2.2.2.1
  have w := F.r
  have W := w.1
  have t0 : tg T (qa qs 0) = 1 := B.1.tag (by omega) rfl
  have r4 : fo T (qa qs 0) 4 = some (qa qs 22) := B.1.ref (i := 0) (j := 4) (z := 22) (by omega) rfl (by omega)
  have r5 : fo T (qa qs 0) 5 = some (qa qs 28) := B.1.ref (i := 0) (j := 5) (z := 28) (by omega) rfl (by omega)
  have t22 : tg T (qa qs 22) = 5 := B.1.tag (by omega) rfl
  have t28 : tg T (qa qs 28) = 6 := B.1.tag (by omega) rfl
  have inv : ∀ {T1 : CS} {S1 : MS}, Tx (scr qs) T T1 → n20 T T1 → mfr S S1 → LInv qs (j + 1) (c + 1000) (n + 14000) T1 S1 := fun g g2 m => inv_q hq hl hS hc hw hz g g2 m
  have er : ∀ v : Int, LInv qs (j + 1) (c + 1000) (n + 14000) T (ms_i S 0 v) := fun v => inv (Tx_refl _ _) (n20_refl _) (mfr_i0 S v)
  have hg := hS.2.2.1
  have he := hS.2.2.2.2.1
  have hb := hS.2.2.2.2.2.1
  have h7 := hS.2.2.2.2.2.2
  have sc : ∀ {U V : CS}, Tx (fun _ => False) U V → Tx (scr qs) U V := fun g => Tx_mono g (fun a f => f.elim)
  have t9 : tg T (ad 9 0) = 11 := B.lgA.2.2.2.1
  unfold st_release hx_release
  refine ⟨1000, 14000, ⟨by omega, by omega⟩, t0, ?_⟩
  have E1 : ∀ {f1 : Nat → Int64} {T1 : CS}, T1 = T → ¬ (1 ≤ R.1 7 0 ∧ R.1 2 0 = 0) → wp_Mo_release (fun b S1 => inR b ∧ S1.1 0 = 1 ∧ ((1 : Int) = 0 → f1 0 = lI b) ∧ LInv qs (j + 1) (c + 1000) (n + 14000) T1 S1) a1 a2 S := fun eT k => by
    subst eT
    exact sp_Mo_release M hg F h1 h2 (fun _ => fin_e (by decide) (ms_i0 S 1) (er 1)) (fun q1 q2 => absurd ⟨q1, q2⟩ k) (fun q1 q2 => absurd ⟨q1, q2⟩ k) (fun q1 q2 => absurd ⟨q1, q2⟩ k) (fun q1 q2 => absurd ⟨q1, q2⟩ k)
  have E2 : ∀ {f1 : Nat → Int64} {T1 : CS}, T1 = T → 1 ≤ R.1 7 0 → R.1 2 0 = 0 → ¬ (1 ≤ a1 ∧ a1 ≤ (R.1 25 0 : Int)) → wp_Mo_release (fun b S1 => inR b ∧ S1.1 0 = 2 ∧ ((2 : Int) = 0 → f1 0 = lI b) ∧ LInv qs (j + 1) (c + 1000) (n + 14000) T1 S1) a1 a2 S := fun eT u1 u2 k => by
    subst eT
    exact sp_Mo_release M hg F h1 h2 (fun q => absurd ⟨u1, u2⟩ q) (fun _ _ _ => fin_e (by decide) (ms_i0 S 2) (er 2)) (fun _ _ q => absurd q k) (fun _ _ e ee e1 e2 => absurd ⟨by omega, by omega⟩ k) (fun _ _ e ee e1 e2 => absurd ⟨by omega, by omega⟩ k)
  have E3 : ∀ {f1 : Nat → Int64} {T1 : CS}, T1 = T → 1 ≤ R.1 7 0 → R.1 2 0 = 0 → (1 ≤ a1 ∧ a1 ≤ (R.1 25 0 : Int)) → ¬ (0 ≤ a2 ∧ a2 ≤ 30000) → wp_Mo_release (fun b S1 => inR b ∧ S1.1 0 = 3 ∧ ((3 : Int) = 0 → f1 0 = lI b) ∧ LInv qs (j + 1) (c + 1000) (n + 14000) T1 S1) a1 a2 S := fun eT u1 u2 k k3 => by
    subst eT
    exact sp_Mo_release M hg F h1 h2 (fun q => absurd ⟨u1, u2⟩ q) (fun _ _ q => absurd k q) (fun _ _ _ _ => fin_e (by decide) (ms_i0 S 3) (er 3)) (fun _ _ _ _ _ _ q => absurd q k3) (fun _ _ _ _ _ _ q => absurd q k3)
  unfold wp_BLB_release
  refine ⟨1, 6, 999, 13994, ⟨by omega, by omega⟩, t0, sp_B_up B w ⟨by omega, by omega⟩ (fun u1 u2 => ⟨h1, fun k => ⟨⟨by omega, by omega⟩, Or.inr (Or.inl ⟨rfl, inR_lit2, E2 rfl u1 u2 (by omega)⟩)⟩, fun k => ⟨t0, qa qs 22, r4, t22, sp_B_easementCount B ⟨h1, by unfold inR; omega, fun k2 => ⟨1, 6, 998, 13988, ⟨by omega, by omega⟩, sp_B_ckDay h2 ⟨by omega, by omega⟩ (fun kd => ⟨t0, qa qs 22, r4, t0, qa qs 22, r4, t22, sp_B_lastEntry B ⟨t22, ?_⟩⟩) (fun kd => Or.inr (Or.inr ⟨rfl, inR_lit3, E3 rfl u1 u2 (by omega) kd⟩))⟩, fun k2 => ⟨⟨by omega, by omega⟩, Or.inr (Or.inl ⟨rfl, inR_lit2, E2 rfl u1 u2 (by omega)⟩)⟩⟩⟩⟩) (fun k => Or.inl ⟨rfl, inR_lit1, E1 rfl k⟩)⟩
  obtain ⟨e, ee⟩ : ∃ e : Nat, a1 = e := ⟨a1.toNat, by omega⟩
  have e1 : 1 ≤ e := by omega
  have e2 : e ≤ R.1 25 0 := by omega
  subst ee
  have RF : ∀ {v : Int} {T1 : CS}, Tx (scr qs) T T1 → n20 T T1 → rlRf R e a2 v → inR v ∧ inR 0 ∧ wp_Mo_release (fun b S1 => inR b ∧ S1.1 0 = 0 ∧ ((0 : Int) = 0 → vp_updL f 0 (lI v) 0 = lI b) ∧ LInv qs (j + 1) (c + 1000) (n + 14000) T1 S1) (e : Int) a2 S := fun g1 g2 rf => ⟨Rf_in rf, inR_lit0, sp_Mo_release M hg F h1 h2 (fun q => absurd ⟨u1, u2⟩ q) (fun _ _ q => absurd ⟨by omega, by omega⟩ q) (fun _ _ _ q => absurd kd q) (fun _ _ e' z _ _ _ v' S' g' rf' => by
      have z : e' = e := by omega
      subst z
      exact fin_r (Rf_in rf) (Rf_uniq rf' rf) (by rw [g'.1 0 (by omega)]; exact ms_i0 S 0) (inv g1 g2 (mfr_trans (mfr_i0 S 0) g'.fr))) (fun _ _ e' z _ _ _ r1 r2 r4 => by
      have z : e' = e := by omega
      subst z
      exact absurd ⟨fun q => q r1, r2, fun q => q, r4⟩ (Rf_ne rf))⟩
  refine sp_B_stands B w e1 e2 h2 (by unfold inR; omega) (fun ks => ⟨inR_lit1, fun _ => ⟨t0, qa qs 22, r4, 2, 600, 996, 13388, ⟨by omega, by omega⟩, t22, ?_⟩, fun q => absurd q (by decide)⟩) (fun ks => ⟨inR_lit0, fun q => absurd rfl q, fun _ => RF (Tx_refl _ _) (n20_refl _) (Or.inl ⟨rfl, ks⟩)⟩)
  refine sp_B_lotsBurdened hq hl B w e1 e2 h2 (by omega) (by omega) (fun T23 q24 ns q0 x23 n23 ns23 hns => ?_)
  have B23 := B.tx hq hl (sc x23)
  refine ⟨B23.1.tag (by omega) rfl, qa qs 22, B23.1.ref (i := 0) (j := 4) (z := 22) (by omega) rfl (by omega), B23.1.tag (by omega) rfl, ?_⟩
  have lte : (∃ x, x ∈ ns ∧ aLate R x a2) ↔ rlL R e a2 := by
    constructor
    · rintro ⟨x, q1, q2⟩; have := (hns x).mp q1; exact ⟨x, ⟨this.1, this.2.1⟩, this.2.2, q2⟩
    · rintro ⟨x, q1, q2, q3⟩; exact ⟨x, (hns x).mpr ⟨q1.1, q1.2, q2⟩, q3⟩
  refine sp_B_isLate B23 w F.nl ns23 h2 (fun kl => ⟨inR_lit1, fun q => absurd q (by decide), fun _ => RF (sc x23) n23 (Or.inr (Or.inl ⟨rfl, fun q => q ks, lte.mp kl⟩))⟩) (fun kl => ⟨inR_lit0, fun _ => ⟨by omega, 995, 13387, ⟨by omega, by omega⟩, fun q32 T33 q320 y33 => ?_⟩, fun q => absurd rfl q⟩)
  have nlt : ¬ rlL R e a2 := fun q => kl (lte.mpr q)
  refine ⟨by rw [y33]; exact new_tg _ _ _ _, ⟨by omega, by rw [y33, new_ln]; omega⟩, fun T36 y36 => ?_⟩
  obtain ⟨x36', n36', v1, v2, v3⟩ := arr1 q320 y33 y36
  have x36 : Tx (scr qs) T T36 := Tx_trans (sc x23) (sc x36')
  have n36 : n20 T T36 := n20_trans n23 n36'
  have B36 := B.tx hq hl x36
  refine ⟨B36.1.tag (by omega) rfl, sp_B_isFull (ml := 0) (me := 0) (kd := 5) (n := 0) B36 w v1 (by rw [v2]; rfl) ⟨by omega, by omega, by omega⟩ (fun ku => ⟨inR_lit1, fun q => absurd q (by decide), fun _ => RF x36 n36 (Or.inr (Or.inr (Or.inr ⟨rfl, fun q => q ks, nlt, fun q => q, ku⟩)))⟩) (fun ku => ⟨inR_lit0, fun _ => ⟨994, 13381, ⟨by omega, by omega⟩, fun q39 T40 q390 y40 => ?_⟩, fun q => absurd rfl q⟩)⟩
  have ku' := ku
  unfold aMuch at ku'
  have r6 : rsz 5 0 = 5 := rfl
  have r6' : rsz 5 (aRow R).length = 5 := rfl
  have bo := dbody_ok (kd := 5) (dy := a2.toNat) (a := e) (b := 0) (c := 0) (p := 0) (row := aRow R) (en := R.1 15 0 + 1) (by omega) (by omega) (by omega) (by omega) (by omega) (by omega) (by omega) w.2.1
  have q24q : q24 ∉ qs := not_qs hl B.1 (Or.inl q0)
  have na9 : q24 ≠ ad 9 0 := fun q => by rw [q] at q0; omega
  have t24 : tg T23 q24 = 11 := ns23.1
  have w24 := x36' q24 (by omega)
  have q32T : tg T q32 = 0 := Classical.byContradiction fun q => q (by rw [← (x23 q32 q).1]; exact q320)
  unfold wp_BDe_init3
  have ed : ((a2.toNat : Nat) : Int) = a2 := by omega
  have nd := sp_B_newdeed (post := fun mc_49 ms_50 r_46 T_45 => tg T_45 (qa qs 0) = 1 ∧ ∃ q_51 : Nat, fo T_45 (qa qs 0) 4 = some q_51 ∧ (tg T_45 q_51 = 5 ∧ wp_BRg_endEasement (fun r T1 => inR r ∧ inR 0 ∧ wp_Mo_release (fun b S1 => inR b ∧ S1.1 0 = 0 ∧ ((0 : Int) = 0 → vp_updL f 0 (lI r) 0 = lI b) ∧ LInv qs (j + 1) (c + 1000) (n + 14000) T1 S1) (e : Int) a2 S) q_51 (e : Int) T_45)) (kd := 5) (dy := a2.toNat) (a := e) (b := 0) (c := 0) (p := 0) (x := R.1 7 0) (y := R.1 25 0) (z := R.1 30 0 + (wrec (dbody 5 a2.toNat (R.1 15 0 + 1) e 0 0 0 (aRow R))).length) (nm := ns) (tl := dtext 5 e 0 0 0 (aRow R)) (body := dbody 5 a2.toNat (R.1 15 0 + 1) e 0 0 0 (aRow R)) (na := q24) (ta := q32) (mc := 994) (ms := 13381) hq hl B36 (he.n n36) ⟨by rw [w24.1]; exact ns23.1, by rw [w24.2.1]; exact ns23.2.1, fun i hi => by rw [w24.2.2.2 (fun q => q)]; exact ns23.2.2.2.2 i hi, q24q, na9⟩ ⟨v1, by rw [v2]; rfl, fun i hi => ?_, fun q => by rw [q] at q32T; omega⟩ rfl (by omega) (by rw [bo.2.1, r6']; omega) bo.1.2.1 (by show 1 ≤ 36; omega) (by omega) (by omega) q390 y40 (fun T' ad' k1 k2 k3 k4 k5 => ?_)
  · rw [show ((5 : Nat) : Int) = 5 from rfl, ed, show ((0 : Nat) : Int) = 0 from rfl] at nd
    exact nd
  · have : i = 0 := by have : i < 1 := hi; omega
    subst this
    rw [v3]; rfl
  have e25 : (rEnt R 5 a2.toNat e 0 0 0 (R.1 7 0) (R.1 25 0) (R.1 30 0 + (wrec (dbody 5 a2.toNat (R.1 15 0 + 1) e 0 0 0 (aRow R))).length) ns (dbody 5 a2.toNat (R.1 15 0 + 1) e 0 0 0 (aRow R))).1 25 0 = R.1 25 0 := rEnt_o (by omega)
  have e15 : (rEnt R 5 a2.toNat e 0 0 0 (R.1 7 0) (R.1 25 0) (R.1 30 0 + (wrec (dbody 5 a2.toNat (R.1 15 0 + 1) e 0 0 0 (aRow R))).length) ns (dbody 5 a2.toNat (R.1 15 0 + 1) e 0 0 0 (aRow R))).1 15 0 = R.1 15 0 + 1 := rEnt_15
  have lnT : ∀ l', 1 ≤ l' → l' ≤ R.1 7 0 → ln T' (ad' 7 l') = ln T (ad 7 l') := by
    intro l' q1 q2
    rw [k4 7 (by omega) (by omega) (by omega) (by omega)]
    have v := x36 (ad 7 l') (by rw [B.t7 q1 q2]; omega)
    rw [(k2 _ (by rw [v.1, B.t7 q1 q2]; omega)).2.1, v.2.1]
  refine ⟨k1.1.tag (by omega) rfl, qa qs 22, k1.1.ref (i := 0) (j := 4) (z := 22) (by omega) rfl (by omega), k1.1.tag (by omega) rfl, sp_B_endEas k1 e1 (by rw [e25]; exact e2) (fun T2 j2 j1 => ?_)⟩
  rw [e15] at j1 ⊢
  have st : DStp R (rlR R e a2 ns) 5 a2.toNat ns 0 0 0 e 0 0 (dbody 5 a2.toNat (R.1 15 0 + 1) e 0 0 0 (aRow R)) := dstp_rel (by omega)
  obtain ⟨d1, d2, d3, d4, d5, d6, d7, d8, d9⟩ := rEnt_d (R := R) (kd := 5) (dy := a2.toNat) (a := e) (b := 0) (c := 0) (p := 0) (x := R.1 7 0) (y := R.1 25 0) (z := R.1 30 0 + (wrec (dbody 5 a2.toNat (R.1 15 0 + 1) e 0 0 0 (aRow R))).length) (nm := ns) (body := dbody 5 a2.toNat (R.1 15 0 + 1) e 0 0 0 (aRow R))
  have cn : DCnd R (rlR R e a2 ns) 5 a2.toNat ns 0 0 0 e 0 0 (dbody 5 a2.toNat (R.1 15 0 + 1) e 0 0 0 (aRow R)) := by
    refine ⟨⟨u1, u2, by omega, by omega, by omega, by omega, by omega, by rw [bo.2.1, r6']; omega, by omega⟩, ⟨ns23.2.2.1, fun x hx => ?_⟩, ⟨⟨fun q => absurd rfl q, fun q => by omega⟩, ⟨fun _ => rfl, fun _ => by omega⟩, ⟨fun q => absurd q (by decide), fun q => by omega⟩⟩, fun q => absurd rfl q, ⟨fun q => by omega, fun q => by omega, ?_, ?_, ?_, ?_⟩, fun q => by omega, fun _ => ⟨?_, e2, by rw [ed]; exact ks, fun x => ?_⟩, fun q => by omega, bo.1, w.2.1⟩
    · have q := (hns x).mp hx
      rw [ed]
      exact ⟨⟨q.1, q.2.1⟩, q.2.2.2.2, fun q3 => nlt ⟨x, ⟨q.1, q.2.1⟩, q.2.2, q3⟩⟩
    · rw [rN_o (by omega), d3]; omega
    · rw [rN_o (by omega), d4]; omega
    · rw [rN_o (by omega), d5]; omega
    · rw [rN_o (by omega), d6]; omega
    · rw [rN_o (by omega), d3]
    · rw [ed, hns x]
      exact ⟨fun q => ⟨⟨q.1, q.2.1⟩, q.2.2⟩, fun q => ⟨q.1.1, q.1.2, q.2⟩⟩
  have F' := WF_step F st cn
  refine ⟨by unfold inR; omega, inR_lit0, sp_Mo_release M hg F h1 h2 (fun q => absurd ⟨u1, u2⟩ q) (fun _ _ q => absurd ⟨by omega, by omega⟩ q) (fun _ _ _ q => absurd kd q) (fun _ _ e' z _ _ _ v' S' g' rf' => ?_) (fun _ _ e' z _ _ _ r1 r2 r4 S' z0 mg md => ?_)⟩
  · have z : e' = e := by omega
    subst z
    exact absurd ⟨fun q => q ks, nlt, fun q => q, ku⟩ (Rf_ne rf')
  · have z : e' = e := by omega
    subst z
    refine fin_r (by unfold inR; omega) rfl z0 (inv_acc hc j1 (md ns) mg F' (he.n (n20_trans n36 (n20_trans k3 (n20_tw j2)))) ?_ ?_ ?_ (by rw [st.1.2.1]; omega))
    · refine hb.cg (st.1.2.1) (fun l => ?_) (fun l l1 l2 => ?_) (fun l l1 l2 => ?_)
      · rw [rN_o (by omega)]; exact rEnt_o (by omega)
      · rw [rN_o (by omega)]; exact rEnt_o (by have := F.dl l1 l2; omega)
      · rw [j2.2.1, lnT l l1 l2]
    · rw [j2.2.1]; exact lgrow_ln k5 (by rw [(x36 _ (by omega)).2.1]; exact h7) (by rw [bo.2.1, r6']; omega)
    · rw [st.1.2.2.2.1, bo.2.1, r6']
      show R.1 30 0 + 5 + (aRow R).length ≤ _
      omega
end OPH
