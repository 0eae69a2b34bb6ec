/-! calls: transfer -/
section OPF
variable {qs : List Nat}
abbrev trOK (a2 a3 a4 a5 a6 : Int) : Prop := (0 ≤ a6 ∧ a6 ≤ 30000) ∧ (0 ≤ a2 ∧ a2 ≤ 99) ∧ (0 ≤ a3 ∧ a3 ≤ 99) ∧ (1 ≤ a4 ∧ a4 ≤ 5040) ∧ (1 ≤ a5 ∧ a5 ≤ 5040)
abbrev trRf (R : AR) (l : Nat) (a2 a3 a4 a5 a6 v : Int) : Prop := Rf (¬ aB R l a6 (R.1 15 0)) (aLate R l a6) (a2 = a3 ∨ 5040 % a5 ≠ 0 ∨ aShare R l a2.toNat a6 (R.1 15 0) < a4 * (5040 / a5)) (aMuch R 0 0 3 0) v
abbrev trR (R : AR) (l : Nat) (a2 a3 a4 a5 a6 : Int) : AR := rEnt R 3 a6.toNat l a2.toNat a3.toNat (a4 * (5040 / a5)).toNat (R.1 7 0) (R.1 25 0) (R.1 30 0 + (wrec (dbody 3 a6.toNat (R.1 15 0 + 1) l a2.toNat a3.toNat (a4 * (5040 / a5)).toNat (aRow R))).length) [l] (dbody 3 a6.toNat (R.1 15 0 + 1) l a2.toNat a3.toNat (a4 * (5040 / a5)).toNat (aRow R))
theorem tr_p {a4 a5 : Int} (h4 : 1 ≤ a4 ∧ a4 ≤ 5040) (h5 : 1 ≤ a5 ∧ a5 ≤ 5040) : 0 ≤ a4 * (5040 / a5) ∧ a4 * (5040 / a5) ≤ 25401600 := by
  have d0 : 0 ≤ 5040 / a5 := Int.ediv_nonneg (by decide) (by omega)
  have d1 : 5040 / a5 ≤ 5040 := Int.ediv_le_self a5 (by decide)
  refine ⟨Int.mul_nonneg (by omega) d0, ?_⟩
  have := Int.mul_le_mul h4.2 d1 d0 (by decide : (0 : Int) ≤ 5040)
  omega
theorem sp_Mo_transfer {S : MS} {R : AR} {post : Int → MS → Prop} (h : MD S R) (hg : MG S) (F : WF R) {a1 a2 a3 a4 a5 a6 : Int} (h1 : inR a1) (h2 : inR a2) (h3 : inR a3) (h4 : inR a4) (h5 : inR a5) (h6 : inR a6) (p1 : ¬ (1 ≤ R.1 7 0 ∧ R.1 2 0 = 0) → post 0 (ms_i S 0 1)) (p2 : 1 ≤ R.1 7 0 → R.1 2 0 = 0 → ¬ (1 ≤ a1 ∧ a1 ≤ (R.1 7 0 : Int)) → post 0 (ms_i S 0 2)) (p3 : 1 ≤ R.1 7 0 → R.1 2 0 = 0 → (1 ≤ a1 ∧ a1 ≤ (R.1 7 0 : Int)) → ¬ trOK a2 a3 a4 a5 a6 → post 0 (ms_i S 0 3))
    (pr : 1 ≤ R.1 7 0 → R.1 2 0 = 0 → ∀ l : Nat, a1 = l → 1 ≤ l → l ≤ R.1 7 0 → trOK a2 a3 a4 a5 a6 → ∀ v S', mfz (ms_i S 0 0) S' → trRf R l a2 a3 a4 a5 a6 v → post v S')
    (p0 : 1 ≤ R.1 7 0 → R.1 2 0 = 0 → ∀ l : Nat, a1 = l → 1 ≤ l → l ≤ R.1 7 0 → trOK a2 a3 a4 a5 a6 → aB R l a6 (R.1 15 0) → ¬ aLate R l a6 → ¬ (a2 = a3 ∨ 5040 % a5 ≠ 0 ∨ aShare R l a2.toNat a6 (R.1 15 0) < a4 * (5040 / a5)) → ¬ aMuch R 0 0 3 0 → ∀ S', S'.1 0 = 0 → MG S' → MD S' (trR R l a2 a3 a4 a5 a6) → post ((R.1 15 0 + 1 : Nat) : Int) S') : wp_Mo_transfer post a1 a2 a3 a4 a5 a6 S := by
  have w := F.r
  have W := w.1
  have ex : ∀ v : Int, 0 < v → v ≤ 3 → post 0 (ms_i S 0 v) → wp_Mo_transfer_91 post a1 a2 a3 a4 a5 a6 v S := by
    intro v v0 v3 hp S1 y1
    rw [y1, ms_i0]
    exact ⟨by unfold inR; omega, fun f => by omega, fun _ => hp⟩
  have k55 : ∀ b : Bool, (b = true ↔ trOK a2 a3 a4 a5 a6) → wp_Mo_transfer_55 post a1 a2 a3 a4 a5 a6 (bI b) S := by
    intro b hb
    unfold wp_Mo_transfer_55
    refine sp_Mo_isUp h w (fun u1 u2 => ⟨inR_lit1, fun _ => sp_Mo_isLot h w h1 (fun l e l1 l2 => ⟨inR_lit1, fun _ => ⟨bI_in b, fun f => ?_, fun f => ex 3 (by omega) (by omega) (p3 u1 u2 (by omega) (fun q => by rw [bI_0, hb.mpr q] at f; exact absurd f (by decide)))⟩, fun f => absurd f (by decide)⟩) (fun k => ⟨inR_lit0, fun f => absurd rfl f, fun _ => ex 2 (by omega) (by omega) (p2 u1 u2 k)⟩), fun f => absurd f (by decide)⟩) (fun k => ⟨inR_lit0, fun f => absurd rfl f, fun _ => ex 1 (by omega) (by omega) (p1 k)⟩)
    have ok := hb.mp (bI_ne.mp f)
    have tp := tr_p ok.2.2.2.1 ok.2.2.2.2
    have prr := pr u1 u2 l e l1 l2 ok
    have p00 := p0 u1 u2 l e l1 l2 ok
    intro S1 y1
    rw [y1, ms_i0]
    have M1 : MD (ms_i S 0 0) R := h.fr (mfr_i0 S 0)
    refine ⟨inR_lit0, fun _ => ?_, fun f => absurd (Int.le_refl 0) f⟩
    rw [M1.nd, e]
    refine sp_Mo_isInBeing M1 w l1 l2 h6 (by unfold inR; omega) (fun kb => ⟨inR_lit1, fun _ => ?_, fun f => absurd f (by decide)⟩) (fun kb => ⟨inR_lit0, fun f => absurd rfl f, fun _ => prr _ _ (mfz_refl _) (Or.inl ⟨rfl, kb⟩)⟩)
    refine sz_Mo_isLate M1 w F.i F.n l1 l2 h6 (fun S4 g4 kl => ⟨inR_lit1, fun f => absurd f (by decide), fun _ => prr _ _ g4 (Or.inr (Or.inl ⟨rfl, fun f => f kb, kl⟩))⟩) (fun S4 g4 kl => ⟨inR_lit0, fun _ => ?_, fun f => absurd rfl f⟩)
    have M4 := M1.fz g4
    have G4 : MG S4 := (hg.e2 (S' := ms_i S 0 0) rfl).fr g4.fr
    have z4 : S4.1 0 = 0 := by rw [g4.1 0 (by omega)]; exact ms_i0 S 0
    refine ⟨⟨by omega, by omega⟩, fun v8 e8 => ⟨h2, h3, fun q => prr _ _ g4 (Or.inr (Or.inr (Or.inl ⟨rfl, fun f => f kb, kl, Or.inl q⟩))), fun q => ⟨⟨by omega, by omega⟩, by have := Int.emod_nonneg 5040 (show a5 ≠ 0 by omega); have := Int.emod_lt_of_pos 5040 (show 0 < a5 by omega); unfold inR; omega, fun q2 => prr _ _ g4 (Or.inr (Or.inr (Or.inl ⟨rfl, fun f => f kb, kl, Or.inr (Or.inl q2)⟩))), fun q2 => ?_⟩⟩⟩
    rw [M4.nd, show a2 = ((a2.toNat : Nat) : Int) by omega]
    have bd := aShare_bd (p := a2.toNat) (y := a6) (e := (R.1 15 0 : Int)) F l1 l2 (by omega)
    refine sp_Mo_shareOf M4 w F.sa l1 l2 (by omega) h6 (by unfold inR; omega) kb.1 ?_
    change inR (aShare R l a2.toNat a6 (R.1 15 0)) ∧ inR v8 ∧ (v8 ≤ aShare R l a2.toNat a6 (R.1 15 0) → _) ∧ (¬ v8 ≤ aShare R l a2.toNat a6 (R.1 15 0) → _)
    refine ⟨by unfold inR; omega, by rw [e8]; unfold inR; omega, fun q3 => ?_, fun q3 => prr _ _ g4 (Or.inr (Or.inr (Or.inl ⟨rfl, fun f => f kb, kl, Or.inr (Or.inr (by rw [e8] at q3; omega))⟩)))⟩
    have good : ¬ (a2 = a3 ∨ 5040 % a5 ≠ 0 ∨ aShare R l a2.toNat a6 (R.1 15 0) < a4 * (5040 / a5)) := by
      rintro (r | r | r)
      · exact q r
      · exact r q2
      · rw [e8] at q3; omega
    refine sp_Mo_isMuch (ml := 0) (me := 0) (kd := 3) (n := 0) M4 w (by omega) (by omega) (by omega) (by omega) (fun km => ⟨inR_lit1, fun f => absurd f (by decide), fun _ => prr _ _ g4 (Or.inr (Or.inr (Or.inr ⟨rfl, fun f => f kb, kl, good, km⟩)))⟩) (fun km => ⟨inR_lit0, fun _ => ?_, fun f => absurd rfl f⟩)
    have km' := km
    unfold aMuch at km'
    have bo := dbody_ok (kd := 3) (dy := a6.toNat) (a := l) (b := a2.toNat) (c := a3.toNat) (p := (a4 * (5040 / a5)).toNat) (row := aRow R) (en := R.1 15 0 + 1) (by omega) (by omega) (by omega) (by omega) (by omega) (by omega) (by omega) w.2.1
    have r6 : rsz 3 0 = 6 := rfl
    have r6' : rsz 3 (aRow R).length = 6 := rfl
    have acc := sp_Mo_accept (post := fun r_12 S_11 => wp_Mo_settle (fun S_13 => post r_12 S_13) S_11) (kd := 3) (dy := a6.toNat) (a := l) (b := a2.toNat) (c := a3.toNat) (p := (a4 * (5040 / a5)).toNat) M4 w G4 (by omega) (by omega) (by omega) (by omega) (by omega) (by omega) (by omega) (fun S9 x y z m9 g9 _ e9 => ?_)
    · rw [show ((a6.toNat : Nat) : Int) = a6 by omega, show ((a3.toNat : Nat) : Int) = a3 by omega, show (((a4 * (5040 / a5)).toNat : Nat) : Int) = v8 by omega] at acc
      exact acc
    have m9' : MD S9 (rEnt R 3 a6.toNat l a2.toNat a3.toNat (a4 * (5040 / a5)).toNat x y z [l] (dbody 3 a6.toNat (R.1 15 0 + 1) l a2.toNat a3.toNat (a4 * (5040 / a5)).toNat (aRow R))) := m9
    have w9 := WR_ent (R := R) (kd := 3) (dy := a6.toNat) (a := l) (b := a2.toNat) (c := a3.toNat) (p := (a4 * (5040 / a5)).toNat) (x := x) (y := y) (z := z) (nm := [l]) (body := dbody 3 a6.toNat (R.1 15 0 + 1) l a2.toNat a3.toNat (a4 * (5040 / a5)).toNat (aRow R)) w (by omega) (by omega) (by omega) (by omega) (by omega) (by omega) (by omega) (fun f => by omega) (by rw [bo.2.1, r6']; omega) bo.1.2.1 bo.1.1.2
    refine sp_Mo_settle m9' w9 g9 (fun S' s1 s2 s3 => p00 kb kl good km S' (by rw [s3, e9]; exact z4) s2 ?_)
    exact s1.cgn (fun f i => (set_ent f i).symm) rfl rfl rfl
  unfold wp_Mo_transfer
  refine sp_Mo_isDay h6 (fun q1 => ⟨inR_lit1, fun f => absurd f (by decide), fun _ => sp_Mo_isPerson h2 (fun q2 => ⟨inR_lit1, fun f => absurd f (by decide), fun _ => sp_Mo_isPerson h3 (fun q3 => ⟨inR_lit1, fun f => absurd f (by decide), fun _ => ⟨h4, fun q4 => k55 false ⟨fun f => absurd f (by decide), fun f => by omega⟩, fun q4 => ⟨h4, fun q5 => k55 false ⟨fun f => absurd f (by decide), fun f => by omega⟩, fun q5 => ⟨h5, fun q6 => k55 false ⟨fun f => absurd f (by decide), fun f => by omega⟩, fun q6 => ⟨h5, fun q7 => k55 false ⟨fun f => absurd f (by decide), fun f => by omega⟩, fun q7 => k55 true ⟨fun _ => ⟨q1, q2, q3, by omega, by omega⟩, fun _ => rfl⟩⟩⟩⟩⟩⟩) (fun q3 => ⟨inR_lit0, fun _ => k55 false ⟨fun f => absurd f (by decide), fun f => absurd f.2.2.1 q3⟩, fun f => absurd rfl f⟩)⟩) (fun q2 => ⟨inR_lit0, fun _ => k55 false ⟨fun f => absurd f (by decide), fun f => absurd f.2.1 q2⟩, fun f => absurd rfl f⟩)⟩) (fun q1 => ⟨inR_lit0, fun _ => k55 false ⟨fun f => absurd f (by decide), fun f => absurd f.1 q1⟩, fun f => absurd rfl f⟩)
theorem op_transfer (hq : qs.Nodup) (hl : qs.length = 30) {j c n : Nat} {T : CS} {S : MS} {f : Nat → Int64} {a1 a2 a3 a4 a5 a6 : Int} (hj : j < 512) (h : LInv qs j c n T S) (h1 : inR a1) (h2 : inR a2) (h3 : inR a3) (h4 : inR a4) (h5 : inR a5) (h6 : inR a6) : st_transfer (LInv qs (j + 1)) (qa qs 0) f c n a1 a2 a3 a4 a5 a6 T S := by
  obtain ⟨hc, ad, R, hS, hw, hz⟩ := h
  have B := hS.1
  have M := hS.2.1
  have F := hS.2.2.2.1
  have w := F.r
  have W := w.1
  have t0 : tg T (qa qs 0) = 1 := B.1.tag (by omega) rfl
  have r4 : fo T (qa qs 0) 4 = some (qa qs 22) := B.1.ref (i := 0) (j := 4) (z := 22) (by omega) rfl (by omega)
  have r5 : fo T (qa qs 0) 5 = some (qa qs 28) := B.1.ref (i := 0) (j := 5) (z := 28) (by omega) rfl (by omega)
  have t22 : tg T (qa qs 22) = 5 := B.1.tag (by omega) rfl
  have t28 : tg T (qa qs 28) = 6 := B.1.tag (by omega) rfl
  have inv : ∀ {T1 : CS} {S1 : MS}, Tx (scr qs) T T1 → n20 T T1 → mfr S S1 → LInv qs (j + 1) (c + 1000) (n + 14000) T1 S1 := fun g g2 m => inv_q hq hl hS hc hw hz g g2 m
  have er : ∀ v : Int, LInv qs (j + 1) (c + 1000) (n + 14000) T (ms_i S 0 v) := fun v => inv (Tx_refl _ _) (n20_refl _) (mfr_i0 S v)
  have hg := hS.2.2.1
  have he := hS.2.2.2.2.1
  have hb := hS.2.2.2.2.2.1
  have h7 := hS.2.2.2.2.2.2
  unfold st_transfer hx_transfer
  refine ⟨1000, 14000, ⟨by omega, by omega⟩, t0, ?_⟩
  have E1 : ∀ {f1 : Nat → Int64} {T1 : CS}, T1 = T → ¬ (1 ≤ R.1 7 0 ∧ R.1 2 0 = 0) → wp_Mo_transfer (fun b S1 => inR b ∧ S1.1 0 = 1 ∧ ((1 : Int) = 0 → f1 0 = lI b) ∧ LInv qs (j + 1) (c + 1000) (n + 14000) T1 S1) a1 a2 a3 a4 a5 a6 S := fun eT k => by
    subst eT
    exact sp_Mo_transfer M hg F h1 h2 h3 h4 h5 h6 (fun _ => fin_e (by decide) (ms_i0 S 1) (er 1)) (fun q1 q2 => absurd ⟨q1, q2⟩ k) (fun q1 q2 => absurd ⟨q1, q2⟩ k) (fun q1 q2 => absurd ⟨q1, q2⟩ k) (fun q1 q2 => absurd ⟨q1, q2⟩ k)
  have E2 : ∀ {f1 : Nat → Int64} {T1 : CS}, T1 = T → 1 ≤ R.1 7 0 → R.1 2 0 = 0 → ¬ (1 ≤ a1 ∧ a1 ≤ (R.1 7 0 : Int)) → wp_Mo_transfer (fun b S1 => inR b ∧ S1.1 0 = 2 ∧ ((2 : Int) = 0 → f1 0 = lI b) ∧ LInv qs (j + 1) (c + 1000) (n + 14000) T1 S1) a1 a2 a3 a4 a5 a6 S := fun eT u1 u2 k => by
    subst eT
    exact sp_Mo_transfer M hg F h1 h2 h3 h4 h5 h6 (fun q => absurd ⟨u1, u2⟩ q) (fun _ _ _ => fin_e (by decide) (ms_i0 S 2) (er 2)) (fun _ _ q => absurd q k) (fun _ _ l e l1 l2 => absurd ⟨by omega, by omega⟩ k) (fun _ _ l e l1 l2 => absurd ⟨by omega, by omega⟩ k)
  have E3 : ∀ {f1 : Nat → Int64} {T1 : CS}, T1 = T → 1 ≤ R.1 7 0 → R.1 2 0 = 0 → (1 ≤ a1 ∧ a1 ≤ (R.1 7 0 : Int)) → ¬ trOK a2 a3 a4 a5 a6 → wp_Mo_transfer (fun b S1 => inR b ∧ S1.1 0 = 3 ∧ ((3 : Int) = 0 → f1 0 = lI b) ∧ LInv qs (j + 1) (c + 1000) (n + 14000) T1 S1) a1 a2 a3 a4 a5 a6 S := fun eT u1 u2 k k3 => by
    subst eT
    exact sp_Mo_transfer M hg F h1 h2 h3 h4 h5 h6 (fun q => absurd ⟨u1, u2⟩ q) (fun _ _ q => absurd k q) (fun _ _ _ _ => fin_e (by decide) (ms_i0 S 3) (er 3)) (fun _ _ _ _ _ _ q => absurd q k3) (fun _ _ _ _ _ _ q => absurd q k3)
  unfold wp_BLB_transfer
  refine ⟨1, 6, 999, 13994, ⟨by omega, by omega⟩, t0, sp_B_up B w ⟨by omega, by omega⟩ (fun u1 u2 => ⟨1, 6, 998, 13988, ⟨by omega, by omega⟩, t0, sp_B_ckLot B w h1 ⟨by omega, by omega⟩ (fun l e l1 l2 => ⟨1, 6, 997, 13982, ⟨by omega, by omega⟩, sp_B_ckPerson h2 ⟨by omega, by omega⟩ (fun k2 => ⟨1, 6, 996, 13976, ⟨by omega, by omega⟩, sp_B_ckPerson h3 ⟨by omega, by omega⟩ (fun k3 => ⟨1, 6, 995, 13970, ⟨by omega, by omega⟩, sp_B_ckTerm h4 ⟨by omega, by omega⟩ (fun k4 => ⟨1, 6, 994, 13964, ⟨by omega, by omega⟩, sp_B_ckTerm h5 ⟨by omega, by omega⟩ (fun k5 => ⟨1, 6, 993, 13958, ⟨by omega, by omega⟩, sp_B_ckDay h6 ⟨by omega, by omega⟩ (fun k6 => ⟨by omega, 992, 13957, ⟨by omega, by omega⟩, fun q43 T44 q0 y44 => ?_⟩) (fun k => Or.inr (Or.inr ⟨rfl, inR_lit3, E3 rfl u1 u2 (by omega) (fun q => k q.1)⟩))⟩) (fun k => Or.inr (Or.inr ⟨rfl, inR_lit3, E3 rfl u1 u2 (by omega) (fun q => k q.2.2.2.2)⟩))⟩) (fun k => Or.inr (Or.inr ⟨rfl, inR_lit3, E3 rfl u1 u2 (by omega) (fun q => k q.2.2.2.1)⟩))⟩) (fun k => Or.inr (Or.inr ⟨rfl, inR_lit3, E3 rfl u1 u2 (by omega) (fun q => k q.2.2.1)⟩))⟩) (fun k => Or.inr (Or.inr ⟨rfl, inR_lit3, E3 rfl u1 u2 (by omega) (fun q => k q.2.1)⟩))⟩) (fun k => Or.inr (Or.inl ⟨rfl, inR_lit2, E2 rfl u1 u2 k⟩))⟩) (fun k => Or.inl ⟨rfl, inR_lit1, E1 rfl k⟩)⟩
  have ok : trOK a2 a3 a4 a5 a6 := ⟨k6, k2, k3, k4, k5⟩
  have tp := tr_p k4 k5
  subst e
  -- refused
  have RF : ∀ {v : Int} {T1 : CS}, Tx (scr qs) T T1 → n20 T T1 → trRf R l a2 a3 a4 a5 a6 v → inR v ∧ inR 0 ∧ wp_Mo_transfer (fun b S1 => inR b ∧ S1.1 0 = 0 ∧ ((0 : Int) = 0 → vp_updL f 0 (lI v) 0 = lI b) ∧ LInv qs (j + 1) (c + 1000) (n + 14000) T1 S1) (l : Int) a2 a3 a4 a5 a6 S := fun g1 g2 rf => ⟨Rf_in rf, inR_lit0, sp_Mo_transfer M hg F h1 h2 h3 h4 h5 h6 (fun q => absurd ⟨u1, u2⟩ q) (fun _ _ q => absurd ⟨by omega, by omega⟩ q) (fun _ _ _ q => absurd ok q) (fun _ _ l' e' _ _ _ v' S' g' rf' => by
      have z : l' = l := by omega
      subst z
      exact fin_r (Rf_in rf) (Rf_uniq rf' rf) (by rw [g'.1 0 (by omega)]; exact ms_i0 S 0) (inv g1 g2 (mfr_trans (mfr_i0 S 0) g'.fr))) (fun _ _ l' e' _ _ _ r1 r2 r3 r4 => by
      have z : l' = l := by omega
      subst z
      exact absurd ⟨fun q => q r1, r2, r3, r4⟩ (Rf_ne rf))⟩
  refine ⟨by rw [y44]; exact new_tg _ _ _ _, ⟨by omega, by rw [y44, new_ln]; omega⟩, fun T47 y47 => ?_⟩
  obtain ⟨x47, n47, s1, s2, s3⟩ := arr1 q0 y44 y47
  have sc : ∀ {U : CS}, Tx (fun _ => False) T U → Tx (scr qs) T U := fun g => Tx_mono g (fun a f => f.elim)
  have B47 := B.tx hq hl (sc x47)
  have q43q : q43 ∉ qs := not_qs hl B.1 (Or.inl q0)
  have ns47 : nsAt T47 q43 [l] := ⟨s1, s2, by show 1 ≤ 300; omega, fun x hx => by rw [List.mem_singleton.mp hx]; omega, fun i hi => by
    have : i = 0 := by have : i < 1 := hi; omega
    subst this; exact s3⟩
  refine ⟨B47.1.tag (by omega) rfl, qa qs 22, B47.1.ref (i := 0) (j := 4) (z := 22) (by omega) rfl (by omega), B47.1.tag (by omega) rfl, ?_⟩
  refine sp_B_objection B47 w F.nl ns47 (fun x hx => by rw [List.mem_singleton.mp hx]; omega) h6 (fun k => ⟨by unfold inR; omega, fun q => absurd q (by decide), fun _ => RF (sc x47) n47 (Or.inl ⟨rfl, ?_⟩)⟩) (fun k1 k => ⟨by unfold inR; omega, fun q => absurd q (by decide), fun _ => RF (sc x47) n47 (Or.inr (Or.inl ⟨rfl, ?_, ?_⟩))⟩) (fun kb kl => ⟨inR_lit0, fun _ => ?_, fun q => absurd rfl q⟩)
  · obtain ⟨x, hx, hb⟩ := k; rw [List.mem_singleton.mp hx] at hb; exact hb
  · exact fun q => q (k1 l (List.mem_singleton.mpr rfl))
  · obtain ⟨x, hx, hb⟩ := k; rw [List.mem_singleton.mp hx] at hb; exact hb
  have kb := kb l (List.mem_singleton.mpr rfl)
  have kl : ¬ aLate R l a6 := fun q => kl ⟨l, List.mem_singleton.mpr rfl, q⟩
  refine ⟨⟨by omega, by omega⟩, fun v9 e9 => ⟨h2, h3, fun q => RF (sc x47) n47 (Or.inr (Or.inr (Or.inl ⟨rfl, fun q => q kb, kl, Or.inl q⟩))), fun q => ⟨⟨by omega, by omega⟩, by have := Int.emod_nonneg 5040 (show a5 ≠ 0 by omega); have := Int.emod_lt_of_pos 5040 (show 0 < a5 by omega); unfold inR; omega, fun q2 => RF (sc x47) n47 (Or.inr (Or.inr (Or.inl ⟨rfl, fun q => q kb, kl, Or.inr (Or.inl q2)⟩))), fun q2 => ⟨B47.1.tag (by omega) rfl, qa qs 22, B47.1.ref (i := 0) (j := 4) (z := 22) (by omega) rfl (by omega), B47.1.tag (by omega) rfl, qa qs 22, B47.1.ref (i := 0) (j := 4) (z := 22) (by omega) rfl (by omega), B47.1.tag (by omega) rfl, sp_B_lastEntry B47 ⟨B47.1.tag (by omega) rfl, ?_⟩⟩⟩⟩⟩
  have e9' : v9 = a4 * (5040 / a5) := by rw [e9, Int.mul_comm]
  have bd := aShare_bd (p := a2.toNat) (y := a6) (e := (R.1 15 0 : Int)) F l1 l2 (by omega)
  rw [show a2 = ((a2.toNat : Nat) : Int) by omega]
  refine sp_B_shareOf hq hl B47 w F.nl F.t l1 l2 (by omega) h6 (by unfold inR; omega) (fun T56 g56 => ⟨by unfold inR; omega, by rw [e9']; unfold inR; omega, fun q3 => ⟨by omega, 991, 13955, ⟨by omega, by omega⟩, fun q58 T59 q580 y59 => ?_⟩, fun q3 => ?neg⟩)
  case neg =>
    rw [show ((a2.toNat : Nat) : Int) = a2 by omega]
    exact RF (Tx_trans (sc x47) g56.tx) (n20_trans n47 (n20_tw g56)) (Or.inr (Or.inr (Or.inl ⟨rfl, fun q => q kb, kl, Or.inr (Or.inr (by rw [e9'] at q3; omega))⟩)))
  have x56 : Tx (scr qs) T T56 := Tx_trans (sc x47) g56.tx
  have n56 : n20 T T56 := n20_trans n47 (n20_tw g56)
  have B56 := B.tx hq hl x56
  refine ⟨by rw [y59]; exact new_tg _ _ _ _, ⟨by omega, by rw [y59, new_ln]; omega⟩, fun T62 y62 => ⟨by rw [y62]; show tg T59 q58 = 11; rw [y59]; exact new_tg _ _ _ _, ⟨by omega, by rw [y62]; show (1 : Int) < (ln T59 q58 : Int); rw [y59, new_ln]; omega⟩, fun T63 y63 => ?_⟩⟩
  obtain ⟨x63', n63', u1', u2', u3', u4'⟩ := arr2 q580 y59 y62 y63
  have x63 : Tx (scr qs) T T63 := Tx_trans x56 (Tx_mono x63' (fun a f => f.elim))
  have n63 : n20 T T63 := n20_trans n56 n63'
  have B63 := B.tx hq hl x63
  have good : ¬ (a2 = a3 ∨ 5040 % a5 ≠ 0 ∨ aShare R l a2.toNat a6 (R.1 15 0) < a4 * (5040 / a5)) := by
    rintro (r | r | r)
    · exact q r
    · exact r q2
    · rw [e9'] at q3; omega
  refine ⟨B63.1.tag (by omega) rfl, sp_B_isFull (ml := 0) (me := 0) (kd := 3) (n := 0) B63 w u1' (by rw [u2']; rfl) ⟨by omega, by omega, by omega⟩ (fun km => ⟨inR_lit1, fun q => absurd q (by decide), fun _ => ?_⟩) (fun km => ⟨inR_lit0, fun _ => ⟨990, 13949, ⟨by omega, by omega⟩, fun q66 T67 q660 y67 => ?_⟩, fun q => absurd rfl q⟩)⟩
  · rw [show ((a2.toNat : Nat) : Int) = a2 by omega]
    exact RF x63 n63 (Or.inr (Or.inr (Or.inr ⟨rfl, fun q => q kb, kl, good, km⟩)))
  have km' := km
  unfold aMuch at km'
  have r6 : rsz 3 0 = 6 := rfl
  have r6' : rsz 3 (aRow R).length = 6 := rfl
  have bo := dbody_ok (kd := 3) (dy := a6.toNat) (a := l) (b := a2.toNat) (c := a3.toNat) (p := (a4 * (5040 / a5)).toNat) (row := aRow R) (en := R.1 15 0 + 1) (by omega) (by omega) (by omega) (by omega) (by omega) (by omega) (by omega) w.2.1
  have t9 : tg T (ad 9 0) = 11 := B.lgA.2.2.2.1
  have na9 : q43 ≠ ad 9 0 := fun q => by rw [q] at q0; omega
  have u43 := g56.1 q43
  have nsc : ¬ scr qs q43 := fun q => q43q (scr_mem hl q)
  have w43 := x63' q43 (by rw [u43]; omega)
  have q58T : tg T q58 = 0 := Classical.byContradiction fun q => q (by rw [← (x56 q58 q).1]; exact q580)
  have nd := sp_B_newdeed (post := fun _ _ r T1 => inR r ∧ inR 0 ∧ wp_Mo_transfer (fun b S1 => inR b ∧ S1.1 0 = 0 ∧ ((0 : Int) = 0 → vp_updL f 0 (lI r) 0 = lI b) ∧ LInv qs (j + 1) (c + 1000) (n + 14000) T1 S1) (l : Int) a2 a3 a4 a5 a6 S) (kd := 3) (dy := a6.toNat) (a := l) (b := a2.toNat) (c := a3.toNat) (p := (a4 * (5040 / a5)).toNat) (x := R.1 7 0) (y := R.1 25 0) (z := R.1 30 0 + (wrec (dbody 3 a6.toNat (R.1 15 0 + 1) l a2.toNat a3.toNat (a4 * (5040 / a5)).toNat (aRow R))).length) (nm := [l]) (tl := dtext 3 l a2.toNat a3.toNat (a4 * (5040 / a5)).toNat (aRow R)) (body := dbody 3 a6.toNat (R.1 15 0 + 1) l a2.toNat a3.toNat (a4 * (5040 / a5)).toNat (aRow R)) (na := q43) (ta := q58) (mc := 990) (ms := 13949) hq hl B63 (he.n n63) ⟨by rw [w43.1, u43]; exact s1, by rw [w43.2.1, g56.2.1]; exact s2, fun i hi => ?_, q43q, na9⟩ ⟨u1', by rw [u2']; rfl, fun i hi => ?_, fun q => by rw [q] at q58T; omega⟩ rfl (by omega) (by rw [bo.2.1, r6']; omega) bo.1.2.1 (by show 2 ≤ 36; omega) (by omega) (by omega) q660 y67 (fun T' ad' k1 k2 k3 k4 k5 => ?_)
  · rw [show ((3 : Nat) : Int) = 3 from rfl, show ((a6.toNat : Nat) : Int) = a6 by omega, show ((a3.toNat : Nat) : Int) = a3 by omega, show (((a4 * (5040 / a5)).toNat : Nat) : Int) = v9 by omega] at nd
    rw [show ((a2.toNat : Nat) : Int) = a2 by omega] at nd ⊢
    exact nd
  · have : i = 0 := by have : i < 1 := hi; omega
    subst this
    rw [w43.2.2.2 (fun q => q), g56.2.2.2 q43 nsc]; exact s3
  · have : i < 2 := hi
    rcases (show i = 0 ∨ i = 1 by omega) with q | q <;> subst q
    · rw [u3']
      show (l : Int) * 16384 + ((a2.toNat : Nat) : Int) * 128 + a3 = (l : Int) * 16384 + ((a2.toNat : Nat) : Int) * 128 + ((a3.toNat : Nat) : Int)
      omega
    · rw [u4', e9']
      show a4 * (5040 / a5) = (((a4 * (5040 / a5)).toNat : Nat) : Int)
      omega
  have st : DStp R (trR R l a2 a3 a4 a5 a6) 3 a6.toNat [l] 0 0 0 0 0 0 (dbody 3 a6.toNat (R.1 15 0 + 1) l a2.toNat a3.toNat (a4 * (5040 / a5)).toNat (aRow R)) := dstp_ent
  obtain ⟨d1, d2, d3, d4, d5, d6, d7, d8, d9⟩ := rEnt_d (R := R) (kd := 3) (dy := a6.toNat) (a := l) (b := a2.toNat) (c := a3.toNat) (p := (a4 * (5040 / a5)).toNat) (x := R.1 7 0) (y := R.1 25 0) (z := R.1 30 0 + (wrec (dbody 3 a6.toNat (R.1 15 0 + 1) l a2.toNat a3.toNat (a4 * (5040 / a5)).toNat (aRow R))).length) (nm := [l]) (body := dbody 3 a6.toNat (R.1 15 0 + 1) l a2.toNat a3.toNat (a4 * (5040 / a5)).toNat (aRow R))
  have ed : ((a6.toNat : Nat) : Int) = a6 := by omega
  have cn : DCnd R (trR R l a2 a3 a4 a5 a6) 3 a6.toNat [l] 0 0 0 0 0 0 (dbody 3 a6.toNat (R.1 15 0 + 1) l a2.toNat a3.toNat (a4 * (5040 / a5)).toNat (aRow R)) := by
    refine ⟨⟨u1, u2, by omega, by omega, by omega, by omega, by omega, by rw [bo.2.1, r6']; omega, by omega⟩, ⟨by show 1 ≤ 300; omega, fun x hx => ?_⟩, ⟨⟨fun q => absurd rfl q, fun q => by omega⟩, ⟨fun q => absurd rfl q, fun q => by omega⟩, ⟨fun q => absurd q (by decide), fun q => by omega⟩⟩, fun q => absurd rfl q, ⟨fun _ => by rw [d3], fun q => by omega, by rw [d3]; omega, by rw [d4]; omega, by rw [d5]; omega, by rw [d6]; omega⟩, fun _ => ⟨by rw [d4]; omega, by rw [d5]; omega, ?_⟩, fun q => by omega, fun q => by omega, bo.1, w.2.1⟩
    · rw [List.mem_singleton.mp hx, ed]; exact ⟨⟨l1, l2⟩, kb, kl⟩
    · rw [d6, d3, d4, ed]
      have := good
      omega
  have F' := WF_step F st cn
  refine ⟨by unfold inR; omega, inR_lit0, sp_Mo_transfer M hg F h1 h2 h3 h4 h5 h6 (fun q => absurd ⟨u1, u2⟩ q) (fun _ _ q => absurd ⟨by omega, by omega⟩ q) (fun _ _ _ q => absurd ok q) (fun _ _ l' e' _ _ _ v' S' g' rf' => ?_) (fun _ _ l' e' _ _ _ r1 r2 r3 r4 S' z0 mg md => ?_)⟩
  · have z : l' = l := by omega
    subst z
    exact absurd ⟨fun q => q kb, kl, good, km⟩ (Rf_ne rf')
  · have z : l' = l := by omega
    subst z
    refine fin_r (by unfold inR; omega) rfl z0 (inv_acc hc k1 md mg F' (he.n (n20_trans n63 k3)) ?_ (lgrow_ln k5 (by rw [(x63 _ (by omega)).2.1]; exact h7) (by rw [bo.2.1, r6']; omega)) ?_ (by rw [st.1.2.1]; omega))
    · refine hb.cg (st.1.2.1) (fun l => ?_) (fun l l1 l2 => ?_) (fun l l1 l2 => ?_)
      · exact rEnt_o (by omega)
      · exact rEnt_o (by have := F.dl l1 l2; omega)
      · rw [k4 7 (by omega) (by omega) (by omega) (by omega)]
        have v := x63 (ad 7 l) (by rw [B.t7 l1 l2]; omega)
        rw [(k2 _ (by rw [v.1, B.t7 l1 l2]; omega)).2.1, v.2.1]
    · rw [st.1.2.2.2.1, bo.2.1, r6']
      show R.1 30 0 + 6 + (aRow R).length ≤ _
      omega
end OPF
