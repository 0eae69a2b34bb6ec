/-! calls: merge: geometry, the reference -/
section OPI
variable {qs : List Nat}
theorem ms_a_o (S : MS) (k : Nat) (i v : Int) {f : Nat} (h : f ≠ k) : (ms_a S k i v).2 f = S.2 f := by
  funext t
  show (if f = k ∧ t = i.toNat then v else S.2 f t) = S.2 f t
  rw [if_neg (fun q => h q.1)]
def mgO (A B O : List PT) : Prop := ∃ st mm s, st < (ig_refine A B).length ∧ (mg_cs (ig_refine A B) (ig_refine B A) st && !mg_cs (ig_refine A B) (ig_refine B A) (st + (ig_refine A B).length - 1)) = true ∧ s = cntN (mg_cs (ig_refine A B) (ig_refine B A)) (ig_refine A B).length ∧ mm < (ig_refine B A).length ∧ ig_at (ig_refine B A) mm = ig_at (ig_refine A B) st ∧ O = mg_out (ig_refine A B) (ig_refine B A) st s (mm + (s + 1) * (ig_refine B A).length)
theorem mg_base {A B : List PT} (rA : rg_ok A) (rB : rg_ok B) : (ig_refine A B).Nodup ∧ ig_refine A B ≠ [] ∧ ∀ p ∈ ig_refine A B, ig_ok p := by
  obtain ⟨⟨sL, _⟩, mL, kL, _⟩ := ig_refine_spec (O := B) rA.2.2.1 rA.ne
  refine ⟨rgn_nodup sL, ?_, fun p hp => (mL p hp).elim (rA.1 p) (rB.1 p)⟩
  intro f; have := kL _ (ig_at_mem rA.ne 0); rw [f] at this; simp at this
theorem mgO_uniq {A B O O' : List PT} (rA : rg_ok A) (rB : rg_ok B) (hk : mg_ok (ig_refine A B) (ig_refine B A)) (h : mgO A B O) (g : mgO A B O') : O = O' := by
  obtain ⟨st, mm, s, h1, h2, h3, h4, h5, h6⟩ := h
  obtain ⟨st', mm', s', g1, g2, g3, g4, g5, g6⟩ := g
  have est : st = st' := cntN_one (f := fun k => mg_cs (ig_refine A B) (ig_refine B A) k && !mg_cs (ig_refine A B) (ig_refine B A) (k + (ig_refine A B).length - 1)) hk.1 h1 g1 h2 g2
  obtain ⟨n, n0, _⟩ := mg_base rB rA
  subst est
  have := ig_at_inj n n0 (h5.trans g5.symm)
  rw [Nat.mod_eq_of_lt h4, Nat.mod_eq_of_lt g4] at this
  rw [h6, g6, this, h3, g3]
theorem mgO_geo {A B O : List PT} (rA : rg_ok A) (rB : rg_ok B) (hI : ∀ z, gx_wn (rgn A) z + gx_wn (rgn B) z ≤ 1) (hk : mg_ok (ig_refine A B) (ig_refine B A)) (h : mgO A B O) : gx_simple (rgn O) ∧ (∀ z, gx_wn (rgn O) z = gx_wn (rgn A) z + gx_wn (rgn B) z) ∧ (∀ p ∈ O, ig_ok p) ∧ O ≠ [] := by
  obtain ⟨st, mm, s, h1, h2, h3, h4, h5, h6⟩ := h
  obtain ⟨nL, l0, okL⟩ := mg_base rA rB
  obtain ⟨nR, r0, okR⟩ := mg_base rB rA
  have ln := mg_line_of nL nR l0 r0 h1 hk.1 h2 h3 (by rw [h3]; exact hk.2) h5
  obtain ⟨g1, g2⟩ := mg_geo rA.2.2.1 rB.2.2.1 rA.ne rB.ne rA.2.2.2 rB.2.2.2 hI ln
  rw [← h6] at g1 g2
  refine ⟨g1, g2, fun p hp => ?_, fun f => ?_⟩
  · rw [h6] at hp
    unfold mg_out at hp
    rcases List.mem_append.mp hp with q | q
    · obtain ⟨k, _, e⟩ := ig_seg_mem.mp q
      rw [← e]; exact ig_at_ok okL l0 _
    · obtain ⟨k, _, e⟩ := ig_seg_mem.mp q
      rw [← e]; exact ig_at_ok okR r0 _
  · have := congrArg List.length f
    rw [h6] at this
    unfold mg_out at this
    rw [List.length_append, ig_seg_len, ig_seg_len] at this
    have := ln.2.1
    simp at *
    omega
abbrev mgBad (R : AR) (l m : Nat) (y : Int) : Prop := l = m ∨ ¬ mg_ok (ig_refine (aRing R l) (aRing R m)) (ig_refine (aRing R m) (aRing R l)) ∨ ¬ (∀ p, p < 100 → aShare R l p y (R.1 15 0) = aShare R m p y (R.1 15 0))
abbrev mgMuch (R : AR) (l m : Nat) : Prop := (∃ O, mgO (aRing R l) (aRing R m) O ∧ 60 < (ig_flt (ig_or O)).length) ∨ aMuch R 1 0 2 0
abbrev mgRf (R : AR) (l m : Nat) (y v : Int) : Prop := Rf (¬ aB R l y (R.1 15 0) ∨ ¬ aB R m y (R.1 15 0)) (aLate R l y ∨ aLate R m y) (mgBad R l m y) (mgMuch R l m) v
abbrev mgR (R : AR) (l m : Nat) (y : Int) (K : List PT) (sh : Nat → Int) (ih : Nat → Bool) : AR := rLots (R.1 15 0 + 1) (min l m) (max l m) sh ih [K] (rEnds (R.1 15 0 + 1) [l, m] (rEnt R 2 y.toNat l m 0 0 (R.1 7 0 + 1) (R.1 25 0) (R.1 30 0 + (wrec (dbody 2 y.toNat (R.1 15 0 + 1) l m 0 0 (aRow R))).length) [l, m] (dbody 2 y.toNat (R.1 15 0 + 1) l m 0 0 (aRow R))))
theorem sp_Mo_merge {S : MS} {R : AR} {post : Int → MS → Prop} (h : MD S R) (hg : MG S) (F : WF R) {a1 a2 a3 : Int} (h1 : inR a1) (h2 : inR a2) (h3 : inR a3) (p1 : ¬ (1 ≤ R.1 7 0 ∧ R.1 2 0 = 0) → post 0 (ms_i S 0 1)) (p2 : 1 ≤ R.1 7 0 → R.1 2 0 = 0 → ¬ ((1 ≤ a1 ∧ a1 ≤ (R.1 7 0 : Int)) ∧ (1 ≤ a2 ∧ a2 ≤ (R.1 7 0 : Int))) → post 0 (ms_i S 0 2)) (p3 : 1 ≤ R.1 7 0 → R.1 2 0 = 0 → (1 ≤ a1 ∧ a1 ≤ (R.1 7 0 : Int)) → (1 ≤ a2 ∧ a2 ≤ (R.1 7 0 : Int)) → ¬ (0 ≤ a3 ∧ a3 ≤ 30000) → post 0 (ms_i S 0 3))
    (pr : 1 ≤ R.1 7 0 → R.1 2 0 = 0 → ∀ l m : Nat, a1 = l → a2 = m → 1 ≤ l → l ≤ R.1 7 0 → 1 ≤ m → m ≤ R.1 7 0 → (0 ≤ a3 ∧ a3 ≤ 30000) → ∀ v S', mfz (ms_i S 0 0) S' → mgRf R l m a3 v → post v S')
    (p0 : 1 ≤ R.1 7 0 → R.1 2 0 = 0 → ∀ l m : Nat, a1 = l → a2 = m → 1 ≤ l → l ≤ R.1 7 0 → 1 ≤ m → m ≤ R.1 7 0 → (0 ≤ a3 ∧ a3 ≤ 30000) → ¬ (¬ aB R l a3 (R.1 15 0) ∨ ¬ aB R m a3 (R.1 15 0)) → ¬ (aLate R l a3 ∨ aLate R m a3) → ¬ mgBad R l m a3 → ¬ mgMuch R l m → ∀ O K S', mgO (aRing R l) (aRing R m) O → ig_kept O K → S'.1 0 = 0 → MG S' → (∀ sh ih, MD S' (mgR R l m a3 K sh ih)) → post ((R.1 7 0 + 1 : Nat) : Int) S') : wp_Mo_merge post a1 a2 a3 S := by
  have w := F.r
  have W := w.1
  have ex : ∀ v : Int, 0 < v → v ≤ 3 → post 0 (ms_i S 0 v) → wp_Mo_merge_44 post a1 a2 a3 v S := by
    intro v v0 v3 hp S1 y1
    rw [y1, ms_i0]
    exact ⟨by unfold inR; omega, fun f => by omega, fun _ => hp⟩
  unfold wp_Mo_merge
  refine sp_Mo_isUp h w (fun u1 u2 => ⟨inR_lit1, fun _ => sp_Mo_isLot h w h1 (fun l e l1 l2 => ⟨inR_lit1, fun f => absurd f (by decide), fun _ => sp_Mo_isLot h w h2 (fun m e' m1 m2 => ⟨inR_lit1, fun _ => sp_Mo_isDay h3 (fun kd => ⟨inR_lit1, fun _ => ?_, fun f => absurd f (by decide)⟩) (fun kd => ⟨inR_lit0, fun f => absurd rfl f, fun _ => ex 3 (by omega) (by omega) (p3 u1 u2 (by omega) (by omega) kd)⟩), fun f => absurd f (by decide)⟩) (fun k => ⟨inR_lit0, fun f => absurd rfl f, fun _ => ex 2 (by omega) (by omega) (p2 u1 u2 (fun q => k q.2))⟩)⟩) (fun k => ⟨inR_lit0, fun _ => ex 2 (by omega) (by omega) (p2 u1 u2 (fun q => k q.1)), fun f => absurd rfl f⟩), fun f => absurd f (by decide)⟩) (fun k => ⟨inR_lit0, fun f => absurd rfl f, fun _ => ex 1 (by omega) (by omega) (p1 k)⟩)
  have prr := pr u1 u2 l m e e' l1 l2 m1 m2 kd
  have p00 := p0 u1 u2 l m e e' l1 l2 m1 m2 kd
  intro S1 y1
  rw [y1, ms_i0]
  have M1 : MD (ms_i S 0 0) R := h.fr (mfr_i0 S 0)
  refine ⟨inR_lit0, fun _ => ?_, fun f => absurd (Int.le_refl 0) f⟩
  unfold wp_Mo_mergeNow
  rw [M1.nd, e, e']
  refine sp_Mo_isInBeing M1 w l1 l2 h3 (by unfold inR; omega) (fun kb => ⟨inR_lit1, fun f => absurd f (by decide), fun _ => ?_⟩) (fun kb => ⟨inR_lit0, fun _ => prr _ _ (mfz_refl _) (Or.inl ⟨rfl, Or.inl kb⟩), fun f => absurd rfl f⟩)
  rw [M1.nd]
  refine sp_Mo_isInBeing M1 w m1 m2 h3 (by unfold inR; omega) (fun kc => ⟨inR_lit1, fun _ => ?_, fun f => absurd f (by decide)⟩) (fun kc => ⟨inR_lit0, fun f => absurd rfl f, fun _ => prr _ _ (mfz_refl _) (Or.inl ⟨rfl, Or.inr kc⟩)⟩)
  have ng : ¬ (¬ aB R l a3 (R.1 15 0) ∨ ¬ aB R m a3 (R.1 15 0)) := fun q => q.elim (fun q => q kb) (fun q => q kc)
  refine sz_Mo_isLate M1 w F.i F.n l1 l2 h3 (fun S4 g4 kl => ⟨inR_lit1, fun _ => prr _ _ g4 (Or.inr (Or.inl ⟨rfl, ng, Or.inl kl⟩)), fun f => absurd f (by decide)⟩) (fun S4 g4 kl => ⟨inR_lit0, fun f => absurd rfl f, fun _ => ?_⟩)
  refine sz_Mo_isLate (M1.fz g4) w F.i F.n m1 m2 h3 (fun S5 g5 km => ⟨inR_lit1, fun f => absurd f (by decide), fun _ => prr _ _ (mfz_trans g4 g5) (Or.inr (Or.inl ⟨rfl, ng, Or.inr km⟩))⟩) (fun S5 g5 km => ⟨inR_lit0, fun _ => ?_, fun f => absurd rfl f⟩)
  have g15 := mfz_trans g4 g5
  have M5 := M1.fz g15
  have nlt : ¬ (aLate R l a3 ∨ aLate R m a3) := fun q => q.elim kl km
  refine ⟨by unfold inR; omega, by unfold inR; omega, fun q => prr _ _ g15 (Or.inr (Or.inr (Or.inl ⟨rfl, ng, nlt, Or.inl (by omega)⟩))), fun q => ?_⟩
  have nlm : ¬ l = m := by omega
  have rA := w.rg l1 l2
  have rB := w.rg m1 m2
  have hI := F.x l m a3 _ l1 l2 m1 m2 nlm kb kc
  refine sz_Mo_makeBoth M5 w l1 l2 m1 m2 hI (fun S9 g9 ko => ⟨inR_lit0, fun _ => prr _ _ (mfz_trans g15 g9) (Or.inr (Or.inr (Or.inl ⟨rfl, ng, nlt, Or.inr (Or.inl ko)⟩))), fun f => absurd rfl f⟩) (fun S9 Tt st mm s g9 ko k1 k2 k3 k4 k5 mT rT => ⟨inR_lit1, fun f => absurd f (by decide), fun _ => ?_⟩)
  have g19 := mfz_trans g15 g9
  have M9 := M1.fz g19
  have G9 : MG S9 := (hg.e2 (S' := ms_i S 0 0) rfl).fr g19.fr
  have z9 : S9.1 0 = 0 := by rw [g19.1 0 (by omega)]; exact ms_i0 S 0
  have hO : mgO (aRing R l) (aRing R m) (mg_out (ig_refine (aRing R l) (aRing R m)) (ig_refine (aRing R m) (aRing R l)) st s (mm + (s + 1) * (ig_refine (aRing R m) (aRing R l)).length)) := ⟨st, mm, s, k1, k2, k3, k4, k5, rfl⟩
  generalize hOe : mg_out (ig_refine (aRing R l) (aRing R m)) (ig_refine (aRing R m) (aRing R l)) st s (mm + (s + 1) * (ig_refine (aRing R m) (aRing R l)).length) = O at hO rT
  obtain ⟨o1, o2, o3, o4⟩ := mgO_geo rA rB hI ko hO
  have oW : ∀ z, 0 ≤ gx_wn (rgn O) z := fun z => by rw [o2]; have := rA.2.2.2 z; have := rB.2.2.2 z; omega
  refine sp_Mo_haveSameShares M9 w F.sa F.sb l1 l2 m1 m2 h3 kb kc (fun ks => ⟨inR_lit1, fun _ => ?_, fun f => absurd f (by decide)⟩) (fun ks => ⟨inR_lit0, fun f => absurd rfl f, fun _ => prr _ _ g19 (Or.inr (Or.inr (Or.inl ⟨rfl, ng, nlt, Or.inr (Or.inr ks)⟩)))⟩)
  have good : ¬ mgBad R l m a3 := by
    rintro (r | r | r)
    · exact nlm r
    · exact r ko
    · exact r ks
  rw [mT.1]
  have t400 := mT.2.1
  refine ⟨by unfold inR; omega, fun k60 => prr _ _ g19 (Or.inr (Or.inr (Or.inr ⟨rfl, ng, nlt, good, Or.inl ⟨O, hO, by rw [rT.1]; omega⟩⟩))), fun k60 => ?_⟩
  refine sp_Mo_isMuch (ml := 1) (me := 0) (kd := 2) (n := 0) M9 w (by omega) (by omega) (by omega) (by omega) (fun ku => ⟨inR_lit1, fun f => absurd f (by decide), fun _ => prr _ _ g19 (Or.inr (Or.inr (Or.inr ⟨rfl, ng, nlt, good, Or.inr ku⟩)))⟩) (fun ku => ⟨inR_lit0, fun _ => ?_, fun f => absurd rfl f⟩)
  have ku' := ku
  unfold aMuch at ku'
  have nmu : ¬ mgMuch R l m := by
    rintro (⟨O', q1, q2⟩ | q)
    · rw [mgO_uniq rA rB ko q1 hO, rT.1] at q2; omega
    · exact ku q
  have bo := dbody_ok (kd := 2) (dy := a3.toNat) (a := l) (b := m) (c := 0) (p := 0) (row := aRow R) (en := R.1 15 0 + 1) (by omega) (by omega) (by omega) (by omega) (by omega) (by omega) (by omega) w.2.1
  have r6 : rsz 2 0 = 5 := rfl
  have r6' : rsz 2 (aRow R).length = 5 := rfl
  have acc := sp_Mo_accept (post := fun r_16 S_15 => ixR (l : Int) 302 ∧ (∀ S_17 : MS, S_17 = ms_a S_15 12 (l : Int) r_16 → ixR (m : Int) 302 ∧ (∀ S_18 : MS, S_18 = ms_a S_17 12 (m : Int) r_16 → wp_Mo_least (fun r_19 => wp_Mo_most (fun r_20 => wp_Mo_beget (fun S_21 => wp_Mo_settle (fun S_23 => post (S_23.1 7) S_23) S_21) r_16 r_19 r_20 S_18) (l : Int) (m : Int)) (l : Int) (m : Int)))) (kd := 2) (dy := a3.toNat) (a := l) (b := m) (c := 0) (p := 0) M9 w G9 (by omega) (by omega) (by omega) (by omega) (by omega) (by omega) (by omega) (fun S15 x y z m15 g15' fr15 e15 => ?_)
  · rw [show ((a3.toNat : Nat) : Int) = a3 by omega] at acc
    exact acc
  have w15 := WR_ent (R := R) (kd := 2) (dy := a3.toNat) (a := l) (b := m) (c := 0) (p := 0) (x := x) (y := y) (z := z) (nm := [l, m]) (body := dbody 2 a3.toNat (R.1 15 0 + 1) l m 0 0 (aRow R)) w (by omega) (by omega) (by omega) (by omega) (by omega) (by omega) (by omega) (fun f => by omega) (by rw [bo.2.1, r6']; omega) bo.1.2.1 bo.1.1.2
  refine ⟨⟨by omega, by omega⟩, fun S17 y17 => ⟨⟨by omega, by omega⟩, fun S18 y18 => ?_⟩⟩
  have m18 : MD S18 (rEnds (R.1 15 0 + 1) [l, m] (rEnt R 2 a3.toNat l m 0 0 x y z [l, m] (dbody 2 a3.toNat (R.1 15 0 + 1) l m 0 0 (aRow R)))) := by
    rw [y18, y17]
    exact MD.wr (R := rN (rEnt R 2 a3.toNat l m 0 0 x y z [l, m] (dbody 2 a3.toNat (R.1 15 0 + 1) l m 0 0 (aRow R))) [(12, l, R.1 15 0 + 1)]) (MD.wr (R := rEnt R 2 a3.toNat l m 0 0 x y z [l, m] (dbody 2 a3.toNat (R.1 15 0 + 1) l m 0 0 (aRow R))) m15 (by omega)) (by omega)
  have w18 : WR (rEnds (R.1 15 0 + 1) [l, m] (rEnt R 2 a3.toNat l m 0 0 x y z [l, m] (dbody 2 a3.toNat (R.1 15 0 + 1) l m 0 0 (aRow R)))) := WR_end (R := rN (rEnt R 2 a3.toNat l m 0 0 x y z [l, m] (dbody 2 a3.toNat (R.1 15 0 + 1) l m 0 0 (aRow R))) [(12, l, R.1 15 0 + 1)]) (WR_end w15 (by rw [rEnt_15]; exact Nat.le_refl _)) (by rw [rN_o (by omega), rEnt_15]; exact Nat.le_refl _)
  have g18 : MG S18 := by rw [y18, y17]; exact (g15'.wr (by omega)).wr (by omega)
  have z18 : S18.1 0 = 0 := by rw [y18, y17]; show S15.1 0 = 0; rw [e15]; exact z9
  have e7 : (rEnds (R.1 15 0 + 1) [l, m] (rEnt R 2 a3.toNat l m 0 0 x y z [l, m] (dbody 2 a3.toNat (R.1 15 0 + 1) l m 0 0 (aRow R)))).1 7 0 = R.1 7 0 := by rw [ends_7]; exact rEnt_o (by omega)
  have mT18 : mmade S18 Tt := by
    have q33 := (fr15 33 (by omega)).1
    have q34 := (fr15 34 (by omega)).2
    have q35 := (fr15 35 (by omega)).2
    have o34 : S18.2 34 = S9.2 34 := by
      rw [y18, y17, ms_a_o _ _ _ _ (by omega), ms_a_o _ _ _ _ (by omega), q34]
    have o35 : S18.2 35 = S9.2 35 := by
      rw [y18, y17, ms_a_o _ _ _ _ (by omega), ms_a_o _ _ _ _ (by omega), q35]
    refine ⟨by rw [y18, y17]; show S15.1 33 = _; rw [q33]; exact mT.1, mT.2.1, fun k hk => ?_⟩
    rw [o34, o35]; exact mT.2.2 k hk
  have t60 : Tt.length ≤ 60 := by omega
  have tmem : ∀ p ∈ Tt, p ∈ O := fun p hp => (ig_or_mem p).mp ((ig_flt_sub _).subset ((rote_mem rT p).mp hp))
  have tne : Tt ≠ [] := by
    intro f
    have kk : ig_kept O Tt := ⟨rT, by rw [f]; intro p hp; exact absurd hp List.not_mem_nil⟩
    have := (ig_kept_good o3 o1 o4 kk).2.2.2
    rw [f] at this
    exact absurd this (by decide)
  refine sp_Mo_least (by unfold inR; omega) (by unfold inR; omega) (sp_Mo_most (by unfold inR; omega) (by unfold inR; omega) ?_)
  rw [show min (l : Int) (m : Int) = ((min l m : Nat) : Int) by omega, show max (l : Int) (m : Int) = ((max l m : Nat) : Int) by omega]
  refine sp_Mo_beget m18 w18 g18 (by rw [e7]; omega) (by rw [e7]; omega) mT18 tne (fun p hp => o3 p (tmem p hp)) t60 (fun S21 K r21 k21 m21 g21 e21 => ?_)
  have kK : ig_kept O K := ⟨rote_trans rT r21, k21⟩
  have K60 : K.length ≤ 60 := by rw [← r21.1]; exact t60
  have rgK := (kept_rg o3 o1 oW o4 kK K60).1
  have m21' : ∀ sh ih, MD S21 (rLots (R.1 15 0 + 1) (min l m) (max l m) sh ih [K] (rEnds (R.1 15 0 + 1) [l, m] (rEnt R 2 a3.toNat l m 0 0 x y z [l, m] (dbody 2 a3.toNat (R.1 15 0 + 1) l m 0 0 (aRow R))))) := fun sh ih => m21.cgn (fun _ _ => rfl) rfl rfl rfl
  have w21 := WR_lot (d := R.1 15 0 + 1) (a := min l m) (b := max l m) (K := K) (sh := fun _ => 0) (ih := fun _ => false) w18 (by rw [e7]; omega) ⟨by omega, by rw [ends_n, if_neg (by omega), rEnt_15]; exact Nat.le_refl _⟩ (by rw [e7]; omega) (by rw [e7]; omega) rgK
  refine sp_Mo_settle (m21' (fun _ => 0) (fun _ => false)) w21 g21 (fun S' s1 s2 s3 => ?_)
  have e7' : S'.1 7 = ((R.1 7 0 + 1 : Nat) : Int) := by
    rw [s3, (m21' (fun _ => 0) (fun _ => false)).nl]
    show (((rLotB (rEnds (R.1 15 0 + 1) [l, m] (rEnt R 2 a3.toNat l m 0 0 x y z [l, m] (dbody 2 a3.toNat (R.1 15 0 + 1) l m 0 0 (aRow R)))) (R.1 15 0 + 1) (min l m) (max l m) K (fun _ => 0) (fun _ => false)).1 7 0 : Nat) : Int) = _
    rw [rLotB_7, e7]
  rw [e7']
  refine p00 ng nlt good nmu O K S' hO kK (by rw [s3, e21]; exact z18) s2 (fun sh ih => ?_)
  exact s1.cgn (fun f i => set_lot1 (sh := fun _ => 0) (ih := fun _ => false) f i) rfl rfl rfl
end OPI
