/-! calls: ease, release -/
section OPG
variable {qs : List Nat}
theorem rEnt_eq {R : AR} {kd dy a b c p x y z a' b' c' p' x' y' z' : Nat} {nm : List Nat} {body : List Int} {f i : Nat} (h : f < 18 ∨ 24 < f ∨ i ≠ R.1 15 0 + 1) : (rEnt R kd dy a b c p x y z nm body).1 f i = (rEnt R kd dy a' b' c' p' x' y' z' nm body).1 f i := by
  rw [rEnt_n, rEnt_n]
  by_cases k30 : f = 30 ∧ i = 0
  · rw [if_pos k30, if_pos k30]
  · have n24 : ¬ (f = 24 ∧ i = R.1 15 0 + 1) := by omega
    have n23 : ¬ (f = 23 ∧ i = R.1 15 0 + 1) := by omega
    have n22 : ¬ (f = 22 ∧ i = R.1 15 0 + 1) := by omega
    have n21 : ¬ (f = 21 ∧ i = R.1 15 0 + 1) := by omega
    have n20 : ¬ (f = 20 ∧ i = R.1 15 0 + 1) := by omega
    have n19 : ¬ (f = 19 ∧ i = R.1 15 0 + 1) := by omega
    have n18 : ¬ (f = 18 ∧ i = R.1 15 0 + 1) := by omega
    rw [if_neg k30, if_neg k30, if_neg n24, if_neg n23, if_neg n22, if_neg n21, if_neg n20, if_neg n19, if_neg n18, if_neg n24, if_neg n23, if_neg n22, if_neg n21, if_neg n20, if_neg n19, if_neg n18]
/-- of a deed that is no transfer the book shows no more than kind, day and names -/
theorem BK_b {ad : Nat → Nat → Nat} {T : CS} {R : AR} {kd dy a b c p x y z a' b' c' p' x' y' z' : Nat} {nm : List Nat} {body : List Int} (h : BK qs ad T (rEnt R kd dy a b c p x y z nm body)) (hk : kd ≠ 3) : BK qs ad T (rEnt R kd dy a' b' c' p' x' y' z' nm body) := by
  have hn : ∀ f i, (f < 18 ∨ 24 < f ∨ i ≠ R.1 15 0 + 1) → (rEnt R kd dy a' b' c' p' x' y' z' nm body).1 f i = (rEnt R kd dy a b c p x y z nm body).1 f i := fun f i q => rEnt_eq q
  obtain ⟨k1, k2, k3, k4, k5, k6, k7, k8, k9⟩ := h
  refine ⟨k1, by rw [hn 2 0 (by omega), hn 3 0 (by omega)]; exact k2, k3, by rw [hn 15 0 (by omega), hn 7 0 (by omega), hn 25 0 (by omega)]; exact k4, k5, fun d d1 d2 => ?_, fun l l1 l2 => ?_, fun e e1 e2 => ?_, ?_⟩
  · rw [hn 15 0 (by omega)] at d2
    have q := k6 d d1 d2
    by_cases kd' : d = R.1 15 0 + 1
    · obtain ⟨q1, q2, q3, q4⟩ := q
      refine ⟨by rw [hn 16 d (by omega)]; exact q1, by rw [hn 17 d (by omega)]; exact q2, fun f => ?_, q4⟩
      rw [kd', rEnt_d.1] at f
      exact absurd f hk
    · exact q.cg (fun f hf => hn f d (by omega)) rfl
  · rw [hn 7 0 (by omega)] at l2
    exact (k7 l l1 l2).cg rfl (hn 11 l (by omega)) (hn 12 l (by omega)) (fun _ => rfl) (hn 25 0 (by omega)) (fun e => hn 28 e (by omega)) (fun _ => rfl)
  · rw [hn 25 0 (by omega)] at e2
    have q := k8 e e1 e2
    unfold easAt at q ⊢
    rw [hn 28 e (by omega), hn 26 e (by omega), hn 27 e (by omega)]; exact q
  · unfold logAt at k9 ⊢
    rw [hn 30 0 (by omega), hn 31 0 (by omega)]; exact k9
theorem set_eas {R : AR} {kd dy a b c p x y z o : Nat} {nm : List Nat} {body : List Int} (f i : Nat) : (rEas (rEnt R kd dy a b c p (R.1 7 0) (R.1 25 0 + 1) (R.1 30 0 + (wrec body).length) nm body) (R.1 15 0 + 1) o).1 f i = (rSet (rEas (rEnt R kd dy a b c p x y z nm body) (R.1 15 0 + 1) o)).1 f i := by
  have a25 : ∀ x y z, (rEnt R kd dy a b c p x y z nm body).1 25 0 = R.1 25 0 := fun x y z => rEnt_o (by omega)
  have e15 : (rEas (rEnt R kd dy a b c p x y z nm body) (R.1 15 0 + 1) o).1 15 0 = R.1 15 0 + 1 := by rw [rEas_o _ _ _ _ (by omega)]; exact rEnt_15
  have e7 : (rEas (rEnt R kd dy a b c p x y z nm body) (R.1 15 0 + 1) o).1 7 0 = R.1 7 0 := by rw [rEas_o _ _ _ _ (by omega)]; exact rEnt_o (by omega)
  have e25 : (rEas (rEnt R kd dy a b c p x y z nm body) (R.1 15 0 + 1) o).1 25 0 = R.1 25 0 + 1 := by rw [rEas_25, a25]
  have e30 : (rEas (rEnt R kd dy a b c p x y z nm body) (R.1 15 0 + 1) o).1 30 0 = R.1 30 0 + (wrec body).length := by rw [rEas_o _ _ _ _ (by omega)]; exact rEnt_30
  obtain ⟨_, _, _, _, _, _, q7, q8, q9⟩ := rEnt_d (R := R) (kd := kd) (dy := dy) (a := a) (b := b) (c := c) (p := p) (x := R.1 7 0) (y := R.1 25 0 + 1) (z := R.1 30 0 + (wrec body).length) (nm := nm) (body := body)
  rw [rSet_n, e15, e7, e25, e30]
  by_cases k24 : f = 24 ∧ i = R.1 15 0 + 1
  · rw [if_pos k24, k24.1, k24.2, rEas_o _ _ _ _ (by omega)]; exact q9
  · rw [if_neg k24]
    by_cases k23 : f = 23 ∧ i = R.1 15 0 + 1
    · rw [if_pos k23, k23.1, k23.2, rEas_o _ _ _ _ (by omega)]; exact q8
    · rw [if_neg k23]
      by_cases k22 : f = 22 ∧ i = R.1 15 0 + 1
      · rw [if_pos k22, k22.1, k22.2, rEas_o _ _ _ _ (by omega)]; exact q7
      · rw [if_neg k22, rEas_n, rEas_n, a25, a25, rEnt_xyz (x' := x) (y' := y) (z' := z) (by omega)]
abbrev esRf (R : AR) (l m : Nat) (y v : Int) : Prop := Rf (¬ aB R l y (R.1 15 0) ∨ ¬ aB R m y (R.1 15 0)) (aLate R l y ∨ aLate R m y) (l = m) (aMuch R 0 1 4 0) v
abbrev esR (R : AR) (l m : Nat) (y : Int) : AR := rEas (rEnt R 4 y.toNat l m 0 0 (R.1 7 0) (R.1 25 0 + 1) (R.1 30 0 + (wrec (dbody 4 y.toNat (R.1 15 0 + 1) l m 0 0 (aRow R))).length) [l, m] (dbody 4 y.toNat (R.1 15 0 + 1) l m 0 0 (aRow R))) (R.1 15 0 + 1) l
theorem sp_Mo_ease {S : MS} {R : AR} {post : Int → MS → Prop} (h : MD S R) (hg : MG S) (F : WF R) {a1 a2 a3 : Int} (h1 : inR a1) (h2 : inR a2) (h3 : inR a3) (p1 : ¬ (1 ≤ R.1 7 0 ∧ R.1 2 0 = 0) → post 0 (ms_i S 0 1)) (p2 : 1 ≤ R.1 7 0 → R.1 2 0 = 0 → ¬ ((1 ≤ a1 ∧ a1 ≤ (R.1 7 0 : Int)) ∧ (1 ≤ a2 ∧ a2 ≤ (R.1 7 0 : Int))) → post 0 (ms_i S 0 2)) (p3 : 1 ≤ R.1 7 0 → R.1 2 0 = 0 → (1 ≤ a1 ∧ a1 ≤ (R.1 7 0 : Int)) → (1 ≤ a2 ∧ a2 ≤ (R.1 7 0 : Int)) → ¬ (0 ≤ a3 ∧ a3 ≤ 30000) → post 0 (ms_i S 0 3))
    (pr : 1 ≤ R.1 7 0 → R.1 2 0 = 0 → ∀ l m : Nat, a1 = l → a2 = m → 1 ≤ l → l ≤ R.1 7 0 → 1 ≤ m → m ≤ R.1 7 0 → (0 ≤ a3 ∧ a3 ≤ 30000) → ∀ v S', mfz (ms_i S 0 0) S' → esRf R l m a3 v → post v S')
    (p0 : 1 ≤ R.1 7 0 → R.1 2 0 = 0 → ∀ l m : Nat, a1 = l → a2 = m → 1 ≤ l → l ≤ R.1 7 0 → 1 ≤ m → m ≤ R.1 7 0 → (0 ≤ a3 ∧ a3 ≤ 30000) → ¬ (¬ aB R l a3 (R.1 15 0) ∨ ¬ aB R m a3 (R.1 15 0)) → ¬ (aLate R l a3 ∨ aLate R m a3) → ¬ l = m → ¬ aMuch R 0 1 4 0 → ∀ S', S'.1 0 = 0 → MG S' → MD S' (esR R l m a3) → post ((R.1 25 0 + 1 : Nat) : Int) S') : wp_Mo_ease post a1 a2 a3 S := by
  have w := F.r
  have W := w.1
  have ex : ∀ v : Int, 0 < v → v ≤ 3 → post 0 (ms_i S 0 v) → wp_Mo_ease_44 post a1 a2 a3 v S := by
    intro v v0 v3 hp S1 y1
    rw [y1, ms_i0]
    exact ⟨by unfold inR; omega, fun f => by omega, fun _ => hp⟩
  unfold wp_Mo_ease
  refine sp_Mo_isUp h w (fun u1 u2 => ⟨inR_lit1, fun _ => sp_Mo_isLot h w h1 (fun l e l1 l2 => ⟨inR_lit1, fun f => absurd f (by decide), fun _ => sp_Mo_isLot h w h2 (fun m e' m1 m2 => ⟨inR_lit1, fun _ => sp_Mo_isDay h3 (fun kd => ⟨inR_lit1, fun _ => ?_, fun f => absurd f (by decide)⟩) (fun kd => ⟨inR_lit0, fun f => absurd rfl f, fun _ => ex 3 (by omega) (by omega) (p3 u1 u2 (by omega) (by omega) kd)⟩), fun f => absurd f (by decide)⟩) (fun k => ⟨inR_lit0, fun f => absurd rfl f, fun _ => ex 2 (by omega) (by omega) (p2 u1 u2 (fun q => k q.2))⟩)⟩) (fun k => ⟨inR_lit0, fun _ => ex 2 (by omega) (by omega) (p2 u1 u2 (fun q => k q.1)), fun f => absurd rfl f⟩), fun f => absurd f (by decide)⟩) (fun k => ⟨inR_lit0, fun f => absurd rfl f, fun _ => ex 1 (by omega) (by omega) (p1 k)⟩)
  have prr := pr u1 u2 l m e e' l1 l2 m1 m2 kd
  have p00 := p0 u1 u2 l m e e' l1 l2 m1 m2 kd
  intro S1 y1
  rw [y1, ms_i0]
  have M1 : MD (ms_i S 0 0) R := h.fr (mfr_i0 S 0)
  refine ⟨inR_lit0, fun _ => ?_, fun f => absurd (Int.le_refl 0) f⟩
  rw [M1.nd, e, e']
  refine sp_Mo_isInBeing M1 w l1 l2 h3 (by unfold inR; omega) (fun kb => ⟨inR_lit1, fun f => absurd f (by decide), fun _ => ?_⟩) (fun kb => ⟨inR_lit0, fun _ => prr _ _ (mfz_refl _) (Or.inl ⟨rfl, Or.inl kb⟩), fun f => absurd rfl f⟩)
  rw [M1.nd]
  refine sp_Mo_isInBeing M1 w m1 m2 h3 (by unfold inR; omega) (fun kc => ⟨inR_lit1, fun _ => ?_, fun f => absurd f (by decide)⟩) (fun kc => ⟨inR_lit0, fun f => absurd rfl f, fun _ => prr _ _ (mfz_refl _) (Or.inl ⟨rfl, Or.inr kc⟩)⟩)
  have ng : ¬ (¬ aB R l a3 (R.1 15 0) ∨ ¬ aB R m a3 (R.1 15 0)) := fun q => q.elim (fun q => q kb) (fun q => q kc)
  refine sz_Mo_isLate M1 w F.i F.n l1 l2 h3 (fun S4 g4 kl => ⟨inR_lit1, fun _ => prr _ _ g4 (Or.inr (Or.inl ⟨rfl, ng, Or.inl kl⟩)), fun f => absurd f (by decide)⟩) (fun S4 g4 kl => ⟨inR_lit0, fun f => absurd rfl f, fun _ => ?_⟩)
  refine sz_Mo_isLate (M1.fz g4) w F.i F.n m1 m2 h3 (fun S5 g5 km => ⟨inR_lit1, fun f => absurd f (by decide), fun _ => prr _ _ (mfz_trans g4 g5) (Or.inr (Or.inl ⟨rfl, ng, Or.inr km⟩))⟩) (fun S5 g5 km => ⟨inR_lit0, fun _ => ?_, fun f => absurd rfl f⟩)
  have g15 := mfz_trans g4 g5
  have M5 := M1.fz g15
  have G5 : MG S5 := (hg.e2 (S' := ms_i S 0 0) rfl).fr g15.fr
  have z5 : S5.1 0 = 0 := by rw [g15.1 0 (by omega)]; exact ms_i0 S 0
  have nlt : ¬ (aLate R l a3 ∨ aLate R m a3) := fun q => q.elim kl km
  refine ⟨by unfold inR; omega, by unfold inR; omega, fun q => ?_, fun q => prr _ _ g15 (Or.inr (Or.inr (Or.inl ⟨rfl, ng, nlt, by omega⟩)))⟩
  have nlm : ¬ l = m := by omega
  refine sp_Mo_isMuch (ml := 0) (me := 1) (kd := 4) (n := 0) M5 w (by omega) (by omega) (by omega) (by omega) (fun ku => ⟨inR_lit1, fun f => absurd f (by decide), fun _ => prr _ _ g15 (Or.inr (Or.inr (Or.inr ⟨rfl, ng, nlt, nlm, ku⟩)))⟩) (fun ku => ⟨inR_lit0, fun _ => ?_, fun f => absurd rfl f⟩)
  have ku' := ku
  unfold aMuch at ku'
  have bo := dbody_ok (kd := 4) (dy := a3.toNat) (a := l) (b := m) (c := 0) (p := 0) (row := aRow R) (en := R.1 15 0 + 1) (by omega) (by omega) (by omega) (by omega) (by omega) (by omega) (by omega) w.2.1
  have r6 : rsz 4 0 = 5 := rfl
  have r6' : rsz 4 (aRow R).length = 5 := rfl
  have acc := sp_Mo_accept (post := fun r_13 S_12 => (∀ S_14 : MS, S_14 = ms_i S_12 25 ((S_12.1 25) + 1) → ixR (S_14.1 25) 202 ∧ (∀ S_15 : MS, S_15 = ms_a S_14 26 (S_14.1 25) r_13 → ixR (S_15.1 25) 202 ∧ (∀ S_16 : MS, S_16 = ms_a S_15 27 (S_15.1 25) 0 → ixR (S_16.1 25) 202 ∧ (∀ S_17 : MS, S_17 = ms_a S_16 28 (S_16.1 25) (l : Int) → wp_Mo_settle (fun S_18 => post (S_18.1 25) S_18) S_17))))) (kd := 4) (dy := a3.toNat) (a := l) (b := m) (c := 0) (p := 0) M5 w G5 (by omega) (by omega) (by omega) (by omega) (by omega) (by omega) (by omega) (fun S9 x y z m9 g9 _ e9 => ?_)
  · rw [show ((a3.toNat : Nat) : Int) = a3 by omega] at acc
    exact acc
  have m9' : MD S9 (rEnt R 4 a3.toNat l m 0 0 x y z [l, m] (dbody 4 a3.toNat (R.1 15 0 + 1) l m 0 0 (aRow R))) := m9
  have w9 := WR_ent (R := R) (kd := 4) (dy := a3.toNat) (a := l) (b := m) (c := 0) (p := 0) (x := x) (y := y) (z := z) (nm := [l, m]) (body := dbody 4 a3.toNat (R.1 15 0 + 1) l m 0 0 (aRow R)) w (by omega) (by omega) (by omega) (by omega) (by omega) (by omega) (by omega) (fun f => by omega) (by rw [bo.2.1, r6']; omega) bo.1.2.1 bo.1.1.2
  have n9 : S9.1 25 = (R.1 25 0 : Int) := by rw [m9'.ne, rEnt_o (by omega)]
  intro S14 y14
  rw [n9] at y14
  have z14 : S14.1 25 = ((R.1 25 0 + 1 : Nat) : Int) := by rw [y14, ms_i_same]; omega
  rw [z14]
  refine ⟨⟨by omega, by omega⟩, fun S15 y15 => ?_⟩
  have z15 : S15.1 25 = ((R.1 25 0 + 1 : Nat) : Int) := by rw [y15]; exact z14
  rw [z15]
  refine ⟨⟨by omega, by omega⟩, fun S16 y16 => ?_⟩
  have z16 : S16.1 25 = ((R.1 25 0 + 1 : Nat) : Int) := by rw [y16]; exact z15
  rw [z16]
  refine ⟨⟨by omega, by omega⟩, fun S17 y17 => ?_⟩
  have e25 : (rEnt R 4 a3.toNat l m 0 0 x y z [l, m] (dbody 4 a3.toNat (R.1 15 0 + 1) l m 0 0 (aRow R))).1 25 0 = R.1 25 0 := rEnt_o (by omega)
  have m17 : MD S17 (rEas (rEnt R 4 a3.toNat l m 0 0 x y z [l, m] (dbody 4 a3.toNat (R.1 15 0 + 1) l m 0 0 (aRow R))) (R.1 15 0 + 1) l) := by
    have := m9'.easN (g := R.1 15 0 + 1) (o := l)
    rw [e25] at this
    rw [y17, y16, y15, y14]
    exact this
  have w17 := WR_eas (g := R.1 15 0 + 1) (o := l) w9 (by rw [e25]; omega) ⟨by omega, by rw [rEnt_15]; exact Nat.le_refl _⟩ ⟨l1, by rw [rEnt_o (by omega)]; exact l2⟩
  have g17 : MG S17 := by
    rw [y17, y16, y15]
    refine ((MG.wr ?_ (by omega)).wr (by omega)).wr (by omega)
    rw [y14]; exact g9.e2 rfl
  have z17 : S17.1 0 = 0 := by
    rw [y17, y16, y15, y14]
    show S9.1 0 = 0
    rw [e9]; exact z5
  have z1725 : S17.1 25 = ((R.1 25 0 + 1 : Nat) : Int) := by rw [y17]; exact z16
  refine sp_Mo_settle m17 w17 g17 (fun S' s1 s2 s3 => ?_)
  rw [s3, z1725]
  exact p00 ng nlt nlm ku S' (by rw [s3]; exact z17) s2 (s1.cgn (fun f i => set_eas f i) rfl rfl rfl)
theorem op_ease (hq : qs.Nodup) (hl : qs.length = 30) {j c n : Nat} {T : CS} {S : MS} {f : Nat → Int64} {a1 a2 a3 a4 a5 a6 : Int} (hj : j < 512) (h : LInv qs j c n T S) (h1 : inR a1) (h2 : inR a2) (h3 : inR a3) (h4 : inR a4) (h5 : inR a5) (h6 : inR a6) : st_ease (LInv qs (j + 1)) (qa qs 0) f c n a1 a2 a3 a4 a5 a6 T S := by
  obtain ⟨hc, ad, R, hS, hw, hz⟩ := h
  have B := hS.1
  have M := hS.2.1
  have F := hS.2.2.2.1
  have w := F.r
  have W := w.1
  have t0 : tg T (qa qs 0) = 1 := B.1.tag (by omega) rfl
  have r4 : fo T (qa qs 0) 4 = some (qa qs 22) := B.1.ref (i := 0) (j := 4) (z := 22) (by omega) rfl (by omega)
  have r5 : fo T (qa qs 0) 5 = some (qa qs 28) := B.1.ref (i := 0) (j := 5) (z := 28) (by omega) rfl (by omega)
  have t22 : tg T (qa qs 22) = 5 := B.1.tag (by omega) rfl
  have t28 : tg T (qa qs 28) = 6 := B.1.tag (by omega) rfl
  have inv : ∀ {T1 : CS} {S1 : MS}, Tx (scr qs) T T1 → n20 T T1 → mfr S S1 → LInv qs (j + 1) (c + 1000) (n + 14000) T1 S1 := fun g g2 m => inv_q hq hl hS hc hw hz g g2 m
  have er : ∀ v : Int, LInv qs (j + 1) (c + 1000) (n + 14000) T (ms_i S 0 v) := fun v => inv (Tx_refl _ _) (n20_refl _) (mfr_i0 S v)
  have hg := hS.2.2.1
  have he := hS.2.2.2.2.1
  have hb := hS.2.2.2.2.2.1
  have h7 := hS.2.2.2.2.2.2
  have sc : ∀ {U V : CS}, Tx (fun _ => False) U V → Tx (scr qs) U V := fun g => Tx_mono g (fun a f => f.elim)
  have t9 : tg T (ad 9 0) = 11 := B.lgA.2.2.2.1
  unfold st_ease hx_ease
  refine ⟨1000, 14000, ⟨by omega, by omega⟩, t0, ?_⟩
  have E1 : ∀ {f1 : Nat → Int64} {T1 : CS}, T1 = T → ¬ (1 ≤ R.1 7 0 ∧ R.1 2 0 = 0) → wp_Mo_ease (fun b S1 => inR b ∧ S1.1 0 = 1 ∧ ((1 : Int) = 0 → f1 0 = lI b) ∧ LInv qs (j + 1) (c + 1000) (n + 14000) T1 S1) a1 a2 a3 S := fun eT k => by
    subst eT
    exact sp_Mo_ease M hg F h1 h2 h3 (fun _ => fin_e (by decide) (ms_i0 S 1) (er 1)) (fun q1 q2 => absurd ⟨q1, q2⟩ k) (fun q1 q2 => absurd ⟨q1, q2⟩ k) (fun q1 q2 => absurd ⟨q1, q2⟩ k) (fun q1 q2 => absurd ⟨q1, q2⟩ k)
  have E2 : ∀ {f1 : Nat → Int64} {T1 : CS}, T1 = T → 1 ≤ R.1 7 0 → R.1 2 0 = 0 → ¬ ((1 ≤ a1 ∧ a1 ≤ (R.1 7 0 : Int)) ∧ (1 ≤ a2 ∧ a2 ≤ (R.1 7 0 : Int))) → wp_Mo_ease (fun b S1 => inR b ∧ S1.1 0 = 2 ∧ ((2 : Int) = 0 → f1 0 = lI b) ∧ LInv qs (j + 1) (c + 1000) (n + 14000) T1 S1) a1 a2 a3 S := fun eT u1 u2 k => by
    subst eT
    exact sp_Mo_ease M hg F h1 h2 h3 (fun q => absurd ⟨u1, u2⟩ q) (fun _ _ _ => fin_e (by decide) (ms_i0 S 2) (er 2)) (fun _ _ q q' => absurd ⟨q, q'⟩ k) (fun _ _ l m e e' l1 l2 m1 m2 => absurd ⟨⟨by omega, by omega⟩, ⟨by omega, by omega⟩⟩ k) (fun _ _ l m e e' l1 l2 m1 m2 => absurd ⟨⟨by omega, by omega⟩, ⟨by omega, by omega⟩⟩ k)
  have E3 : ∀ {f1 : Nat → Int64} {T1 : CS}, T1 = T → 1 ≤ R.1 7 0 → R.1 2 0 = 0 → (1 ≤ a1 ∧ a1 ≤ (R.1 7 0 : Int)) → (1 ≤ a2 ∧ a2 ≤ (R.1 7 0 : Int)) → ¬ (0 ≤ a3 ∧ a3 ≤ 30000) → wp_Mo_ease (fun b S1 => inR b ∧ S1.1 0 = 3 ∧ ((3 : Int) = 0 → f1 0 = lI b) ∧ LInv qs (j + 1) (c + 1000) (n + 14000) T1 S1) a1 a2 a3 S := fun eT u1 u2 k k' k3 => by
    subst eT
    exact sp_Mo_ease M hg F h1 h2 h3 (fun q => absurd ⟨u1, u2⟩ q) (fun _ _ q => absurd ⟨k, k'⟩ q) (fun _ _ _ _ _ => fin_e (by decide) (ms_i0 S 3) (er 3)) (fun _ _ _ _ _ _ _ _ _ _ q => absurd q k3) (fun _ _ _ _ _ _ _ _ _ _ q => absurd q k3)
  unfold wp_BLB_ease
  refine ⟨1, 6, 999, 13994, ⟨by omega, by omega⟩, t0, sp_B_up B w ⟨by omega, by omega⟩ (fun u1 u2 => ⟨1, 6, 998, 13988, ⟨by omega, by omega⟩, t0, sp_B_ckLot B w h1 ⟨by omega, by omega⟩ (fun l e l1 l2 => ⟨1, 6, 997, 13982, ⟨by omega, by omega⟩, t0, sp_B_ckLot B w h2 ⟨by omega, by omega⟩ (fun m e' m1 m2 => ⟨1, 6, 996, 13976, ⟨by omega, by omega⟩, sp_B_ckDay h3 ⟨by omega, by omega⟩ (fun kd => ⟨by omega, 995, 13974, ⟨by omega, by omega⟩, fun q25 T26 q0 y26 => ?_⟩) (fun k => Or.inr (Or.inr ⟨rfl, inR_lit3, E3 rfl u1 u2 (by omega) (by omega) k⟩))⟩) (fun k => Or.inr (Or.inl ⟨rfl, inR_lit2, E2 rfl u1 u2 (fun q => k q.2)⟩))⟩) (fun k => Or.inr (Or.inl ⟨rfl, inR_lit2, E2 rfl u1 u2 (fun q => k q.1)⟩))⟩) (fun k => Or.inl ⟨rfl, inR_lit1, E1 rfl k⟩)⟩
  subst e
  subst e'
  have RF : ∀ {v : Int} {T1 : CS}, Tx (scr qs) T T1 → n20 T T1 → esRf R l m a3 v → inR v ∧ inR 0 ∧ wp_Mo_ease (fun b S1 => inR b ∧ S1.1 0 = 0 ∧ ((0 : Int) = 0 → vp_updL f 0 (lI v) 0 = lI b) ∧ LInv qs (j + 1) (c + 1000) (n + 14000) T1 S1) (l : Int) (m : Int) a3 S := fun g1 g2 rf => ⟨Rf_in rf, inR_lit0, sp_Mo_ease M hg F h1 h2 h3 (fun q => absurd ⟨u1, u2⟩ q) (fun _ _ q => absurd ⟨⟨by omega, by omega⟩, ⟨by omega, by omega⟩⟩ q) (fun _ _ _ _ q => absurd kd q) (fun _ _ l' m' z z' _ _ _ _ _ v' S' g' rf' => by
      have z : l' = l := by omega
      have z' : m' = m := by omega
      subst z; subst z'
      exact fin_r (Rf_in rf) (Rf_uniq rf' rf) (by rw [g'.1 0 (by omega)]; exact ms_i0 S 0) (inv g1 g2 (mfr_trans (mfr_i0 S 0) g'.fr))) (fun _ _ l' m' z z' _ _ _ _ _ r1 r2 r3 r4 => by
      have z : l' = l := by omega
      have z' : m' = m := by omega
      subst z; subst z'
      exact absurd ⟨r1, r2, r3, r4⟩ (Rf_ne rf))⟩
  refine ⟨by rw [y26]; exact new_tg _ _ _ _, ⟨by omega, by rw [y26, new_ln]; omega⟩, fun T29 y29 => ⟨by rw [y29]; show tg T26 q25 = 11; rw [y26]; exact new_tg _ _ _ _, ⟨by omega, by rw [y29]; show (1 : Int) < (ln T26 q25 : Int); rw [y26, new_ln]; omega⟩, fun T30 y30 => ?_⟩⟩
  obtain ⟨x30, n30, s1, s2, s3, s4⟩ := arr2 q0 y26 y29 y30
  have B30 := B.tx hq hl (sc x30)
  have q25q : q25 ∉ qs := not_qs hl B.1 (Or.inl q0)
  have mem2 : ∀ x, x ∈ [l, m] ↔ x = l ∨ x = m := fun x => by simp
  have ns30 : nsAt T30 q25 [l, m] := ⟨s1, s2, by show 2 ≤ 300; omega, fun x hx => by rcases (mem2 x).mp hx with q | q <;> omega, fun i hi => by
    have : i < 2 := hi
    rcases (show i = 0 ∨ i = 1 by omega) with q | q <;> subst q
    · exact s3
    · exact s4⟩
  refine ⟨B30.1.tag (by omega) rfl, qa qs 22, B30.1.ref (i := 0) (j := 4) (z := 22) (by omega) rfl (by omega), B30.1.tag (by omega) rfl, ?_⟩
  refine sp_B_objection B30 w F.nl ns30 (fun x hx => by rcases (mem2 x).mp hx with q | q <;> omega) h3 (fun k => ⟨by unfold inR; omega, fun q => absurd q (by decide), fun _ => RF (sc x30) n30 (Or.inl ⟨rfl, ?_⟩)⟩) (fun k1 k => ⟨by unfold inR; omega, fun q => absurd q (by decide), fun _ => RF (sc x30) n30 (Or.inr (Or.inl ⟨rfl, ?_, ?_⟩))⟩) (fun kb kl => ⟨inR_lit0, fun _ => ?_, fun q => absurd rfl q⟩)
  · obtain ⟨x, hx, hb⟩ := k
    rcases (mem2 x).mp hx with q | q
    · rw [q] at hb; exact Or.inl hb
    · rw [q] at hb; exact Or.inr hb
  · rintro (q | q)
    · exact q (k1 l ((mem2 l).mpr (Or.inl rfl)))
    · exact q (k1 m ((mem2 m).mpr (Or.inr rfl)))
  · obtain ⟨x, hx, hb⟩ := k
    rcases (mem2 x).mp hx with q | q
    · rw [q] at hb; exact Or.inl hb
    · rw [q] at hb; exact Or.inr hb
  have ng : ¬ (¬ aB R l a3 (R.1 15 0) ∨ ¬ aB R m a3 (R.1 15 0)) := by
    rintro (q | q)
    · exact q (kb l ((mem2 l).mpr (Or.inl rfl)))
    · exact q (kb m ((mem2 m).mpr (Or.inr rfl)))
  have nlt : ¬ (aLate R l a3 ∨ aLate R m a3) := by
    rintro (q | q)
    · exact kl ⟨l, (mem2 l).mpr (Or.inl rfl), q⟩
    · exact kl ⟨m, (mem2 m).mpr (Or.inr rfl), q⟩
  refine ⟨h1, h2, fun kne => ⟨by omega, 994, 13973, ⟨by omega, by omega⟩, fun q34 T35 q340 y35 => ?_⟩, fun keq => RF (sc x30) n30 (Or.inr (Or.inr (Or.inl ⟨rfl, ng, nlt, by omega⟩)))⟩
  have nlm : ¬ l = m := by omega
  refine ⟨by rw [y35]; exact new_tg _ _ _ _, ⟨by omega, by rw [y35, new_ln]; omega⟩, fun T38 y38 => ?_⟩
  obtain ⟨x38', n38', v1, v2, v3⟩ := arr1 q340 y35 y38
  have x38 : Tx (scr qs) T T38 := Tx_trans (sc x30) (sc x38')
  have n38 : n20 T T38 := n20_trans n30 n38'
  have B38 := B.tx hq hl x38
  refine ⟨B38.1.tag (by omega) rfl, sp_B_isFull (ml := 0) (me := 1) (kd := 4) (n := 0) B38 w v1 (by rw [v2]; rfl) ⟨by omega, by omega, by omega⟩ (fun ku => ⟨inR_lit1, fun q => absurd q (by decide), fun _ => RF x38 n38 (Or.inr (Or.inr (Or.inr ⟨rfl, ng, nlt, nlm, ku⟩)))⟩) (fun ku => ⟨inR_lit0, fun _ => ⟨993, 13967, ⟨by omega, by omega⟩, fun q41 T42 q410 y42 => ?_⟩, fun q => absurd rfl q⟩)⟩
  have ku' := ku
  unfold aMuch at ku'
  have r6 : rsz 4 0 = 5 := rfl
  have r6' : rsz 4 (aRow R).length = 5 := rfl
  have bo := dbody_ok (kd := 4) (dy := a3.toNat) (a := l) (b := m) (c := 0) (p := 0) (row := aRow R) (en := R.1 15 0 + 1) (by omega) (by omega) (by omega) (by omega) (by omega) (by omega) (by omega) w.2.1
  have na9 : q25 ≠ ad 9 0 := fun q => by rw [q] at q0; omega
  have w25 := x38' q25 (by omega)
  have q34T : tg T q34 = 0 := Classical.byContradiction fun q => q (by rw [← (x30 q34 q).1]; exact q340)
  unfold wp_BDe_init3
  have ed : ((a3.toNat : Nat) : Int) = a3 := by omega
  have nd := sp_B_newdeed (post := fun mc_51 ms_52 r_48 T_47 => tg T_47 (qa qs 0) = 1 ∧ ∃ q_53 : Nat, fo T_47 (qa qs 0) 4 = some q_53 ∧ (∃ mc_56 ms_57 mc_58 ms_59 : Nat, (mc_51 = mc_56 + mc_58 ∧ ms_52 = ms_57 + ms_59) ∧ tg T_47 q_53 = 5 ∧ wp_BRg_grant (fun r T1 => inR r ∧ inR 0 ∧ wp_Mo_ease (fun b S1 => inR b ∧ S1.1 0 = 0 ∧ ((0 : Int) = 0 → vp_updL f 0 (lI r) 0 = lI b) ∧ LInv qs (j + 1) (c + 1000) (n + 14000) T1 S1) (l : Int) (m : Int) a3 S) mc_56 ms_57 q_53 (l : Int) T_47)) (kd := 4) (dy := a3.toNat) (a := l) (b := 0) (c := 0) (p := 0) (x := R.1 7 0) (y := R.1 25 0 + 1) (z := R.1 30 0 + (wrec (dbody 4 a3.toNat (R.1 15 0 + 1) l m 0 0 (aRow R))).length) (nm := [l, m]) (tl := dtext 4 l m 0 0 (aRow R)) (body := dbody 4 a3.toNat (R.1 15 0 + 1) l m 0 0 (aRow R)) (na := q25) (ta := q34) (mc := 993) (ms := 13967) hq hl B38 (he.n n38) ⟨by rw [w25.1]; exact s1, by rw [w25.2.1]; exact s2, fun i hi => ?_, q25q, na9⟩ ⟨v1, by rw [v2]; rfl, fun i hi => ?_, fun q => by rw [q] at q34T; omega⟩ rfl (by omega) (by rw [bo.2.1, r6']; omega) bo.1.2.1 (by show 1 ≤ 36; omega) (by omega) (by omega) q410 y42 (fun T' ad' k1 k2 k3 k4 k5 => ?_)
  · rw [show ((4 : Nat) : Int) = 4 from rfl, ed, show ((0 : Nat) : Int) = 0 from rfl] at nd
    exact nd
  · have : i < 2 := hi
    rw [w25.2.2.2 (fun q => q)]
    rcases (show i = 0 ∨ i = 1 by omega) with q | q <;> subst q
    · exact s3
    · exact s4
  · have : i = 0 := by have : i < 1 := hi; omega
    subst this
    rw [v3]; rfl
  -- the reference shows b as the second lot
  have k1b : BK qs ad' T' (rEnt R 4 a3.toNat l m 0 0 (R.1 7 0) (R.1 25 0 + 1) (R.1 30 0 + (wrec (dbody 4 a3.toNat (R.1 15 0 + 1) l m 0 0 (aRow R))).length) [l, m] (dbody 4 a3.toNat (R.1 15 0 + 1) l m 0 0 (aRow R))) := by
    refine BK_b k1 (by decide)
  have e25 : (rEnt R 4 a3.toNat l m 0 0 (R.1 7 0) (R.1 25 0 + 1) (R.1 30 0 + (wrec (dbody 4 a3.toNat (R.1 15 0 + 1) l m 0 0 (aRow R))).length) [l, m] (dbody 4 a3.toNat (R.1 15 0 + 1) l m 0 0 (aRow R))).1 25 0 = R.1 25 0 := rEnt_o (by omega)
  have e15 : (rEnt R 4 a3.toNat l m 0 0 (R.1 7 0) (R.1 25 0 + 1) (R.1 30 0 + (wrec (dbody 4 a3.toNat (R.1 15 0 + 1) l m 0 0 (aRow R))).length) [l, m] (dbody 4 a3.toNat (R.1 15 0 + 1) l m 0 0 (aRow R))).1 15 0 = R.1 15 0 + 1 := rEnt_15
  have lnT : ∀ l', 1 ≤ l' → l' ≤ R.1 7 0 → ln T' (ad' 7 l') = ln T (ad 7 l') := by
    intro l' q1 q2
    rw [k4 7 (by omega) (by omega) (by omega) (by omega)]
    have v := x38 (ad 7 l') (by rw [B.t7 q1 q2]; omega)
    rw [(k2 _ (by rw [v.1, B.t7 q1 q2]; omega)).2.1, v.2.1]
  have C := F.c.2 u1
  refine ⟨k1b.1.tag (by omega) rfl, qa qs 22, k1b.1.ref (i := 0) (j := 4) (z := 22) (by omega) rfl (by omega), 991, 6823, 0, 0, ⟨by omega, by omega⟩, k1b.1.tag (by omega) rfl, sp_B_grant (ov := l) hq hl k1b (he.n (n20_trans n38 k3)) (fun l' q1 q2 => ?_) (by rw [e25]; omega) (by omega) (by omega) (fun T2 ad2 j1 j2 j3 j4 j5 => ?_)⟩
  · rw [rEnt_o (by omega)] at q2
    rw [lnT l' q1 q2, e25]
    have := hb l' q1 q2
    have dl := F.dl q1 q2
    have cc := (C (R.1 11 l') dl.1).1.2.2
    unfold net at cc
    split at this <;> rename_i c1
    · omega
    · rw [if_neg c1] at cc; omega
  rw [e15] at j1
  rw [e25]
  have st : DStp R (esR R l m a3) 4 a3.toNat [l, m] 0 0 0 0 1 l (dbody 4 a3.toNat (R.1 15 0 + 1) l m 0 0 (aRow R)) := dstp_eas
  obtain ⟨d1, d2, d3, d4, d5, d6, d7, d8, d9⟩ := rEnt_d (R := R) (kd := 4) (dy := a3.toNat) (a := l) (b := m) (c := 0) (p := 0) (x := R.1 7 0) (y := R.1 25 0 + 1) (z := R.1 30 0 + (wrec (dbody 4 a3.toNat (R.1 15 0 + 1) l m 0 0 (aRow R))).length) (nm := [l, m]) (body := dbody 4 a3.toNat (R.1 15 0 + 1) l m 0 0 (aRow R))
  have cn : DCnd R (esR R l m a3) 4 a3.toNat [l, m] 0 0 0 0 1 l (dbody 4 a3.toNat (R.1 15 0 + 1) l m 0 0 (aRow R)) := by
    refine ⟨⟨u1, u2, by omega, by omega, by omega, by omega, by omega, by rw [bo.2.1, r6']; omega, by omega⟩, ⟨by show 2 ≤ 300; omega, fun x hx => ?_⟩, ⟨⟨fun q => absurd rfl q, fun q => by omega⟩, ⟨fun q => absurd rfl q, fun q => by omega⟩, ⟨fun _ => rfl, fun _ => rfl⟩⟩, fun q => absurd rfl q, ⟨fun q => by omega, fun _ => ?_, ?_, ?_, ?_, ?_⟩, fun q => by omega, fun q => by omega, fun _ => (mem2 l).mpr (Or.inl rfl), bo.1, w.2.1⟩
    · rw [ed]
      rcases (mem2 x).mp hx with q | q
      · rw [q]; exact ⟨⟨l1, l2⟩, kb l ((mem2 l).mpr (Or.inl rfl)), fun q => nlt (Or.inl q)⟩
      · rw [q]; exact ⟨⟨m1, m2⟩, kb m ((mem2 m).mpr (Or.inr rfl)), fun q => nlt (Or.inr q)⟩
    · rw [rEas_o _ _ _ _ (by omega), rEas_o _ _ _ _ (by omega), d3, d4]
    · rw [rEas_o _ _ _ _ (by omega), d3]; omega
    · rw [rEas_o _ _ _ _ (by omega), d4]; omega
    · rw [rEas_o _ _ _ _ (by omega), d5]; omega
    · rw [rEas_o _ _ _ _ (by omega), d6]; omega
  have F' := WF_step F st cn
  refine ⟨by unfold inR; omega, inR_lit0, sp_Mo_ease M hg F h1 h2 h3 (fun q => absurd ⟨u1, u2⟩ q) (fun _ _ q => absurd ⟨⟨by omega, by omega⟩, ⟨by omega, by omega⟩⟩ q) (fun _ _ _ _ q => absurd kd q) (fun _ _ l' m' z z' _ _ _ _ _ v' S' g' rf' => ?_) (fun _ _ l' m' z z' _ _ _ _ _ r1 r2 r3 r4 S' z0 mg md => ?_)⟩
  · have z : l' = l := by omega
    have z' : m' = m := by omega
    subst z; subst z'
    exact absurd ⟨ng, nlt, nlm, ku⟩ (Rf_ne rf')
  · have z : l' = l := by omega
    have z' : m' = m := by omega
    subst z; subst z'
    refine fin_r (by unfold inR; omega) rfl z0 (inv_acc hc j1 md mg F' (he.n (n20_trans n38 (n20_trans k3 j3))) ?_ ?_ ?_ (by rw [st.1.2.1]; omega))
    · refine hb.cg (st.1.2.1) (fun l => ?_) (fun l l1 l2 => ?_) (fun l l1 l2 => ?_)
      · rw [rEas_o _ _ _ _ (by omega)]; exact rEnt_o (by omega)
      · rw [rEas_o _ _ _ _ (by omega)]; exact rEnt_o (by have := F.dl l1 l2; omega)
      · rw [j5, (j2 _ (by rw [k1b.t7 l1 (by rw [rEnt_o (by omega)]; exact l2)]; omega)).2.1, lnT l l1 l2]
    · have g9 := lgrow_ln k5 (by rw [(x38 _ (by omega)).2.1]; exact h7) (by rw [bo.2.1, r6']; omega)
      rw [j4, (j2 _ (by have := k1b.lgA.2.2.2.1; omega)).2.1]; exact g9
    · rw [st.1.2.2.2.1, bo.2.1, r6']
      show R.1 30 0 + 5 + (aRow R).length ≤ _
      omega
end OPG
