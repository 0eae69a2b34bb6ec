/-! calls: split: the reference -/
section OPK
variable {qs : List Nat}
theorem sp_Mo_mp {S : MS} {R : AR} {post : MS → Prop} {A K : List PT} (h : MD S R) (w : WR R) {l : Nat} (h1 : 1 ≤ l) (h2 : l ≤ R.1 7 0) (er : aRing R l = A) (ew : aRow R = K) {e : Nat} (he : K.length = e + 1) (he0 : 0 < e) (part : Bool) {i j : Nat} (hi : i < A.length) (hj : j < A.length) (hp : ig_half A i (ig_at K 0)) (hq : ig_half A j (ig_at K e)) (hne : ig_at K 0 ≠ ig_at K e) (hs : gx_simple (rgn (ig_pc A K e i j part))) (hpost : ∀ S' T, mfm S S' → mmade S' T → rote (ig_flt (ig_or (ig_pc A K e i j part))) T → post S') : wp_Mo_makePart post l (bI part) S := by
  subst er; subst ew
  cases part with
  | false => exact sp_Mo_makePart h w h1 h2 he he0 false rfl rfl hne hi hj hp hq rfl hs hpost
  | true => exact sp_Mo_makePart h w h1 h2 he he0 true rfl rfl (Ne.symm hne) hj hi hq hp rfl hs hpost
theorem pc_mem {A K : List PT} (a0 : A ≠ []) (k0 : K ≠ []) {e i j : Nat} {part : Bool} {p : PT} (h : p ∈ ig_pc A K e i j part) : p ∈ A ∨ p ∈ K := by
  unfold ig_pc at h
  simp only [List.cons_append, List.mem_cons, List.mem_append, List.mem_filter] at h
  rcases h with h | h | h | h
  · exact Or.inr (by rw [h]; exact ig_at_mem k0 _)
  · obtain ⟨k, _, e⟩ := ig_seg_mem.mp h.1
    exact Or.inl (by rw [← e]; exact ig_at_mem a0 _)
  · exact Or.inr (by rw [h]; exact ig_at_mem k0 _)
  · unfold ig_int at h
    obtain ⟨k, _, e⟩ := List.mem_map.mp h
    exact Or.inr (by rw [← e]; exact ig_at_mem k0 _)
theorem pc_ne {A K : List PT} {e i j : Nat} {part : Bool} : ig_pc A K e i j part ≠ [] := by
  unfold ig_pc; simp
abbrev spOK (R : AR) (l : Nat) : Prop := ∃ e, (aRow R).length = e + 1 ∧ 0 < e ∧ ch_ok (aRing R l) (aRow R) e
def spO (A K P0 P1 : List PT) : Prop := ∃ e i j, K.length = e + 1 ∧ 0 < e ∧ i < A.length ∧ j < A.length ∧ ig_half A i (ig_at K 0) ∧ ig_half A j (ig_at K e) ∧ P0 = ig_pc A K e i j false ∧ P1 = ig_pc A K e i j true
theorem spO_uniq {A K P0 P1 Q0 Q1 : List PT} (hs : gx_simple (rgn A)) (h : spO A K P0 P1) (g : spO A K Q0 Q1) : P0 = Q0 ∧ P1 = Q1 := by
  obtain ⟨e, i, j, h1, h2, h3, h4, h5, h6, h7, h8⟩ := h
  obtain ⟨e', i', j', g1, g2, g3, g4, g5, g6, g7, g8⟩ := g
  have ee : e = e' := by omega
  subst ee
  have ei := ig_half_uniq hs h3 g3 h5 g5
  have ej := ig_half_uniq hs h4 g4 h6 g6
  subst ei; subst ej
  exact ⟨h7.trans g7.symm, h8.trans g8.symm⟩
theorem spO_geo {A K P0 P1 : List PT} (rA : rg_ok A) (hK : ∀ p ∈ K, ig_ok p) (hc : ∃ e, K.length = e + 1 ∧ 0 < e ∧ ch_ok A K e) (h : spO A K P0 P1) : (gx_simple (rgn P0) ∧ (∀ z, 0 ≤ gx_wn (rgn P0) z) ∧ (∀ p ∈ P0, ig_ok p) ∧ P0 ≠ []) ∧ (gx_simple (rgn P1) ∧ (∀ z, 0 ≤ gx_wn (rgn P1) z) ∧ (∀ p ∈ P1, ig_ok p) ∧ P1 ≠ []) ∧ ∀ z, gx_wn (rgn P0) z + gx_wn (rgn P1) z = gx_wn (rgn A) z := by
  obtain ⟨e, i, j, h1, h2, h3, h4, h5, h6, h7, h8⟩ := h
  obtain ⟨e', c1, c2, c3⟩ := hc
  have ee : e' = e := by omega
  subst ee
  obtain ⟨⟨p1, p2⟩, ⟨p3, p4⟩, p5⟩ := ig_pieces rA.1 hK rA.2.2.1 rA.2.2.2 rA.ne h1 h2 c3 h3 h4 h5 h6
  have k0 : K ≠ [] := by intro f; rw [f] at h1; simp at h1
  rw [h7, h8]
  exact ⟨⟨p1, p2, fun p hp => (pc_mem rA.ne k0 hp).elim (rA.1 p) (hK p), pc_ne⟩, ⟨p3, p4, fun p hp => (pc_mem rA.ne k0 hp).elim (rA.1 p) (hK p), pc_ne⟩, p5⟩
abbrev spMuch (R : AR) (l : Nat) : Prop := (∃ P0 P1, spO (aRing R l) (aRow R) P0 P1 ∧ (60 < (ig_flt (ig_or P0)).length ∨ 60 < (ig_flt (ig_or P1)).length)) ∨ aMuch R 2 0 1 (aRow R).length
abbrev spRf (R : AR) (l : Nat) (y v : Int) : Prop := Rf (¬ aB R l y (R.1 15 0)) (aLate R l y) (¬ spOK R l) (spMuch R l) v
abbrev spR (R : AR) (l : Nat) (y : Int) (K1 K2 : List PT) (sh : Nat → Int) (ih : Nat → Bool) : AR := rLots (R.1 15 0 + 1) l 0 sh ih [K1, K2] (rEnds (R.1 15 0 + 1) [l] (rEnt (rRow R []) 1 y.toNat l 0 0 0 (R.1 7 0 + 2) (R.1 25 0) (R.1 30 0 + (wrec (dbody 1 y.toNat (R.1 15 0 + 1) l 0 0 0 (aRow R))).length) [l] (dbody 1 y.toNat (R.1 15 0 + 1) l 0 0 0 (aRow R))))
theorem kept_of {P T K : List PT} (h : rote (ig_flt (ig_or P)) T) (r : rote T K) (k : ∀ p ∈ K, ig_pk (ig_at K 0) ≤ ig_pk p) : ig_kept P K := ⟨rote_trans h r, k⟩
theorem made_ne {P T : List PT} (o3 : ∀ p ∈ P, ig_ok p) (o1 : gx_simple (rgn P)) (o4 : P ≠ []) (h : rote (ig_flt (ig_or P)) T) : T ≠ [] ∧ ∀ p ∈ T, ig_ok p := by
  refine ⟨fun f => ?_, fun p hp => o3 p ((ig_or_mem p).mp ((ig_flt_sub _).subset ((rote_mem h p).mp hp)))⟩
  have kk : ig_kept P T := ⟨h, by rw [f]; intro p hp; exact absurd hp List.not_mem_nil⟩
  have := (ig_kept_good o3 o1 o4 kk).2.2.2
  rw [f] at this
  exact absurd this (by decide)
theorem mfz_m {S S' S2 : MS} (h : mfz S S') (g : mfm S' S2) : mfz S S2 := mfz_trans h g.fz
theorem sp_Mo_split {S : MS} {R : AR} {post : Int → MS → Prop} (h : MD S R) (hg : MG S) (F : WF R) {a1 a2 : Int} (h1 : inR a1) (h2 : inR a2) (p1 : ¬ (1 ≤ R.1 7 0 ∧ R.1 2 0 = 0) → post 0 (ms_i (ms_i S 0 1) 4 0)) (p2 : 1 ≤ R.1 7 0 → R.1 2 0 = 0 → ¬ (1 ≤ a1 ∧ a1 ≤ (R.1 7 0 : Int)) → post 0 (ms_i (ms_i S 0 2) 4 0)) (p3 : 1 ≤ R.1 7 0 → R.1 2 0 = 0 → (1 ≤ a1 ∧ a1 ≤ (R.1 7 0 : Int)) → ¬ (0 ≤ a2 ∧ a2 ≤ 30000) → post 0 (ms_i (ms_i S 0 3) 4 0))
    (pr : 1 ≤ R.1 7 0 → R.1 2 0 = 0 → ∀ l : Nat, a1 = l → 1 ≤ l → l ≤ R.1 7 0 → (0 ≤ a2 ∧ a2 ≤ 30000) → ∀ v S', mfz (ms_i S 0 0) S' → spRf R l a2 v → post v (ms_i S' 4 0))
    (p0 : 1 ≤ R.1 7 0 → R.1 2 0 = 0 → ∀ l : Nat, a1 = l → 1 ≤ l → l ≤ R.1 7 0 → (0 ≤ a2 ∧ a2 ≤ 30000) → aB R l a2 (R.1 15 0) → ¬ aLate R l a2 → spOK R l → ¬ spMuch R l → ∀ P0 P1 K1 K2 S', spO (aRing R l) (aRow R) P0 P1 → ig_kept P0 K1 → ig_kept P1 K2 → S'.1 0 = 0 → MG S' → (∀ sh ih, MD S' (spR R l a2 K1 K2 sh ih)) → post ((R.1 7 0 + 1 : Nat) : Int) S') : wp_Mo_split post a1 a2 S := by
  have w := F.r
  have W := w.1
  have ex : ∀ v : Int, 0 < v → v ≤ 3 → post 0 (ms_i (ms_i S 0 v) 4 0) → wp_Mo_split_36 post a1 a2 v S := by
    intro v v0 v3 hp S1 y1
    rw [y1, ms_i0]
    exact ⟨by unfold inR; omega, fun f => by omega, fun _ S2 y2 => by rw [y2]; exact hp⟩
  unfold wp_Mo_split
  refine sp_Mo_isUp h w (fun u1 u2 => ⟨inR_lit1, fun _ => sp_Mo_isLot h w h1 (fun l e l1 l2 => ⟨inR_lit1, fun _ => sp_Mo_isDay h2 (fun kd => ⟨inR_lit1, fun _ => ?_, fun f => absurd f (by decide)⟩) (fun kd => ⟨inR_lit0, fun f => absurd rfl f, fun _ => ex 3 (by omega) (by omega) (p3 u1 u2 (by omega) kd)⟩), fun f => absurd f (by decide)⟩) (fun k => ⟨inR_lit0, fun f => absurd rfl f, fun _ => ex 2 (by omega) (by omega) (p2 u1 u2 k)⟩), fun f => absurd f (by decide)⟩) (fun k => ⟨inR_lit0, fun f => absurd rfl f, fun _ => ex 1 (by omega) (by omega) (p1 k)⟩)
  have prr : ∀ v S', mfz (ms_i S 0 0) S' → spRf R l a2 v → wp_Mo_split_56 post v S' := fun v S' q1 q2 S2 y2 => by rw [y2]; exact pr u1 u2 l e l1 l2 kd v S' q1 q2
  have p00 := p0 u1 u2 l e l1 l2 kd
  intro S1 y1
  rw [y1, ms_i0]
  have M1 : MD (ms_i S 0 0) R := h.fr (mfr_i0 S 0)
  refine ⟨inR_lit0, fun _ => ?_, fun f => absurd (Int.le_refl 0) f⟩
  unfold wp_Mo_splitNow
  rw [M1.nd, e]
  have rA := w.rg l1 l2
  have hK := w.2.1.2
  refine sp_Mo_isInBeing M1 w l1 l2 h2 (by unfold inR; omega) (fun kb => ⟨inR_lit1, fun _ => ?_, fun f => absurd f (by decide)⟩) (fun kb => ⟨inR_lit0, fun f => absurd rfl f, fun _ => prr _ _ (mfz_refl _) (Or.inl ⟨rfl, kb⟩)⟩)
  refine sz_Mo_isLate M1 w F.i F.n l1 l2 h2 (fun S4 g4 kl => ⟨inR_lit1, fun f => absurd f (by decide), fun _ => prr _ _ g4 (Or.inr (Or.inl ⟨rfl, fun f => f kb, kl⟩))⟩) (fun S4 g4 kl => ⟨inR_lit0, fun _ => ?_, fun f => absurd rfl f⟩)
  have M4 := M1.fz g4
  have bad : ¬ spOK R l → inR 0 ∧ (¬ ((0 : Int) = 0) → wp_Mo_makePart (fun S_7 => inR (S_7.1 33) ∧ ((S_7.1 33) ≤ 60 → wp_Mo_splitNow_58 (fun r_3 S_2 => wp_Mo_split_56 post r_3 S_2) l a2 0 S_7) ∧ (¬ ((S_7.1 33) ≤ 60) → wp_Mo_splitNow_58 (fun r_3 S_2 => wp_Mo_split_56 post r_3 S_2) l a2 1 S_7)) l 0 S4) ∧ ((0 : Int) = 0 → (wp_Mo_split_56 post (-3) S4)) := fun q => ⟨inR_lit0, fun f => absurd rfl f, fun _ => prr _ _ g4 (Or.inr (Or.inr (Or.inl ⟨rfl, fun f => f kb, kl, q⟩)))⟩
  refine sp_Mo_isChain M4 w l1 l2 (fun q => bad (fun ⟨e', q1, q2, _⟩ => by omega)) (fun e' he he0 cm => ⟨inR_lit1, fun _ => ?_, fun f => absurd f (by decide)⟩) (fun e' he he0 cm => bad (fun ⟨e2, q1, q2, q3⟩ => by
    have : e2 = e' := by omega
    subst this
    exact cm ((ch_iff rA.1 hK rA.2.2.1 rA.2.2.2 rA.ne he he0).mp q3)))
  have ch := (ch_iff rA.1 hK rA.2.2.1 rA.2.2.2 rA.ne he he0).mpr cm
  have ok : spOK R l := ⟨e', he, he0, ch⟩
  obtain ⟨hne, ⟨i, hi, hpi⟩, ⟨j, hj, hqj⟩⟩ := ch.1
  have hO : spO (aRing R l) (aRow R) (ig_pc (aRing R l) (aRow R) e' i j false) (ig_pc (aRing R l) (aRow R) e' i j true) := ⟨e', i, j, he, he0, hi, hj, hpi, hqj, rfl, rfl⟩
  obtain ⟨⟨s0, w0, o0, n0⟩, ⟨s1, w1, o1, n1⟩, sw⟩ := spO_geo rA hK ok hO
  -- the two pieces measured
  have k83 : ∀ (g : Bool) (S5 : MS), mfz (ms_i S 0 0) S5 → (g = true ↔ 60 < (ig_flt (ig_or (ig_pc (aRing R l) (aRow R) e' i j false))).length ∨ 60 < (ig_flt (ig_or (ig_pc (aRing R l) (aRow R) e' i j true))).length) → wp_Mo_splitNow_83 (fun r_3 S_2 => wp_Mo_split_56 post r_3 S_2) l a2 (bI g) S5 := by
    intro g S5 g5 hg5
    have M5 := M1.fz g5
    have G5 : MG S5 := (hg.e2 (S' := ms_i S 0 0) rfl).fr g5.fr
    have z5 : S5.1 0 = 0 := by rw [g5.1 0 (by omega)]; exact ms_i0 S 0
    unfold wp_Mo_splitNow_83
    refine ⟨bI_in g, fun q => prr _ _ g5 (Or.inr (Or.inr (Or.inr ⟨rfl, fun f => f kb, kl, fun f => f ok, Or.inl ⟨_, _, hO, hg5.mp (bI_ne.mp q)⟩⟩))), fun q => ?_⟩
    have ns : ¬ (60 < (ig_flt (ig_or (ig_pc (aRing R l) (aRow R) e' i j false))).length ∨ 60 < (ig_flt (ig_or (ig_pc (aRing R l) (aRow R) e' i j true))).length) := fun f => by rw [bI_0, hg5.mpr f] at q; exact absurd q (by decide)
    rw [M5.2.1.1]
    have r32 := w.2.1.1
    refine sp_Mo_isMuch (ml := 2) (me := 0) (kd := 1) (n := (aRow R).length) M5 w (by omega) (by omega) (by omega) r32 (fun ku => ⟨inR_lit1, fun f => absurd f (by decide), fun _ => prr _ _ g5 (Or.inr (Or.inr (Or.inr ⟨rfl, fun f => f kb, kl, fun f => f ok, Or.inr ku⟩)))⟩) (fun ku => ⟨inR_lit0, fun _ => ?_, fun f => absurd rfl f⟩)
    have ku' := ku
    unfold aMuch at ku'
    have nmu : ¬ spMuch R l := by
      rintro (⟨Q0, Q1, q1, q2⟩ | q)
      · obtain ⟨e0, e1⟩ := spO_uniq rA.2.2.1 q1 hO
        rw [e0, e1] at q2; exact ns q2
      · exact ku q
    have bo := dbody_ok (kd := 1) (dy := a2.toNat) (a := l) (b := 0) (c := 0) (p := 0) (row := aRow R) (en := R.1 15 0 + 1) (by omega) (by omega) (by omega) (by omega) (by omega) (by omega) (by omega) w.2.1
    have acc := sp_Mo_accept (post := fun r_4 S_3 => ixR (l : Int) 302 ∧ (∀ S_5 : MS, S_5 = ms_a S_3 12 (l : Int) r_4 → wp_Mo_makePart (fun S_6 => wp_Mo_beget (fun S_8 => wp_Mo_makePart (fun S_10 => wp_Mo_beget (fun S_12 => wp_Mo_settle (fun S_14 => wp_Mo_split_56 post ((S_14.1 7) - 1) S_14) S_12) r_4 (l : Int) 0 S_10) (l : Int) 1 S_8) r_4 (l : Int) 0 S_6) (l : Int) 0 S_5)) (kd := 1) (dy := a2.toNat) (a := l) (b := 0) (c := 0) (p := 0) M5 w G5 (by omega) (by omega) (by omega) (by omega) (by omega) (by omega) (by omega) (fun S9 x y z m9 g9 fr9 e9 => ?_)
    · rw [show ((a2.toNat : Nat) : Int) = a2 by omega] at acc
      exact acc
    have w9 := WR_ent (R := R) (kd := 1) (dy := a2.toNat) (a := l) (b := 0) (c := 0) (p := 0) (x := x) (y := y) (z := z) (nm := [l]) (body := dbody 1 a2.toNat (R.1 15 0 + 1) l 0 0 0 (aRow R)) w (by omega) (by omega) (by omega) (by omega) (by omega) (by omega) (by omega) (fun f => by omega) (by rw [bo.2.1]; omega) bo.1.2.1 bo.1.1.2
    refine ⟨⟨by omega, by omega⟩, fun Sa ya => ?_⟩
    have ma : MD Sa (rEnds (R.1 15 0 + 1) [l] (rEnt R 1 a2.toNat l 0 0 0 x y z [l] (dbody 1 a2.toNat (R.1 15 0 + 1) l 0 0 0 (aRow R)))) := by
      rw [ya]
      exact MD.wr (R := rEnt R 1 a2.toNat l 0 0 0 x y z [l] (dbody 1 a2.toNat (R.1 15 0 + 1) l 0 0 0 (aRow R))) m9 (by omega)
    have wa : WR (rEnds (R.1 15 0 + 1) [l] (rEnt R 1 a2.toNat l 0 0 0 x y z [l] (dbody 1 a2.toNat (R.1 15 0 + 1) l 0 0 0 (aRow R)))) := WR_end w9 (by rw [rEnt_15]; exact Nat.le_refl _)
    have ga : MG Sa := by rw [ya]; exact g9.wr (by omega)
    have za : Sa.1 0 = 0 := by rw [ya]; show S9.1 0 = 0; rw [e9]; exact z5
    have e7 : (rEnds (R.1 15 0 + 1) [l] (rEnt R 1 a2.toNat l 0 0 0 x y z [l] (dbody 1 a2.toNat (R.1 15 0 + 1) l 0 0 0 (aRow R)))).1 7 0 = R.1 7 0 := by rw [ends_7]; exact rEnt_o (by omega)
    have e15 : (rEnds (R.1 15 0 + 1) [l] (rEnt R 1 a2.toNat l 0 0 0 x y z [l] (dbody 1 a2.toNat (R.1 15 0 + 1) l 0 0 0 (aRow R)))).1 15 0 = R.1 15 0 + 1 := by rw [ends_n, if_neg (by omega)]; exact rEnt_15
    refine sp_Mo_mp (A := aRing R l) (K := aRow R) ma wa l1 (by rw [e7]; exact l2) rfl rfl he he0 false hi hj hpi hqj hne s0 (fun Sb Tb fb mb rb => ?_)
    obtain ⟨tb0, tb1⟩ := made_ne o0 s0 n0 rb
    have t60 : Tb.length ≤ 60 := by rw [← rb.1]; omega
    have mB := ma.fr fb.fr
    have gB : MG Sb := ga.fr fb.fr
    have zB : Sb.1 0 = 0 := by rw [fb.1 0 (by omega)]; exact za
    refine sp_Mo_beget (a := l) (b := 0) mB wa gB (by rw [e7]; omega) (by rw [e7]; omega) mb tb0 tb1 t60 (fun Sc K1 rc kc mc gc ec => ?_)
    have kK1 : ig_kept (ig_pc (aRing R l) (aRow R) e' i j false) K1 := kept_of rb rc kc
    have rgK1 := (kept_rg o0 s0 w0 n0 kK1 (by rw [← rc.1]; exact t60)).1
    have mc' : MD Sc (rLotB (rEnds (R.1 15 0 + 1) [l] (rEnt R 1 a2.toNat l 0 0 0 x y z [l] (dbody 1 a2.toNat (R.1 15 0 + 1) l 0 0 0 (aRow R)))) (R.1 15 0 + 1) l 0 K1 (fun _ => 0) (fun _ => false)) := mc.cgn (fun _ _ => rfl) rfl rfl rfl
    have wc := WR_lot (d := R.1 15 0 + 1) (a := l) (b := 0) (K := K1) (sh := fun _ => 0) (ih := fun _ => false) wa (by rw [e7]; omega) ⟨by omega, by rw [e15]; exact Nat.le_refl _⟩ (by rw [e7]; omega) (by omega) rgK1
    have e7c : (rLotB (rEnds (R.1 15 0 + 1) [l] (rEnt R 1 a2.toNat l 0 0 0 x y z [l] (dbody 1 a2.toNat (R.1 15 0 + 1) l 0 0 0 (aRow R)))) (R.1 15 0 + 1) l 0 K1 (fun _ => 0) (fun _ => false)).1 7 0 = R.1 7 0 + 1 := by rw [rLotB_7, e7]
    have e15c : (rLotB (rEnds (R.1 15 0 + 1) [l] (rEnt R 1 a2.toNat l 0 0 0 x y z [l] (dbody 1 a2.toNat (R.1 15 0 + 1) l 0 0 0 (aRow R)))) (R.1 15 0 + 1) l 0 K1 (fun _ => 0) (fun _ => false)).1 15 0 = R.1 15 0 + 1 := by rw [rLotB_o _ _ _ _ _ _ _ _ ⟨by omega, by omega⟩]; exact e15
    refine sp_Mo_mp (A := aRing R l) (K := aRow R) mc' wc l1 (by rw [e7c]; omega) ?_ rfl he he0 true hi hj hpi hqj hne s1 (fun Sd Td fd md rd => ?_)
    · show (if l = (rEnds (R.1 15 0 + 1) [l] (rEnt R 1 a2.toNat l 0 0 0 x y z [l] (dbody 1 a2.toNat (R.1 15 0 + 1) l 0 0 0 (aRow R)))).1 7 0 + 1 then K1 else aRing R l) = aRing R l
      rw [e7, if_neg (by omega)]
    obtain ⟨td0, td1⟩ := made_ne o1 s1 n1 rd
    have t60d : Td.length ≤ 60 := by rw [← rd.1]; omega
    refine sp_Mo_beget (a := l) (b := 0) (mc'.fr fd.fr) wc (gc.fr fd.fr) (by rw [e7c]; omega) (by rw [e7c]; omega) md td0 td1 t60d (fun Se K2 re ke me ge ee => ?_)
    have kK2 : ig_kept (ig_pc (aRing R l) (aRow R) e' i j true) K2 := kept_of rd re ke
    have rgK2 := (kept_rg o1 s1 w1 n1 kK2 (by rw [← re.1]; exact t60d)).1
    have me' : ∀ sh ih, MD Se (rLots (R.1 15 0 + 1) l 0 sh ih [K1, K2] (rEnds (R.1 15 0 + 1) [l] (rEnt R 1 a2.toNat l 0 0 0 x y z [l] (dbody 1 a2.toNat (R.1 15 0 + 1) l 0 0 0 (aRow R))))) := fun sh ih => me.cgn (fun _ _ => rfl) rfl rfl rfl
    have we := WR_lot (d := R.1 15 0 + 1) (a := l) (b := 0) (K := K2) (sh := fun _ => 0) (ih := fun _ => false) wc (by rw [e7c]; omega) ⟨by omega, by rw [e15c]; exact Nat.le_refl _⟩ (by rw [e7c]; omega) (by omega) rgK2
    refine sp_Mo_settle (me' (fun _ => 0) (fun _ => false)) we ge (fun S' q1 q2 q3 => ?_)
    have e7' : S'.1 7 = ((R.1 7 0 + 2 : Nat) : Int) := by
      rw [q3, (me' (fun _ => 0) (fun _ => false)).nl]
      show (((rLotB (rLotB (rEnds (R.1 15 0 + 1) [l] (rEnt R 1 a2.toNat l 0 0 0 x y z [l] (dbody 1 a2.toNat (R.1 15 0 + 1) l 0 0 0 (aRow R)))) (R.1 15 0 + 1) l 0 K1 (fun _ => 0) (fun _ => false)) (R.1 15 0 + 1) l 0 K2 (fun _ => 0) (fun _ => false)).1 7 0 : Nat) : Int) = _
      rw [rLotB_7, e7c]
    rw [e7', show ((R.1 7 0 + 2 : Nat) : Int) - 1 = ((R.1 7 0 + 1 : Nat) : Int) by omega]
    intro Sf yf
    rw [yf]
    refine p00 kb kl ok nmu _ _ K1 K2 _ hO kK1 kK2 ?_ (q2.e2 rfl) (fun sh ih => ?_)
    · show S'.1 0 = 0
      rw [q3, ee, fd.1 0 (by omega), ec]; exact zB
    · have m1 : MD S' (rLots (R.1 15 0 + 1) l 0 sh ih [K1, K2] (rEnds (R.1 15 0 + 1) [l] (rEnt R 1 a2.toNat l 0 0 0 (R.1 7 0 + 2) (R.1 25 0) (R.1 30 0 + (wrec (dbody 1 a2.toNat (R.1 15 0 + 1) l 0 0 0 (aRow R))).length) [l] (dbody 1 a2.toNat (R.1 15 0 + 1) l 0 0 0 (aRow R))))) := q1.cgn (fun f i => set_lot2 (sh := fun _ => 0) (ih := fun _ => false) f i) rfl rfl rfl
      have m2 := m1.rw (S' := ms_i S' 4 0) (l := []) (fun k k1 k2 k3 => by
        show (if k = 4 then _ else S'.1 k) = S'.1 k
        rw [if_neg k3]) (fun k _ _ _ _ => rfl) ⟨rfl, by show 0 ≤ 32; omega, fun k hk => absurd hk (Nat.not_lt_zero _)⟩
      exact m2.cgn (fun _ _ => rfl) rfl rfl rfl
  have k58 : ∀ (g : Bool) (S5 : MS), mfz (ms_i S 0 0) S5 → (g = true ↔ 60 < (ig_flt (ig_or (ig_pc (aRing R l) (aRow R) e' i j false))).length) → wp_Mo_splitNow_58 (fun r_3 S_2 => wp_Mo_split_56 post r_3 S_2) l a2 (bI g) S5 := by
    intro g S5 g5 hg5
    unfold wp_Mo_splitNow_58
    refine sp_Mo_mp (A := aRing R l) (K := aRow R) (M1.fz g5) w l1 l2 rfl rfl he he0 true hi hj hpi hqj hne s1 (fun Sb Tb fb mb rb => ?_)
    have t400 := mb.2.1
    rw [mb.1]
    refine ⟨bI_in g, fun q => k83 true Sb (mfz_m g5 fb) ⟨fun _ => Or.inl (hg5.mp (bI_ne.mp q)), fun _ => rfl⟩, fun q => ⟨by unfold inR; omega, fun q2 => k83 false Sb (mfz_m g5 fb) ⟨fun f => absurd f (by decide), ?_⟩, fun q2 => k83 true Sb (mfz_m g5 fb) ⟨fun _ => Or.inr (by rw [rb.1]; omega), fun _ => rfl⟩⟩⟩
    rintro (f | f)
    · rw [bI_0, hg5.mpr f] at q; exact absurd q (by decide)
    · rw [rb.1] at f; omega
  refine sp_Mo_mp (A := aRing R l) (K := aRow R) M4 w l1 l2 rfl rfl he he0 false hi hj hpi hqj hne s0 (fun Sb Tb fb mb rb => ?_)
  have t400 := mb.2.1
  rw [mb.1]
  exact ⟨by unfold inR; omega, fun q2 => k58 false Sb (mfz_m g4 fb) ⟨fun f => absurd f (by decide), fun f => by rw [rb.1] at f; omega⟩, fun q2 => k58 true Sb (mfz_m g4 fb) ⟨fun _ => by rw [rb.1]; omega, fun _ => rfl⟩⟩
end OPK
