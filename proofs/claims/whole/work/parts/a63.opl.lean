/-! calls: split -/
section OPL
variable {qs : List Nat}
theorem fixed.cu {T : CS} (h : fixed qs T) : cutAt T (qa qs 5) (qa qs 6) (qa qs 7) (qa qs 8) (qa qs 9) (qa qs 10) (qa qs 11) :=
  ⟨h.tag (by omega) rfl, h.ref (i := 5) (j := 0) (by omega) rfl (by omega), h.ref (i := 5) (j := 1) (by omega) rfl (by omega), h.ref (i := 5) (j := 2) (by omega) rfl (by omega), h.spt (by omega) (by omega) rfl rfl rfl rfl (by omega) (by omega), h.spt (by omega) (by omega) rfl rfl rfl rfl (by omega) (by omega), h.spt (by omega) (by omega) rfl rfl rfl rfl (by omega) (by omega)⟩
theorem mfr_40 (S : MS) (v : Int) : mfr (ms_i S 4 0) (ms_i (ms_i S 0 v) 4 0) := by
  refine ⟨fun k k1 k2 => ?_, fun k _ _ => rfl⟩
  show (if k = 4 then (0 : Int) else if k = 0 then v else S.1 k) = if k = 4 then 0 else S.1 k
  by_cases q : k = 4
  · rw [if_pos q, if_pos q]
  · rw [if_neg q, if_neg q, if_neg (by omega)]
theorem mfr_4z {S S' : MS} (h : mfz (ms_i S 0 0) S') : mfr (ms_i S 4 0) (ms_i S' 4 0) := by
  refine ⟨fun k k1 k2 => ?_, fun k q1 q2 => h.2 k q1 q2⟩
  show (if k = 4 then (0 : Int) else S'.1 k) = if k = 4 then 0 else S.1 k
  by_cases q : k = 4
  · rw [if_pos q, if_pos q]
  · rw [if_neg q, if_neg q, h.1 k k2]
    show (if k = 0 then (0 : Int) else S.1 k) = S.1 k
    rw [if_neg (by omega)]
theorem dtext1 (l : Nat) (row : List PT) : dtext 1 l 0 0 0 row = (l : Int) :: row.map ig_pk := rfl
theorem op_split (hq : qs.Nodup) (hl : qs.length = 30) {j c n : Nat} {T : CS} {S : MS} {f : Nat → Int64} {a1 a2 a3 a4 a5 a6 : Int} (hj : j < 512) (h : LInv qs j c n T S) (h1 : inR a1) (h2 : inR a2) (h3 : inR a3) (h4 : inR a4) (h5 : inR a5) (h6 : inR a6) : st_split (LInv qs (j + 1)) (qa qs 0) f c n a1 a2 a3 a4 a5 a6 T S := by
  obtain ⟨hc, ad, R, hS, hw, hz⟩ := h
  have B := hS.1
  have M := hS.2.1
  have F := hS.2.2.2.1
  have w := F.r
  have W := w.1
  have t0 : tg T (qa qs 0) = 1 := B.1.tag (by omega) rfl
  have r4 : fo T (qa qs 0) 4 = some (qa qs 22) := B.1.ref (i := 0) (j := 4) (z := 22) (by omega) rfl (by omega)
  have r5 : fo T (qa qs 0) 5 = some (qa qs 28) := B.1.ref (i := 0) (j := 5) (z := 28) (by omega) rfl (by omega)
  have t22 : tg T (qa qs 22) = 5 := B.1.tag (by omega) rfl
  have t28 : tg T (qa qs 28) = 6 := B.1.tag (by omega) rfl
  have inv : ∀ {T1 : CS} {S1 : MS}, Tx (scr qs) T T1 → n20 T T1 → mfr S S1 → LInv qs (j + 1) (c + 1000) (n + 14000) T1 S1 := fun g g2 m => inv_q hq hl hS hc hw hz g g2 m
  have er : ∀ v : Int, LInv qs (j + 1) (c + 1000) (n + 14000) T (ms_i S 0 v) := fun v => inv (Tx_refl _ _) (n20_refl _) (mfr_i0 S v)
  have hg := hS.2.2.1
  have he := hS.2.2.2.2.1
  have hb := hS.2.2.2.2.2.1
  have h7 := hS.2.2.2.2.2.2
  have sc : ∀ {U V : CS}, Tx (fun _ => False) U V → Tx (scr qs) U V := fun g => Tx_mono g (fun a f => f.elim)
  have t9 : tg T (ad 9 0) = 11 := B.lgA.2.2.2.1
  unfold st_split hx_split
  refine ⟨1000, 14000, ⟨by omega, by omega⟩, t0, ?_⟩
  unfold wp_BLB_split
  refine ⟨t0, sp_B_takeRow hq hl B (fun T1 g1 B1 pc => ?_)⟩
  have r32 := w.2.1.1
  have hK := w.2.1.2
  have F0 : WF (rRow R []) := WF_row F (by show 0 ≤ 32; omega) (fun p hp => absurd hp List.not_mem_nil)
  have w0 : WR (rRow R []) := F0.r
  have nT1 : n20 T T1 := n20_tw g1
  have M0 : MD (ms_i S 4 0) (rRow R []) := M.rw (S' := ms_i S 4 0) (l := []) (fun k k1 k2 k3 => by
      show (if k = 4 then _ else S.1 k) = S.1 k
      rw [if_neg k3]) (fun k _ _ _ _ => rfl) ⟨rfl, by show 0 ≤ 32; omega, fun k hk => absurd hk (Nat.not_lt_zero _)⟩
  have hb1 : bt ad T1 (rRow R []) := hb.cg rfl (fun _ => rfl) (fun _ _ _ => rfl) (fun l a b => by rw [g1.2.1])
  have h71 : ln T1 (ad 9 0) ≤ 7000 := by rw [g1.2.1]; exact h7
  have hS0 : SI qs ad T1 (ms_i S 4 0) (rRow R []) := ⟨B1, M0, hg.e2 rfl, F0, he.n nT1, hb1, h71⟩
  have inv0 : ∀ {T2 : CS} {S2 : MS}, Tx (scr qs) T1 T2 → n20 T1 T2 → mfr (ms_i S 4 0) S2 → LInv qs (j + 1) (c + 1000) (n + 14000) T2 S2 := fun g g2 m => inv_q hq hl hS0 hc (by show R.1 30 0 + 0 ≤ _; omega) hz g g2 m
  have er0 : ∀ v : Int, LInv qs (j + 1) (c + 1000) (n + 14000) T1 (ms_i (ms_i S 0 v) 4 0) := fun v => inv0 (Tx_refl _ _) (n20_refl _) (mfr_40 S v)
  have z4 : ∀ v : Int, (ms_i (ms_i S 0 v) 4 0).1 0 = v := fun v => by
    show (if 0 = 0 then v else S.1 0) = v
    rw [if_pos rfl]
  have E1 : ∀ {f1 : Nat → Int64} {T2 : CS}, T2 = T1 → ¬ (1 ≤ R.1 7 0 ∧ R.1 2 0 = 0) → wp_Mo_split (fun b S1 => inR b ∧ S1.1 0 = 1 ∧ ((1 : Int) = 0 → f1 0 = lI b) ∧ LInv qs (j + 1) (c + 1000) (n + 14000) T2 S1) a1 a2 S := fun eT k => by
    subst eT
    exact sp_Mo_split M hg F h1 h2 (fun _ => fin_e (by decide) (z4 1) (er0 1)) (fun q1 q2 => absurd ⟨q1, q2⟩ k) (fun q1 q2 => absurd ⟨q1, q2⟩ k) (fun q1 q2 => absurd ⟨q1, q2⟩ k) (fun q1 q2 => absurd ⟨q1, q2⟩ k)
  have E2 : ∀ {f1 : Nat → Int64} {T2 : CS}, T2 = T1 → 1 ≤ R.1 7 0 → R.1 2 0 = 0 → ¬ (1 ≤ a1 ∧ a1 ≤ (R.1 7 0 : Int)) → wp_Mo_split (fun b S1 => inR b ∧ S1.1 0 = 2 ∧ ((2 : Int) = 0 → f1 0 = lI b) ∧ LInv qs (j + 1) (c + 1000) (n + 14000) T2 S1) a1 a2 S := fun eT u1 u2 k => by
    subst eT
    exact sp_Mo_split M hg F h1 h2 (fun q => absurd ⟨u1, u2⟩ q) (fun _ _ _ => fin_e (by decide) (z4 2) (er0 2)) (fun _ _ q => absurd q k) (fun _ _ l e l1 l2 => absurd ⟨by omega, by omega⟩ k) (fun _ _ l e l1 l2 => absurd ⟨by omega, by omega⟩ k)
  have E3 : ∀ {f1 : Nat → Int64} {T2 : CS}, T2 = T1 → 1 ≤ R.1 7 0 → R.1 2 0 = 0 → (1 ≤ a1 ∧ a1 ≤ (R.1 7 0 : Int)) → ¬ (0 ≤ a2 ∧ a2 ≤ 30000) → wp_Mo_split (fun b S1 => inR b ∧ S1.1 0 = 3 ∧ ((3 : Int) = 0 → f1 0 = lI b) ∧ LInv qs (j + 1) (c + 1000) (n + 14000) T2 S1) a1 a2 S := fun eT u1 u2 k k3 => by
    subst eT
    exact sp_Mo_split M hg F h1 h2 (fun q => absurd ⟨u1, u2⟩ q) (fun _ _ q => absurd k q) (fun _ _ _ _ => fin_e (by decide) (z4 3) (er0 3)) (fun _ _ _ _ _ _ q => absurd q k3) (fun _ _ _ _ _ _ q => absurd q k3)
  have t01 : tg T1 (qa qs 0) = 1 := B1.1.tag (by omega) rfl
  refine ⟨1, 6, 999, 13994, ⟨by omega, by omega⟩, t01, sp_B_up B1 w0 ⟨by omega, by omega⟩ (fun u1 u2 => ⟨1, 6, 998, 13988, ⟨by omega, by omega⟩, t01, sp_B_ckLot B1 w0 h1 ⟨by omega, by omega⟩ (fun l e l1 l2 => ⟨1, 6, 997, 13982, ⟨by omega, by omega⟩, sp_B_ckDay h2 ⟨by omega, by omega⟩ (fun kd => ⟨by omega, 996, 13981, ⟨by omega, by omega⟩, fun q21 T22 q0 y22 => ?_⟩) (fun k => Or.inr (Or.inr ⟨rfl, inR_lit3, E3 rfl u1 u2 (by have l2 : l ≤ R.1 7 0 := l2; omega) k⟩))⟩) (fun k => Or.inr (Or.inl ⟨rfl, inR_lit2, E2 rfl u1 u2 k⟩))⟩) (fun k => Or.inl ⟨rfl, inR_lit1, E1 rfl k⟩)⟩
  have u1 : 1 ≤ R.1 7 0 := u1
  have u2 : R.1 2 0 = 0 := u2
  have l2 : l ≤ R.1 7 0 := l2
  subst e
  have RF : ∀ {v : Int} {T2 : CS}, Tx (scr qs) T1 T2 → n20 T1 T2 → spRf R l a2 v → inR v ∧ inR 0 ∧ wp_Mo_split (fun b S1 => inR b ∧ S1.1 0 = 0 ∧ ((0 : Int) = 0 → vp_updL f 0 (lI v) 0 = lI b) ∧ LInv qs (j + 1) (c + 1000) (n + 14000) T2 S1) (l : Int) a2 S := fun g1 g2 rf => ⟨Rf_in rf, inR_lit0, sp_Mo_split M hg F h1 h2 (fun q => absurd ⟨u1, u2⟩ q) (fun _ _ q => absurd ⟨by omega, by omega⟩ q) (fun _ _ _ q => absurd kd q) (fun _ _ l' z _ _ _ v' S' g' rf' => by
      have z : l' = l := by omega
      subst z
      exact fin_r (Rf_in rf) (Rf_uniq rf' rf) (by show S'.1 0 = 0; rw [g'.1 0 (by omega)]; exact ms_i0 S 0) (inv0 g1 g2 (mfr_4z g'))) (fun _ _ l' z _ _ _ r1 r2 r3 r4 => by
      have z : l' = l := by omega
      subst z
      exact absurd ⟨fun q => q r1, r2, fun q => q r3, r4⟩ (Rf_ne rf))⟩
  refine ⟨by rw [y22]; exact new_tg _ _ _ _, ⟨by omega, by rw [y22, new_ln]; omega⟩, fun T25 y25 => ?_⟩
  obtain ⟨x25, n25, s1, s2, s3⟩ := arr1 q0 y22 y25
  have B25 := B1.tx hq hl (sc x25)
  have q21q : q21 ∉ qs := not_qs hl B1.1 (Or.inl q0)
  have ns25 : nsAt T25 q21 [l] := ⟨s1, s2, by show 1 ≤ 300; omega, fun x hx => by rw [List.mem_singleton.mp hx]; omega, fun i hi => by
    have : i = 0 := by have : i < 1 := hi; omega
    subst this; exact s3⟩
  refine ⟨B25.1.tag (by omega) rfl, qa qs 22, B25.1.ref (i := 0) (j := 4) (z := 22) (by omega) rfl (by omega), B25.1.tag (by omega) rfl, ?_⟩
  refine sp_B_objection B25 w0 F0.nl ns25 (fun x hx => by rw [List.mem_singleton.mp hx]; exact ⟨l1, l2⟩) h2 (fun k => ⟨by unfold inR; omega, fun q => absurd q (by decide), fun _ => RF (sc x25) n25 (Or.inl ⟨rfl, ?_⟩)⟩) (fun k1 k => ⟨by unfold inR; omega, fun q => absurd q (by decide), fun _ => RF (sc x25) n25 (Or.inr (Or.inl ⟨rfl, ?_, ?_⟩))⟩) (fun kb kl => ⟨inR_lit0, fun _ => ?_, fun q => absurd rfl q⟩)
  · obtain ⟨x, hx, hb⟩ := k; rw [List.mem_singleton.mp hx] at hb; exact hb
  · exact fun q => q (k1 l (List.mem_singleton.mpr rfl))
  · obtain ⟨x, hx, hb⟩ := k; rw [List.mem_singleton.mp hx] at hb; exact hb
  have kb : aB R l a2 (R.1 15 0) := kb l (List.mem_singleton.mpr rfl)
  have kl : ¬ aLate R l a2 := fun q => kl ⟨l, List.mem_singleton.mpr rfl, q⟩
  have la := B25.lta l1 l2
  have rA := w.rg l1 l2
  have lq := la.2.2.2.2.2.2.1
  have pc25 := pc.tx x25 (fun q => q) (fun q => q)
  have scc : ∀ a, (pab (qa qs 6) (qa qs 7) a ∨ pab (qa qs 8) (qa qs 9) a ∨ pab (qa qs 10) (qa qs 11) a) → scr qs a := by
    rintro a ((q | q) | (q | q) | (q | q))
    · exact ⟨6, by omega, q⟩
    · exact ⟨7, by omega, q⟩
    · exact ⟨8, by omega, q⟩
    · exact ⟨9, by omega, q⟩
    · exact ⟨10, by omega, q⟩
    · exact ⟨11, by omega, q⟩
  refine ⟨B25.1.tag (by omega) rfl, qa qs 5, B25.1.ref (i := 0) (j := 2) (z := 5) (by omega) rfl (by omega), B25.1.tag (by omega) rfl, qa qs 22, B25.1.ref (i := 0) (j := 4) (z := 22) (by omega) rfl (by omega), B25.1.tag (by omega) rfl, sp_B_lot B25 l1 l2 ⟨B25.lt9 l1 l2, ad 4 l, la.1, B25.1.tag (by omega) rfl, qa qs 3, B25.1.ref (i := 0) (j := 1) (z := 3) (by omega) rfl (by omega), B25.1.tag (by omega) rfl, ?_⟩⟩
  refine sp_B_cut (l := aRing R l) (K := aRow R) B25.1.cu la.2.1 pc25 (qa_nd5 hq hl lq.1 (by omega) (by omega) (by omega) (by omega) (by omega) (by omega) (by omega) (by omega) (by omega) (by omega)) (qa_nd5 hq hl lq.2.1 (by omega) (by omega) (by omega) (by omega) (by omega) (by omega) (by omega) (by omega) (by omega) (by omega)) rA.1 hK rA.2.2.1 rA.2.2.2 rA.ne rA.2.1.2 (fun q => ⟨inR_lit0, fun q => absurd rfl q, fun _ => RF (sc x25) n25 (Or.inr (Or.inr (Or.inl ⟨rfl, fun q => q kb, kl, fun ⟨e', q1, q2, _⟩ => by omega⟩)))⟩) (fun e' he' he0 cm => ⟨inR_lit0, fun q => absurd rfl q, fun _ => RF (sc x25) n25 (Or.inr (Or.inr (Or.inl ⟨rfl, fun q => q kb, kl, fun ⟨e2, q1, q2, q3⟩ => by
    have : e2 = e' := by omega
    subst this
    exact cm q3⟩)))⟩) (fun e' i j' T35 K1 K2 he' he0 ch hi hj' hpi hqj g35 pf ps kK1 kK2 => ⟨inR_lit1, fun _ => ?_, fun q => absurd q (by decide)⟩)
  have ok : spOK R l := ⟨e', he', he0, ch⟩
  have hO : spO (aRing R l) (aRow R) (ig_pc (aRing R l) (aRow R) e' i j' false) (ig_pc (aRing R l) (aRow R) e' i j' true) := ⟨e', i, j', he', he0, hi, hj', hpi, hqj, rfl, rfl⟩
  generalize hP0 : ig_pc (aRing R l) (aRow R) e' i j' false = P0 at hO kK1
  generalize hP1 : ig_pc (aRing R l) (aRow R) e' i j' true = P1 at hO kK2
  obtain ⟨⟨s0, w0', o0, n0⟩, ⟨s1', w1, o1, n1⟩, sw⟩ := spO_geo rA hK ok hO
  have x35 : Tx (scr qs) T1 T35 := Tx_trans (sc x25) (Tx_mono g35.tx scc)
  have n35 : n20 T1 T35 := n20_trans n25 (n20_tw g35)
  have B35 := B1.tx hq hl x35
  have ne := fun {i j : Nat} (hi : i < 30) (hj : j < 30) (h : i ≠ j) => qa_ne hq hl hi hj h
  have no34 : ∀ i, i = 3 ∨ i = 4 → ¬ (pab (qa qs 6) (qa qs 7) (qa qs i) ∨ pab (qa qs 8) (qa qs 9) (qa qs i) ∨ pab (qa qs 10) (qa qs 11) (qa qs i)) := by
    rintro i hi ((q | q) | (q | q) | (q | q)) <;> exact ne (by omega) (by omega) (by omega) q
  have pc35 : ptsAt T35 (qa qs 3) (qa qs 4) (aRow R) 32 := pc25.tw g35 (no34 3 (by omega)) (no34 4 (by omega))
  have row0 : aRow R ≠ [] := by intro q; rw [q] at he'; simp at he'
  refine ⟨B35.1.tag (by omega) rfl, qa qs 3, B35.1.ref (i := 0) (j := 1) (z := 3) (by omega) rfl (by omega), pc35.1, ?_⟩
  rw [pc35.sz, show (1 + ((aRow R).length : Int)).toNat = (aRow R).length + 1 by omega]
  refine ⟨⟨by omega, by omega⟩, 995, 13980 - (aRow R).length, ⟨by omega, by omega⟩, fun q38 T39 q380 y39 => ?_⟩
  have t39 : tg T39 q38 = 11 := by rw [y39]; exact new_tg _ _ _ _
  have l39 : ln T39 q38 = (aRow R).length + 1 := by rw [y39]; exact new_ln _ _ _ _
  have x39 : Tx (fun _ => False) T35 T39 := by rw [y39]; exact Tx_new _ q380
  have n39 : n20 T35 T39 := by rw [y39]; exact n20_new (by decide)
  refine ⟨t39, ⟨by omega, by rw [l39]; omega⟩, fun T42 y42 => ⟨(aRow R).length + 1, ?_⟩⟩
  have g42 : Tw (fun a => a = q38) T39 T42 := by rw [y42]; exact Tw_i rfl
  have z42 : fi T42 q38 0 = (l : Int) := by rw [y42, cs_i_fi, if_pos ⟨rfl, rfl⟩]
  have lp : ∀ (n' k : Nat) (T4 : CS), (aRow R).length - k < n' → k ≤ (aRow R).length → Tw (fun a => a = q38) T39 T4 → fi T4 q38 0 = (l : Int) → (∀ i, i < k → fi T4 q38 (1 + i) = ig_pk (ig_at (aRow R) i)) → wp_BLB_split_93 (fun r T1 => inR r ∧ inR 0 ∧ wp_Mo_split (fun b S1 => inR b ∧ S1.1 0 = 0 ∧ ((0 : Int) = 0 → vp_updL f 0 (lI r) 0 = lI b) ∧ LInv qs (j + 1) (c + 1000) (n + 14000) T1 S1) (l : Int) a2 S) (fun cls T1 => (cls = "java/lang/IllegalStateException" ∧ inR 1 ∧ wp_Mo_split (fun b S1 => inR b ∧ S1.1 0 = 1 ∧ ((1 : Int) = 0 → f 0 = lI b) ∧ LInv qs (j + 1) (c + 1000) (n + 14000) T1 S1) (l : Int) a2 S) ∨ (cls = "java/lang/IndexOutOfBoundsException" ∧ inR 2 ∧ wp_Mo_split (fun b S1 => inR b ∧ S1.1 0 = 2 ∧ ((2 : Int) = 0 → f 0 = lI b) ∧ LInv qs (j + 1) (c + 1000) (n + 14000) T1 S1) (l : Int) a2 S) ∨ (cls = "java/lang/IllegalArgumentException" ∧ inR 3 ∧ wp_Mo_split (fun b S1 => inR b ∧ S1.1 0 = 3 ∧ ((3 : Int) = 0 → f 0 = lI b) ∧ LInv qs (j + 1) (c + 1000) (n + 14000) T1 S1) (l : Int) a2 S)) n' 995 (13980 - (aRow R).length) (qa qs 0) a2 q21 q38 (k : Int) T4 := by
    intro n'
    induction n' with
    | zero => intro k T4 hm; omega
    | succ n' ih =>
      intro k T4 hm hk g4 f0 fk
      have x4' : Tx (fun _ => False) T35 T4 := Tx_fresh x39 q380 g4
      have x4 : Tx (scr qs) T1 T4 := Tx_trans x35 (sc x4')
      have n4 : n20 T1 T4 := n20_trans n35 (n20_trans n39 (n20_tw g4))
      have B4 := B1.tx hq hl x4
      have pc4 := pc35.tx x4' (fun q => q) (fun q => q)
      unfold wp_BLB_split_93
      refine ⟨B4.1.tag (by omega) rfl, qa qs 3, B4.1.ref (i := 0) (j := 1) (z := 3) (by omega) rfl (by omega), pc4.1, ?_⟩
      rw [pc4.sz]
      refine ⟨by unfold inR; omega, by unfold inR; omega, fun ck => ⟨by omega, 994, 13978 - (aRow R).length, ⟨by omega, by omega⟩, fun q2 T3 q20 y3 => ?_⟩, fun ck => ⟨B4.1.tag (by omega) rfl, qa qs 3, B4.1.ref (i := 0) (j := 1) (z := 3) (by omega) rfl (by omega), pc4.1, sp_at_nat pc4 row0 (by omega) ⟨by rw [g4.1]; exact t39, ⟨by omega, by rw [g4.2.1, l39]; omega⟩, fun T5 y5 => ?_⟩⟩⟩
      · have ek : k = (aRow R).length := by omega
        subst ek
        clear ih
        have x3' : Tx (fun _ => False) T4 T3 := by rw [y3]; exact Tx_new _ q20
        have n3' : n20 T4 T3 := by rw [y3]; exact n20_new (by decide)
        have B3 := B1.tx hq hl (Tx_trans x4 (sc x3'))
        have pf4 := pf.tx x4' (fun q => q) (fun q => q)
        have ps4 := ps.tx x4' (fun q => q) (fun q => q)
        refine ⟨B3.1.tag (by omega) rfl, qa qs 5, B3.1.ref (i := 0) (j := 2) (z := 5) (by omega) rfl (by omega), B3.1.cu.1, qa qs 8, B3.1.cu.2.2.1, by rw [y3]; exact new_tg _ _ _ _, ⟨by omega, by rw [y3, new_ln]; omega⟩, (pf4.tx x3' (fun q => q) (fun q => q)).1, fun T8 y8 => ?_⟩
        have x8' : Tx (fun _ => False) T4 T8 := Tx_fresho x3' q20 y8
        have B8 := B1.tx hq hl (Tx_trans x4 (sc x8'))
        refine ⟨B8.1.tag (by omega) rfl, qa qs 5, B8.1.ref (i := 0) (j := 2) (z := 5) (by omega) rfl (by omega), B8.1.cu.1, qa qs 10, B8.1.cu.2.2.2.1, by rw [y8]; show tg T3 q2 = 14; rw [y3]; exact new_tg _ _ _ _, ⟨by omega, by rw [y8]; show (1 : Int) < (ln T3 q2 : Int); rw [y3, new_ln]; omega⟩, (ps4.tx x8' (fun q => q) (fun q => q)).1, fun T11 y11 => ?_⟩
        have x11' : Tx (fun _ => False) T4 T11 := Tx_fresho x8' q20 y11
        have x11 : Tx (scr qs) T1 T11 := Tx_trans x4 (sc x11')
        have n8' : n20 T3 T8 := by rw [y8]; exact n20_tg rfl
        have n11' : n20 T8 T11 := by rw [y11]; exact n20_tg rfl
        have n11 : n20 T1 T11 := n20_trans n4 (n20_trans n3' (n20_trans n8' n11'))
        have B11 := B1.tx hq hl x11
        have pf11 := pf4.tx x11' (fun q => q) (fun q => q)
        have ps11 := ps4.tx x11' (fun q => q) (fun q => q)
        have t2 : tg T11 q2 = 14 := by rw [y11, y8, y3]; exact new_tg T4 q2 14 2
        have l2' : ln T11 q2 = 2 := by rw [y11, y8, y3]; exact new_ln T4 q2 14 2
        have f20 : fo T11 q2 0 = some (qa qs 8) := by rw [y11, cs_o_fo, if_neg (by omega), y8, cs_o_fo, if_pos ⟨rfl, rfl⟩]
        have f21 : fo T11 q2 1 = some (qa qs 10) := by rw [y11, cs_o_fo, if_pos ⟨rfl, rfl⟩]
        have t38 : tg T4 q38 = 11 := by rw [g4.1]; exact t39
        have w38 := x11' q38 (by omega)
        have rb : ringsB T11 q2 [K1, K2] := ⟨t2, l2', fun i hi => by
          have : i < 2 := hi
          rcases (show i = 0 ∨ i = 1 by omega) with q | q <;> subst q
          · exact ⟨qa qs 8, qa qs 9, 92, f20, pf11⟩
          · exact ⟨qa qs 10, qa qs 11, 92, f21, ps11⟩⟩
        refine ⟨t2, B11.1.tag (by omega) rfl, ?_⟩
        rw [l2']
        have bo := dbody_ok (kd := 1) (dy := a2.toNat) (a := l) (b := 0) (c := 0) (p := 0) (row := aRow R) (en := R.1 15 0 + 1)
        refine sp_B_isFull (ml := 2) (me := 0) (kd := 1) (n := (aRow R).length) B11 w0 (by rw [w38.1]; exact t38) (by rw [w38.2.1, g4.2.1, l39]; unfold rsz; rw [if_pos rfl]; omega) ⟨by omega, by omega, by rw [w38.2.1, g4.2.1, l39]; omega⟩ (fun ku => ⟨inR_lit1, fun _ => RF x11 n11 (Or.inr (Or.inr (Or.inr ⟨rfl, fun q => q kb, kl, fun q => q ok, Or.inr ku⟩))), fun q => absurd q (by decide)⟩) (fun ku => ⟨inR_lit0, fun q => absurd rfl q, fun _ => ?_⟩)
        refine sp_B_tooMany rb (by show 2 ≤ 2; omega) (fun kt => ⟨inR_lit1, fun q => absurd q (by decide), fun _ => RF x11 n11 (Or.inr (Or.inr (Or.inr ⟨rfl, fun q => q kb, kl, fun q => q ok, Or.inl ⟨P0, P1, hO, ?_⟩⟩)))⟩) (fun kt => ⟨inR_lit0, fun _ => ⟨993, 13972 - (aRow R).length, ⟨by omega, by omega⟩, fun q16 T17 q160 y17 => ?_⟩, fun q => absurd rfl q⟩)
        · obtain ⟨K', q1, q2⟩ := kt
          rw [kK1.1.1, kK2.1.1]
          simp only [List.mem_cons, List.not_mem_nil, or_false] at q1
          rcases q1 with q1 | q1
          · rw [q1] at q2; exact Or.inl q2
          · rw [q1] at q2; exact Or.inr q2
        have K160 : K1.length ≤ 60 := kt K1 (by simp)
        have K260 : K2.length ≤ 60 := kt K2 (by simp)
        obtain ⟨rgK1, wnK1⟩ := kept_rg o0 s0 w0' n0 kK1 K160
        obtain ⟨rgK2, wnK2⟩ := kept_rg o1 s1' w1 n1 kK2 K260
        have ku2 : ¬ aMuch R 2 0 1 (aRow R).length := ku
        have ku' := ku2
        unfold aMuch at ku'
        have rz : rsz 1 (aRow R).length = 5 + (aRow R).length := rfl
        have bo := bo (by omega) (by omega) (by omega) (by omega) (by omega) (by omega) (by omega) w.2.1
        have nmu : ¬ spMuch R l := by
          rintro (⟨Q0, Q1, q1, q2⟩ | q)
          · obtain ⟨e0, e1⟩ := spO_uniq rA.2.2.1 q1 hO
            rw [e0, e1, kK1.1.1, kK2.1.1] at q2; omega
          · exact ku2 q
        have t91 : tg T1 (ad 9 0) = 11 := B1.lgA.2.2.2.1
        have na9 : q21 ≠ ad 9 0 := fun q => by rw [q] at q0; omega
        have q38T : tg T1 q38 = 0 := Classical.byContradiction fun q => q (by rw [← (x35 q38 q).1]; exact q380)
        have nsc21 : ¬ scr qs q21 := fun q => q21q (scr_mem hl q)
        have w21 : tg T11 q21 = 11 ∧ ln T11 q21 = 1 ∧ fi T11 q21 = fi T25 q21 := by
          have z1 := g35.1 q21
          have z3 := x4' q21 (by rw [z1]; omega)
          have z4 := x11' q21 (by rw [z3.1, z1]; omega)
          refine ⟨by rw [z4.1, z3.1, z1]; exact s1, by rw [z4.2.1, z3.2.1, g35.2.1]; exact s2, ?_⟩
          rw [z4.2.2.2 (fun q => q), z3.2.2.2 (fun q => q), g35.2.2.2 q21 (fun q => nsc21 (scc _ q))]
        unfold wp_BDe_init3
        have ed : ((a2.toNat : Nat) : Int) = a2 := by omega
        have nd := sp_B_newdeed (post := fun mc_26 ms_27 r_23 T_22 => tg T_22 (qa qs 0) = 1 ∧ ∃ q_28 : Nat, fo T_22 (qa qs 0) 4 = some q_28 ∧ (∃ mc_31 ms_32 mc_33 ms_34 : Nat, (mc_26 = mc_31 + mc_33 ∧ ms_27 = ms_32 + ms_34) ∧ tg T_22 q_28 = 5 ∧ wp_BRg_replaceLots (fun r T1 => inR r ∧ inR 0 ∧ wp_Mo_split (fun b S1 => inR b ∧ S1.1 0 = 0 ∧ ((0 : Int) = 0 → vp_updL f 0 (lI r) 0 = lI b) ∧ LInv qs (j + 1) (c + 1000) (n + 14000) T1 S1) (l : Int) a2 S) mc_31 ms_32 q_28 q2 T_22)) (R := rRow R []) (kd := 1) (dy := a2.toNat) (a := l) (b := 0) (c := 0) (p := 0) (x := R.1 7 0 + 2) (y := R.1 25 0) (z := R.1 30 0 + (wrec (dbody 1 a2.toNat (R.1 15 0 + 1) l 0 0 0 (aRow R))).length) (nm := [l]) (tl := dtext 1 l 0 0 0 (aRow R)) (body := (dbody 1 a2.toNat (R.1 15 0 + 1) l 0 0 0 (aRow R))) (na := q21) (ta := q38) (mc := 993) (ms := 13972 - (aRow R).length) hq hl B11 (he.n (n20_trans nT1 n11)) ⟨w21.1, w21.2.1, fun i hi => ?_, q21q, na9⟩ ⟨by rw [w38.1]; exact t38, by rw [w38.2.1, g4.2.1, l39, dtext1, List.length_cons, List.length_map], fun i hi => ?_, fun q => by rw [q] at q38T; omega⟩ rfl (show R.1 15 0 < 600 by omega) (show R.1 30 0 + (wrec (dbody 1 a2.toNat (R.1 15 0 + 1) l 0 0 0 (aRow R))).length ≤ 3072 by rw [bo.2.1, rz]; omega) bo.1.2.1 (by rw [dtext1, List.length_cons, List.length_map]; omega) (by omega) (by omega) q160 y17 (fun T' ad' k1 k2 k3 k4 k5 => ?_)
        · rw [show ((1 : Nat) : Int) = 1 from rfl, ed, show ((0 : Nat) : Int) = 0 from rfl] at nd
          exact nd
        · have : i = 0 := by have : i < 1 := hi; omega
          subst this
          rw [w21.2.2]; exact s3
        · rw [w38.2.2.2 (fun q => q), dtext1]
          rw [dtext1, List.length_cons, List.length_map] at hi
          cases i with
          | zero => rw [f0]; rfl
          | succ i =>
            rw [show i + 1 = 1 + i by omega, fk i (by omega)]
            rw [show 1 + i = i + 1 by omega]
            show ig_pk (ig_at (aRow R) i) = ((aRow R).map ig_pk).getD i 0
            have hi' : i < (aRow R).length := by omega
            rw [ig_at_getD hi']
            simp [hi']
        have hnm : ∀ x ∈ [l], 1 ≤ x ∧ x ≤ (rRow R []).1 7 0 := fun x hx => by rw [List.mem_singleton.mp hx]; exact ⟨l1, l2⟩
        have wE := WR_ent (R := rRow R []) (kd := 1) (dy := a2.toNat) (a := l) (b := 0) (c := 0) (p := 0) (x := R.1 7 0 + 2) (y := R.1 25 0) (z := R.1 30 0 + (wrec (dbody 1 a2.toNat (R.1 15 0 + 1) l 0 0 0 (aRow R))).length) (nm := [l]) (body := (dbody 1 a2.toNat (R.1 15 0 + 1) l 0 0 0 (aRow R))) w0 (show R.1 15 0 < 600 by omega) (by omega) (by omega) (by omega) (by omega) (by omega) (by omega) (fun q => by omega) (show R.1 30 0 + (wrec (dbody 1 a2.toNat (R.1 15 0 + 1) l 0 0 0 (aRow R))).length ≤ 12000 by rw [bo.2.1, rz]; omega) bo.1.2.1 bo.1.1.2
        have wnE := WNl_ent (R := rRow R []) (kd := 1) (dy := a2.toNat) (a := l) (b := 0) (c := 0) (p := 0) (x := R.1 7 0 + 2) (y := R.1 25 0) (z := R.1 30 0 + (wrec (dbody 1 a2.toNat (R.1 15 0 + 1) l 0 0 0 (aRow R))).length) (nm := [l]) (body := (dbody 1 a2.toNat (R.1 15 0 + 1) l 0 0 0 (aRow R))) F0.nl (by show 1 ≤ 300; omega) hnm (fun _ => rfl) (fun q => by omega)
        have wtE := WT_ent (R := rRow R []) (kd := 1) (dy := a2.toNat) (a := l) (b := 0) (c := 0) (p := 0) (x := R.1 7 0 + 2) (y := R.1 25 0) (z := R.1 30 0 + (wrec (dbody 1 a2.toNat (R.1 15 0 + 1) l 0 0 0 (aRow R))).length) (nm := [l]) (body := (dbody 1 a2.toNat (R.1 15 0 + 1) l 0 0 0 (aRow R))) F0.t (by decide)
        obtain ⟨d1, d2, d3, d4, d5, d6, d7, d8, d9⟩ := rEnt_d (R := rRow R []) (kd := 1) (dy := a2.toNat) (a := l) (b := 0) (c := 0) (p := 0) (x := R.1 7 0 + 2) (y := R.1 25 0) (z := R.1 30 0 + (wrec (dbody 1 a2.toNat (R.1 15 0 + 1) l 0 0 0 (aRow R))).length) (nm := [l]) (body := (dbody 1 a2.toNat (R.1 15 0 + 1) l 0 0 0 (aRow R)))
        have e15 : (rEnt (rRow R []) 1 a2.toNat l 0 0 0 (R.1 7 0 + 2) (R.1 25 0) (R.1 30 0 + (wrec (dbody 1 a2.toNat (R.1 15 0 + 1) l 0 0 0 (aRow R))).length) [l] (dbody 1 a2.toNat (R.1 15 0 + 1) l 0 0 0 (aRow R))).1 15 0 = R.1 15 0 + 1 := rEnt_15
        have e25 : (rEnt (rRow R []) 1 a2.toNat l 0 0 0 (R.1 7 0 + 2) (R.1 25 0) (R.1 30 0 + (wrec (dbody 1 a2.toNat (R.1 15 0 + 1) l 0 0 0 (aRow R))).length) [l] (dbody 1 a2.toNat (R.1 15 0 + 1) l 0 0 0 (aRow R))).1 25 0 = R.1 25 0 := rEnt_o (by omega)
        have e7 : (rEnt (rRow R []) 1 a2.toNat l 0 0 0 (R.1 7 0 + 2) (R.1 25 0) (R.1 30 0 + (wrec (dbody 1 a2.toNat (R.1 15 0 + 1) l 0 0 0 (aRow R))).length) [l] (dbody 1 a2.toNat (R.1 15 0 + 1) l 0 0 0 (aRow R))).1 7 0 = R.1 7 0 := rEnt_o (by omega)
        have enm : aNm (rEnt (rRow R []) 1 a2.toNat l 0 0 0 (R.1 7 0 + 2) (R.1 25 0) (R.1 30 0 + (wrec (dbody 1 a2.toNat (R.1 15 0 + 1) l 0 0 0 (aRow R))).length) [l] (dbody 1 a2.toNat (R.1 15 0 + 1) l 0 0 0 (aRow R))) (R.1 15 0 + 1) = [l] := updN_s _ _ _
        have d2' : (rEnt (rRow R []) 1 a2.toNat l 0 0 0 (R.1 7 0 + 2) (R.1 25 0) (R.1 30 0 + (wrec (dbody 1 a2.toNat (R.1 15 0 + 1) l 0 0 0 (aRow R))).length) [l] (dbody 1 a2.toNat (R.1 15 0 + 1) l 0 0 0 (aRow R))).1 17 (R.1 15 0 + 1) = a2.toNat := d2
        have esh : ∀ q, aShare (rEnt (rRow R []) 1 a2.toNat l 0 0 0 (R.1 7 0 + 2) (R.1 25 0) (R.1 30 0 + (wrec (dbody 1 a2.toNat (R.1 15 0 + 1) l 0 0 0 (aRow R))).length) [l] (dbody 1 a2.toNat (R.1 15 0 + 1) l 0 0 0 (aRow R))) l q (a2.toNat : Int) (((R.1 15 0 + 1 : Nat) : Int) - 1) = aShare (rRow R []) l q (a2.toNat : Int) (R.1 15 0) := fun q => by
          rw [show ((R.1 15 0 + 1 : Nat) : Int) - 1 = (R.1 15 0 : Int) by omega]
          exact aShare_ent (R := rRow R []) (Int.le_refl _)
        have eas : ∀ e, 1 ≤ e → e ≤ R.1 25 0 → (aS (rEnt (rRow R []) 1 a2.toNat l 0 0 0 (R.1 7 0 + 2) (R.1 25 0) (R.1 30 0 + (wrec (dbody 1 a2.toNat (R.1 15 0 + 1) l 0 0 0 (aRow R))).length) [l] (dbody 1 a2.toNat (R.1 15 0 + 1) l 0 0 0 (aRow R))) e (a2.toNat : Int) (((R.1 15 0 + 1 : Nat) : Int) - 1) ↔ aS R e (a2.toNat : Int) (R.1 15 0)) := fun e e1 e2 => by
          rw [show ((R.1 15 0 + 1 : Nat) : Int) - 1 = (R.1 15 0 : Int) by omega]
          exact aS_ent (R := rRow R []) w0 e1 e2
        have i9 : ∀ i, i < 29 → ad 9 0 ≠ qa qs i := by
          intro i hi
          rcases B1.lgA.2.2.2.2.2.2 with q | q
          · rw [q]; exact ne (by omega) (by omega) (by omega)
          · exact qa_out hl q (by omega)
        have keepP : ∀ {i z cap : Nat} {K : List PT}, i < 23 → z < 23 → ptsAt T11 (qa qs i) (qa qs z) K cap → ptsAt T' (qa qs i) (qa qs z) K cap := by
          intro i z cap K hi hz hp
          have tn := hp.1
          refine hp.ty k2 ?_ ?_ ?_
          · rintro (q | q | q)
            · exact ne (by omega) (by omega) (by omega) q
            · exact ne (by omega) (by omega) (by omega) q
            · exact i9 i (by omega) q.symm
          · rintro (q | q | q)
            · exact ne (by omega) (by omega) (by omega) q
            · exact ne (by omega) (by omega) (by omega) q
            · exact i9 z (by omega) q.symm
          · rintro (q | q | q)
            · exact ne (by omega) (by omega) (by omega) q
            · exact ne (by omega) (by omega) (by omega) q
            · omega
        have q2n : q2 ∉ qs := not_qs hl B11.1 (Or.inr (by omega))
        have v2 := k2 q2 (by omega)
        have fo2 : fo T' q2 = fo T11 q2 := v2.2.2.1 (by
          rintro (q | q | q)
          · exact qa_out hl q2n (by omega) q
          · exact qa_out hl q2n (by omega) q
          · omega)
        have ra' : ringsAt T' q2 [K1, K2] := ⟨by rw [v2.1]; exact t2, by rw [v2.2.1]; exact l2', fun i hi => by
          have : i < 2 := hi
          rcases (show i = 0 ∨ i = 1 by omega) with q | q <;> subst q
          · exact ⟨qa qs 8, qa qs 9, 92, by rw [fo2]; exact f20, keepP (by omega) (by omega) pf11, K160⟩
          · exact ⟨qa qs 10, qa qs 11, 92, by rw [fo2]; exact f21, keepP (by omega) (by omega) ps11, K260⟩⟩
        refine ⟨k1.1.tag (by omega) rfl, qa qs 22, k1.1.ref (i := 0) (j := 4) (z := 22) (by omega) rfl (by omega), 991, 6828 - (aRow R).length, 0, 0, ⟨by omega, by omega⟩, k1.1.tag (by omega) rfl, sp_B_replace (a := l) (b := 0) (ih := fun e => pB (∃ x, x ∈ [l] ∧ aS R e (a2.toNat : Int) (R.1 15 0) ∧ aIh R e x = true)) (ns := [l]) hq hl k1 wE wnE wtE (he.n (n20_trans nT1 (n20_trans n11 k3))) (by rw [e15]; omega) (by rw [e15]; exact enm) (by simp) ra' (by show 2 ≤ 2; omega) (by rw [e7]; show R.1 7 0 + 2 ≤ 300; omega) (fun e e1 e2 => ?_) (by omega) (by omega) (fun T2 ad2 j1 j2 j3 j4 j5 j6 => ?_)⟩
        · rw [e25] at e2
          rw [e15, d2', pB_iff]
          constructor
          · rintro ⟨x, q1, q2, q3⟩; exact ⟨x, q1, (eas e e1 e2).mpr q2, q3⟩
          · rintro ⟨x, q1, q2, q3⟩; exact ⟨x, q1, (eas e e1 e2).mp q2, q3⟩
        rw [e15, d2'] at j1
        rw [e7] at j5 j6 ⊢
        rw [e25] at j6
        have st : DStp (rRow R []) (spR R l a2 K1 K2 (fun p => aShare (rEnt (rRow R []) 1 a2.toNat l 0 0 0 (R.1 7 0 + 2) (R.1 25 0) (R.1 30 0 + (wrec (dbody 1 a2.toNat (R.1 15 0 + 1) l 0 0 0 (aRow R))).length) [l] (dbody 1 a2.toNat (R.1 15 0 + 1) l 0 0 0 (aRow R))) ([l].headD 0) p (a2.toNat : Int) (((R.1 15 0 + 1 : Nat) : Int) - 1)) (fun e => pB (∃ x, x ∈ [l] ∧ aS R e (a2.toNat : Int) (R.1 15 0) ∧ aIh R e x = true))) 1 a2.toNat [l] 2 l 0 0 0 0 (dbody 1 a2.toNat (R.1 15 0 + 1) l 0 0 0 (aRow R)) := dstp_lot2 (R := rRow R []) rgK1 rgK2 (fun x hx => (hnm x hx).2) (fun q hq => esh q) (fun e e1 e2 => pB_iff)
        have cn : DCnd (rRow R []) (spR R l a2 K1 K2 (fun p => aShare (rEnt (rRow R []) 1 a2.toNat l 0 0 0 (R.1 7 0 + 2) (R.1 25 0) (R.1 30 0 + (wrec (dbody 1 a2.toNat (R.1 15 0 + 1) l 0 0 0 (aRow R))).length) [l] (dbody 1 a2.toNat (R.1 15 0 + 1) l 0 0 0 (aRow R))) ([l].headD 0) p (a2.toNat : Int) (((R.1 15 0 + 1 : Nat) : Int) - 1)) (fun e => pB (∃ x, x ∈ [l] ∧ aS R e (a2.toNat : Int) (R.1 15 0) ∧ aIh R e x = true))) 1 a2.toNat [l] 2 l 0 0 0 0 (dbody 1 a2.toNat (R.1 15 0 + 1) l 0 0 0 (aRow R)) := by
          have hi : ∀ sh ih f, 16 ≤ f → f ≤ 24 → (spR R l a2 K1 K2 sh ih).1 f (R.1 15 0 + 1) = (rEnt (rRow R []) 1 a2.toNat l 0 0 0 (R.1 7 0 + 2) (R.1 25 0) (R.1 30 0 + (wrec (dbody 1 a2.toNat (R.1 15 0 + 1) l 0 0 0 (aRow R))).length) [l] (dbody 1 a2.toNat (R.1 15 0 + 1) l 0 0 0 (aRow R))).1 f (R.1 15 0 + 1) := by
            intro sh ih f f1 f2
            show (rLotB (rLotB (rEnds (R.1 15 0 + 1) [l] _) _ _ _ _ _ _) _ _ _ _ _ _).1 f _ = _
            rw [rLotB_o _ _ _ _ _ _ _ _ ⟨by omega, by omega⟩, rLotB_o _ _ _ _ _ _ _ _ ⟨by omega, by omega⟩, ends_n, if_neg (by omega)]
          have rg2 : ∀ sh ih l', aRing (spR R l a2 K1 K2 sh ih) l' = if l' = R.1 7 0 + 2 then K2 else if l' = R.1 7 0 + 1 then K1 else aRing R l' := fun sh ih l' => ring_lot2 (R := rRow R []) l'
          have lA : ∀ z, gx_wn (rgn (aRing (rRow R []) l)) z = gx_wn (rgn (aRing R l)) z := fun _ => rfl
          have le1 := fun z => rgn_le1 rA.2.2.1 rA.2.2.2 rA.ne z
          refine ⟨⟨u1, u2, show R.1 15 0 < 600 by omega, by omega, by omega, show R.1 7 0 + 2 ≤ 300 by omega, show R.1 25 0 + 0 ≤ 200 by omega, show R.1 30 0 + (wrec (dbody 1 a2.toNat (R.1 15 0 + 1) l 0 0 0 (aRow R))).length ≤ 12000 by rw [bo.2.1, rz]; omega, by omega⟩, ⟨by show 1 ≤ 300; omega, fun x hx => ?_⟩, ⟨⟨fun _ => Or.inl rfl, fun _ => by decide⟩, ⟨fun q => absurd rfl q, fun q => by omega⟩, ⟨fun q => absurd q (by decide), fun q => by omega⟩⟩, fun _ => ⟨l1, fun q => absurd rfl q, fun x => ?_, fun l' z q1 q2 => ?_, fun l' l'' z q1 q2 q3 q4 q5 => ?_⟩, ⟨fun _ => ?_, fun q => by omega, ?_, ?_, ?_, ?_⟩, fun q => by omega, fun q => by omega, fun q => by omega, bo.1, F0.r.2.1⟩
          · rw [List.mem_singleton.mp hx, ed]; exact ⟨⟨l1, l2⟩, kb, kl⟩
          · rw [List.mem_singleton]
            exact ⟨Or.inl, fun q => q.elim (fun q => q) (fun q => absurd rfl q.1)⟩
          · have q1' : R.1 7 0 < l' := q1
            have q2' : l' ≤ R.1 7 0 + 2 := q2
            have sz := sw z
            have z0 := w0' z
            have z1 := w1 z
            rw [if_pos rfl, lA]
            rcases (show l' = R.1 7 0 + 1 ∨ l' = R.1 7 0 + 2 by omega) with q | q
            · rw [rg2, if_neg (by omega), if_pos q, wnK1 z]; omega
            · rw [rg2, if_pos q, wnK2 z]; omega
          · have q1' : R.1 7 0 < l' := q1
            have q2' : l' ≤ R.1 7 0 + 2 := q2
            have q3' : R.1 7 0 < l'' := q3
            have q4' : l'' ≤ R.1 7 0 + 2 := q4
            have sz := sw z
            have le := le1 z
            rcases (show (l' = R.1 7 0 + 1 ∧ l'' = R.1 7 0 + 2) ∨ (l' = R.1 7 0 + 2 ∧ l'' = R.1 7 0 + 1) by omega) with q | q
            · rw [rg2, rg2, if_neg (by omega), if_pos q.1, if_pos q.2, wnK1 z, wnK2 z]; omega
            · rw [rg2, rg2, if_pos q.1, if_neg (by omega), if_pos q.2, wnK1 z, wnK2 z]; omega
          · show [l] = [(spR R l a2 K1 K2 _ _).1 18 (R.1 15 0 + 1)]
            rw [hi _ _ 18 (by omega) (by omega)]
            exact congrArg (fun v => [v]) d3.symm
          · show (spR R l a2 K1 K2 _ _).1 18 (R.1 15 0 + 1) ≤ 300
            rw [hi _ _ 18 (by omega) (by omega)]; exact Nat.le_trans (Nat.le_of_eq d3) (by omega)
          · show (spR R l a2 K1 K2 _ _).1 19 (R.1 15 0 + 1) ≤ 300
            rw [hi _ _ 19 (by omega) (by omega)]; exact Nat.le_trans (Nat.le_of_eq d4) (by omega)
          · show (spR R l a2 K1 K2 _ _).1 20 (R.1 15 0 + 1) ≤ 300
            rw [hi _ _ 20 (by omega) (by omega)]; exact Nat.le_trans (Nat.le_of_eq d5) (by omega)
          · show (spR R l a2 K1 K2 _ _).1 21 (R.1 15 0 + 1) ≤ 25401600
            rw [hi _ _ 21 (by omega) (by omega)]; exact Nat.le_trans (Nat.le_of_eq d6) (by omega)
        have F' := WF_step F0 st cn
        refine ⟨by unfold inR; omega, inR_lit0, sp_Mo_split M hg F h1 h2 (fun q => absurd ⟨u1, u2⟩ q) (fun _ _ q => absurd ⟨by omega, by omega⟩ q) (fun _ _ _ q => absurd kd q) (fun _ _ lx zx _ _ _ v' S' g' rf' => ?_) (fun _ _ lx zx _ _ _ r1 r2 r3 r4 Q0 Q1 L1 L2 S' hQ hL1 hL2 z0 mg md => ?_)⟩
        · have z : lx = l := by omega
          rw [z] at rf'
          exact absurd ⟨fun q => q kb, kl, fun q => q ok, nmu⟩ (Rf_ne rf')
        · have z : lx = l := by omega
          rw [z] at hQ md
          obtain ⟨eQ0, eQ1⟩ := spO_uniq rA.2.2.1 hQ hO
          rw [eQ0] at hL1
          rw [eQ1] at hL2
          have eK1 : L1 = K1 := ig_kept_uniq o0 (rgn_nodup s0) hL1 kK1
          have eK2 : L2 = K2 := ig_kept_uniq o1 (rgn_nodup s1') hL2 kK2
          rw [eK1, eK2] at md
          refine fin_r (by unfold inR; omega) rfl z0 (inv_acc hc j1 (md _ _) mg F' (he.n (n20_trans nT1 (n20_trans n11 (n20_trans k3 j3)))) (bt_step hb1 F0 st (fun l'' q1 q2 => ?_) (fun l'' q1 q2 => ?_)) ?_ ?_ (by rw [st.1.2.1]; omega))
          · have q2' : l'' ≤ R.1 7 0 := q2
            rw [j5 l'' q2', k4 7 (by omega) (by omega) (by omega) (by omega)]
            have v := x11 (ad 7 l'') (by rw [B1.t7 q1 q2]; omega)
            have v2 := k2 (ad 7 l'') (by rw [v.1, B1.t7 q1 q2]; omega)
            rw [(j2 _ (by rw [v2.1, v.1, B1.t7 q1 q2]; omega)).2.1, v2.2.1, v.2.1]
          · exact Nat.le_of_eq (j6 l'' q1 q2)
          · have g9 := lgrow_ln k5 (by rw [(x11 _ (by omega)).2.1]; exact h71) (show R.1 30 0 + (wrec (dbody 1 a2.toNat (R.1 15 0 + 1) l 0 0 0 (aRow R))).length ≤ 3072 by rw [bo.2.1, rz]; omega)
            rw [j4, (j2 _ (by have := k1.lgA.2.2.2.1; omega)).2.1]; exact g9
          · rw [st.1.2.2.2.1, bo.2.1, rz]
            show R.1 30 0 + (5 + (aRow R).length) + 0 ≤ _
            omega
      · rw [show (k : Int) + 1 = ((k + 1 : Nat) : Int) by omega]
        rw [show (1 + (k : Int)).toNat = 1 + k by omega] at y5
        refine ih (k + 1) T5 (by omega) (by omega) (Tw_trans g4 (by rw [y5]; exact Tw_i rfl)) (by rw [y5, cs_i_fi, if_neg (by omega)]; exact f0) (fun i hi => ?_)
        rw [y5, cs_i_fi]
        by_cases ci : i = k
        · rw [if_pos ⟨rfl, by omega⟩, ci]
        · rw [if_neg (by omega)]; exact fk i (by omega)
  exact lp _ 0 T42 (by omega) (by omega) g42 z42 (fun i hi => by omega)
end OPL
