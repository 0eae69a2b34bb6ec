/-! calls: open -/
section OPM
variable {qs : List Nat}
abbrev opR (R : AR) (K : List PT) (ih : Nat → Bool) : AR := rLotB (rRow R []) 0 0 0 K (fun p => if p = 0 then 5040 else 0) ih
abbrev opOK (R : AR) : Prop := 3 ≤ (aRow R).length ∧ ic_simple (aRow R) true
theorem sp_Mo_open {S : MS} {R : AR} {post : Int → MS → Prop} (h : MD S R) (hg : MG S) (F : WF R) (hz : R.1 7 0 = 0 → ∀ f, 11 ≤ f → f ≤ 14 → S.2 f 1 = 0) (p1 : R.1 7 0 ≠ 0 → post 0 (ms_i (ms_i S 0 1) 4 0)) (pf : R.1 7 0 = 0 → ¬ opOK R → post 0 (ms_i (ms_i S 0 0) 4 0))
    (p0 : R.1 7 0 = 0 → opOK R → ∀ K S', ig_kept (aRow R) K → S'.1 0 = 0 → MG S' → (∀ ih, MD S' (opR R K ih)) → post 1 S') : wp_Mo_open post S := by
  have w := F.r
  have W := w.1
  have r32 := w.2.1.1
  have hK := w.2.1.2
  unfold wp_Mo_open
  rw [h.1.1]
  by_cases c : R.1 7 0 = 0
  · rw [if_pos c, h.sc (f := 2) (by omega)]
    obtain ⟨z15, z25, z30, z2⟩ := F.c.1 c
    refine ⟨inR_lit0, fun f => absurd rfl f, fun _ => ⟨by unfold inR; omega, fun _ => ?_, fun q => by omega⟩⟩
    intro S1 y1
    have z0 : S1.1 0 = 0 := by rw [y1]; exact ms_i0 S 0
    have M1 : MD S1 R := by rw [y1]; exact h.fr (mfr_i0 S 0)
    rw [z0, M1.2.1.1]
    have no : ¬ opOK R → wp_Mo_open_51 post 0 S1 := fun q => ⟨inR_lit0, fun _ S2 y2 => ⟨b01_0, by rw [y2, y1]; exact pf c q⟩, fun f => absurd rfl f⟩
    refine ⟨inR_lit0, fun f => absurd rfl f, fun _ => ⟨by unfold inR; omega, fun q => no (fun f => by have := f.1; omega), fun q => ?_⟩⟩
    have row0 : aRow R ≠ [] := by intro f; rw [f] at q; simp at q
    have h3 : 3 ≤ (aRow R).length := by omega
    have iff := ig_simple_iff hK true (fun _ => h3)
    refine sp_Mo_isSimple M1.2.1 row0 hK true (fun k => ⟨inR_lit1, fun f => absurd f (by decide), fun _ => ?_⟩) (fun k => ⟨inR_lit0, fun _ => no (fun f => k (iff.mp f.2)), fun f => absurd rfl f⟩)
    have ok : opOK R := ⟨h3, iff.mpr k⟩
    have sm := rgn_simple hK h3 ok.2
    refine ⟨inR_lit1, fun f => absurd f (by decide), fun _ S2 y2 => ⟨(aRow R).length + 1, ?_⟩⟩
    have f2 : mfm S1 S2 := by rw [y2]; exact mfm_i S1 0
    have m2 : mmade S2 [] := ⟨by rw [y2]; exact ms_i_same _ _ _, by show 0 ≤ 400; omega, fun k hk => absurd hk (Nat.not_lt_zero _)⟩
    have lp : ∀ (n k : Nat) (S3 : MS), (aRow R).length - k < n → k ≤ (aRow R).length → mfm S1 S3 → mmade S3 ((aRow R).take k) → wp_Mo_open_63 post n 1 k S3 := by
      intro n
      induction n with
      | zero => intro k S3 hm; omega
      | succ n ih =>
        intro k S3 hm hk f3 m3
        have M3 := M1.fr f3.fr
        unfold wp_Mo_open_63
        rw [M3.2.1.1]
        refine ⟨by unfold inR; omega, by unfold inR; omega, fun ck => ?_, fun ck => ⟨⟨by omega, by omega⟩, ⟨by omega, by omega⟩, ?_⟩⟩
        · have ek : k = (aRow R).length := by omega
          rw [ek, List.take_length] at m3
          refine sp_Mo_tidy m3 row0 hK sm (fun S4 Tt f4 m4 rT => ?_)
          obtain ⟨t0, t1⟩ := made_ne hK sm row0 rT
          have lT : Tt.length ≤ 32 := by
            rw [← rT.1]
            have := (ig_flt_sub (ig_or (aRow R))).length_le
            rw [ig_or_len] at this; omega
          refine sp_Mo_give (lot := 1) m4 t0 t1 (by omega) (by omega) (fun S5 K g5 r5 k5 => ?_)
          intro S6 y6 S7 y7 S8 y8
          refine ⟨b01_1, p0 c ok K S8 (kept_of rT r5 k5) ?_ ?_ (fun ih => ?_)⟩
          · rw [y8, y7, y6]
            show S5.1 0 = 0
            rw [g5.1, f4.1 0 (by omega), f3.1 0 (by omega)]; exact z0
          · intro f d q1 q2
            rw [y8, y7, y6]
            show 0 ≤ S5.2 f d
            rw [g5.2.1 f (by omega) (by omega) (by omega), f4.2 f (by omega) (by omega), f3.2 f (by omega) (by omega), y1]
            exact hg f d q1 q2
          · have a1 : ∀ k, k ≠ 33 → k ≠ 0 → S5.1 k = S.1 k := fun k q1 q0 => by
              rw [g5.1, f4.1 k q1, f3.1 k q1, y1]
              show (if k = 0 then _ else S.1 k) = S.1 k
              rw [if_neg q0]
            have e8 : ∀ k, k ≠ 4 → k ≠ 1 → k ≠ 7 → k ≠ 33 → k ≠ 0 → S8.1 k = S.1 k := fun k q4 q1 q7 q33 q0 => by
              rw [y8, y7, y6]
              show (if k = 4 then _ else if k = 1 then _ else if k = 7 then _ else S5.1 k) = S.1 k
              rw [if_neg q4, if_neg q1, if_neg q7]; exact a1 k q33 q0
            have e82 : S8.2 = S5.2 := by rw [y8, y7, y6]; rfl
            have o7 : (opR R K ih).1 7 0 = 1 := by rw [rLotB_7]; show R.1 7 0 + 1 = 1; omega
            have oo : ∀ {f : Nat} (i : Nat), f ≠ 7 ∧ (f < 11 ∨ 14 < f) → (opR R K ih).1 f i = R.1 f i := fun i hf => rLotB_o (rRow R []) 0 0 0 K _ ih i hf
            have on : ∀ f, 11 ≤ f → f ≤ 14 → (opR R K ih).1 f 1 = 0 := by
              intro f q1 q2
              rw [rLotB_n]
              show (if f = 14 ∧ 1 = R.1 7 0 + 1 then 0 else if f = 13 ∧ 1 = R.1 7 0 + 1 then 0 else if f = 12 ∧ 1 = R.1 7 0 + 1 then 0 else if f = 11 ∧ 1 = R.1 7 0 + 1 then 0 else if f = 7 ∧ 1 = 0 then R.1 7 0 + 1 else R.1 f 1) = 0
              rw [c]
              rcases (show f = 11 ∨ f = 12 ∨ f = 13 ∨ f = 14 by omega) with q | q | q | q <;> subst q <;> simp
            refine ⟨⟨?_, fun f hf => ?_⟩, ⟨?_, by show 0 ≤ 32; omega, fun k hk => absurd hk (Nat.not_lt_zero _)⟩, fun l l1 l2 => ?_, fun d d1 d2 => ?_, fun e e1 e2 => ?_, fun i hi => ?_⟩
            · rw [o7, y8, y7]; rfl
            · by_cases q7 : f = 7
              · subst q7; rw [o7, y8, y7, y6]; rfl
              · rw [oo 0 (by omega), e8 f (by omega) (by omega) q7 (by omega) (by omega)]; exact h.sc hf
            · rw [y8]; rfl
            · rw [o7] at l2
              have : l = 1 := by omega
              subst this
              have rgn1 : aRing (opR R K ih) 1 = K := by
                show (if 1 = R.1 7 0 + 1 then K else aRing R 1) = K
                rw [if_pos (by omega)]
              rw [rgn1, e82]
              refine ⟨g5.2.2.2.1, fun k hk => g5.2.2.2.2.1 k hk, fun f f1 f2 => ?_⟩
              rw [g5.2.1 f (by omega) (by omega) (by omega), f4.2 f (by omega) (by omega), f3.2 f (by omega) (by omega), y1, on f f1 f2]
              exact hz c f f1 f2
            · rw [oo 0 (by omega)] at d2; omega
            · rw [oo 0 (by omega)] at e2; omega
            · rw [oo 0 (by omega)] at hi; omega
        · have hk' : k < (aRow R).length := by omega
          have at_ := M3.2.1.2.2 k hk'
          rw [Int.toNat_natCast, at_.1, at_.2]
          refine sp_Mo_make (p := ig_at (aRow R) k) m3 (by rw [List.length_take]; omega) (fun S4 f4 m4 => ?_)
          rw [show (k : Int) + 1 = ((k + 1 : Nat) : Int) by omega]
          refine ih (k + 1) S4 (by omega) (by omega) (mfm_trans f3 f4) ?_
          rw [ig_at_getD hk', show (aRow R).getD k (0, 0) = (aRow R)[k] by simp [hk'], ← List.take_succ_eq_append_getElem hk'] at m4
          exact m4
    exact lp _ 0 S2 (by omega) (by omega) f2 (by rw [List.take_zero]; exact m2)
  · rw [if_neg c]
    refine ⟨inR_lit1, fun _ => ?_, fun f => absurd f (by decide)⟩
    intro S1 y1
    rw [y1, ms_i0]
    exact ⟨inR_lit1, fun _ => ⟨inR_lit0, fun _ S2 y2 => ⟨b01_0, by rw [y2]; exact p1 c⟩, fun f => absurd rfl f⟩, fun f => absurd f (by decide)⟩
theorem fin_eo {f1 : Nat → Int64} {cd : Int} {S1 : MS} {P : Prop} (hc : cd ≠ 0) (h0 : S1.1 0 = cd) (hi : P) : inR 0 ∧ S1.1 0 = cd ∧ (cd = 0 → f1 0 = lI (if (0 : Int) = 0 then 0 else 1)) ∧ P := ⟨inR_lit0, h0, fun f => absurd f hc, hi⟩
theorem fin_o {f : Nat → Int64} {r b : Int} {S1 : MS} {P : Prop} (hr : inR r) (hb : b = r) (h0 : S1.1 0 = 0) (hi : P) : inR b ∧ S1.1 0 = 0 ∧ ((0 : Int) = 0 → vp_updL f 0 (lI (if r = 0 then 0 else 1)) 0 = lI (if b = 0 then 0 else 1)) ∧ P := by
  subst hb; exact ⟨hr, h0, fun _ => rfl, hi⟩
theorem op_open (hq : qs.Nodup) (hl : qs.length = 30) {j c n : Nat} {T : CS} {S : MS} {f : Nat → Int64} {a1 a2 a3 a4 a5 a6 : Int} (hj : j < 512) (h : LInv qs j c n T S) (h1 : inR a1) (h2 : inR a2) (h3 : inR a3) (h4 : inR a4) (h5 : inR a5) (h6 : inR a6) : st_open (LInv qs (j + 1)) (qa qs 0) f c n a1 a2 a3 a4 a5 a6 T S := by
  obtain ⟨hc, ad, R, hS, hw, hz⟩ := h
  have B := hS.1
  have M := hS.2.1
  have F := hS.2.2.2.1
  have w := F.r
  have W := w.1
  have t0 : tg T (qa qs 0) = 1 := B.1.tag (by omega) rfl
  have r4 : fo T (qa qs 0) 4 = some (qa qs 22) := B.1.ref (i := 0) (j := 4) (z := 22) (by omega) rfl (by omega)
  have r5 : fo T (qa qs 0) 5 = some (qa qs 28) := B.1.ref (i := 0) (j := 5) (z := 28) (by omega) rfl (by omega)
  have t22 : tg T (qa qs 22) = 5 := B.1.tag (by omega) rfl
  have t28 : tg T (qa qs 28) = 6 := B.1.tag (by omega) rfl
  have inv : ∀ {T1 : CS} {S1 : MS}, Tx (scr qs) T T1 → n20 T T1 → mfr S S1 → LInv qs (j + 1) (c + 1000) (n + 14000) T1 S1 := fun g g2 m => inv_q hq hl hS hc hw hz g g2 m
  have er : ∀ v : Int, LInv qs (j + 1) (c + 1000) (n + 14000) T (ms_i S 0 v) := fun v => inv (Tx_refl _ _) (n20_refl _) (mfr_i0 S v)
  have hg := hS.2.2.1
  have he := hS.2.2.2.2.1
  have hb := hS.2.2.2.2.2.1
  have h7 := hS.2.2.2.2.2.2
  have sc : ∀ {U V : CS}, Tx (fun _ => False) U V → Tx (scr qs) U V := fun g => Tx_mono g (fun a f => f.elim)
  have t9 : tg T (ad 9 0) = 11 := B.lgA.2.2.2.1
  unfold st_open hx_open
  refine ⟨1000, 14000, ⟨by omega, by omega⟩, t0, ?_⟩
  unfold wp_BLB_open
  refine ⟨t0, sp_B_takeRow hq hl B (fun T1 g1 B1 pc => ?_)⟩
  have r32 := w.2.1.1
  have hK := w.2.1.2
  have F0 : WF (rRow R []) := WF_row F (by show 0 ≤ 32; omega) (fun p hp => absurd hp List.not_mem_nil)
  have w0 : WR (rRow R []) := F0.r
  have nT1 : n20 T T1 := n20_tw g1
  have M0 : MD (ms_i S 4 0) (rRow R []) := M.rw (S' := ms_i S 4 0) (l := []) (fun k k1 k2 k3 => by
      show (if k = 4 then _ else S.1 k) = S.1 k
      rw [if_neg k3]) (fun k _ _ _ _ => rfl) ⟨rfl, by show 0 ≤ 32; omega, fun k hk => absurd hk (Nat.not_lt_zero _)⟩
  have hb1 : bt ad T1 (rRow R []) := hb.cg rfl (fun _ => rfl) (fun _ _ _ => rfl) (fun l a b => by rw [g1.2.1])
  have h71 : ln T1 (ad 9 0) ≤ 7000 := by rw [g1.2.1]; exact h7
  have hS0 : SI qs ad T1 (ms_i S 4 0) (rRow R []) := ⟨B1, M0, hg.e2 rfl, F0, he.n nT1, hb1, h71⟩
  have inv0 : ∀ {T2 : CS} {S2 : MS}, Tx (scr qs) T1 T2 → n20 T1 T2 → mfr (ms_i S 4 0) S2 → LInv qs (j + 1) (c + 1000) (n + 14000) T2 S2 := fun g g2 m => inv_q hq hl hS0 hc (by show R.1 30 0 + 0 ≤ _; omega) hz g g2 m
  have er0 : ∀ v : Int, LInv qs (j + 1) (c + 1000) (n + 14000) T1 (ms_i (ms_i S 0 v) 4 0) := fun v => inv0 (Tx_refl _ _) (n20_refl _) (mfr_40 S v)
  have z4 : ∀ v : Int, (ms_i (ms_i S 0 v) 4 0).1 0 = v := fun v => by
    show (if 0 = 0 then v else S.1 0) = v
    rw [if_pos rfl]
  have t01 : tg T1 (qa qs 0) = 1 := B1.1.tag (by omega) rfl
  refine ⟨t01, qa qs 22, B1.1.ref (i := 0) (j := 4) (z := 22) (by omega) rfl (by omega), B1.1.tag (by omega) rfl, sp_B_lotCount B1 ⟨show inR (R.1 7 0 : Int) by unfold inR; omega, fun k => ?_, fun k => ⟨⟨by omega, by omega⟩, rfl, inR_lit1, sp_Mo_open M hg F hz (fun _ => fin_eo (by decide) (z4 1) (er0 1)) (fun q => absurd k (by show ¬ ¬ (R.1 7 0 : Int) ≤ 0; omega)) (fun q => absurd k (by show ¬ ¬ (R.1 7 0 : Int) ≤ 0; omega))⟩⟩⟩
  have k0 : R.1 7 0 = 0 := by have k : (R.1 7 0 : Int) ≤ 0 := k; omega
  have no : ∀ {T2 : CS}, T2 = T1 → ¬ opOK R → inR 0 ∧ inR 0 ∧ wp_Mo_open (fun b S1 => inR b ∧ S1.1 0 = 0 ∧ ((0 : Int) = 0 → vp_updL f 0 (lI (if (0 : Int) = 0 then 0 else 1)) 0 = lI (if b = 0 then 0 else 1)) ∧ LInv qs (j + 1) (c + 1000) (n + 14000) T2 S1) S := fun eT q => by
    subst eT
    exact ⟨inR_lit0, inR_lit0, sp_Mo_open M hg F hz (fun q => absurd k0 q) (fun _ _ => fin_o inR_lit0 rfl (z4 0) (er0 0)) (fun _ q2 => absurd q2 q)⟩
  refine ⟨t01, qa qs 3, B1.1.ref (i := 0) (j := 1) (z := 3) (by omega) rfl (by omega), pc.1, ?_⟩
  rw [pc.sz]
  refine ⟨by unfold inR; omega, fun q => no rfl (fun f => by have := f.1; omega), fun q => ⟨t01, qa qs 3, B1.1.ref (i := 0) (j := 1) (z := 3) (by omega) rfl (by omega), ?_⟩⟩
  have h3 : 3 ≤ (aRow R).length := by omega
  have row0 : aRow R ≠ [] := by intro f; rw [f] at h3; simp at h3
  refine sp_BRi_isSimple (closed := true) pc row0 hK (fun ks => ⟨inR_lit1, fun _ => ?_, fun q => absurd q (by decide)⟩) (fun ks => ⟨inR_lit0, fun q => absurd rfl q, fun _ => no rfl (fun f => ks f.2)⟩)
  have ok : opOK R := ⟨h3, ks⟩
  have sm := rgn_simple hK h3 ks
  refine ⟨999, 13998, ⟨by omega, by omega⟩, fun q10 T11 q0 y11 => ⟨1, 32, 998, 13966, ⟨by omega, by omega⟩, ?_⟩⟩
  have x11 : Tx (fun _ => False) T1 T11 := by rw [y11]; exact Tx_new _ q0
  have n11 : n20 T1 T11 := by rw [y11]; exact n20_new (by decide)
  refine sp_B_ptinit (cap := 32) (by rw [y11]; exact new_tg _ _ _ _) (by rw [y11]; exact new_fi _ _ _ _ _) (by omega) (by omega) (by omega) (fun T14 b hb0 g14 n14 p14 => ?_)
  have bT : tg T1 b = 0 := Classical.byContradiction fun q => q (by rw [← (x11 b q).1]; exact hb0)
  have x14 : Tx (fun _ => False) T1 T14 := by
    intro u hu
    obtain ⟨v1, v2, v3, v4⟩ := x11 u hu
    have hne : u ≠ q10 := fun q => by rw [q] at hu; exact hu q0
    obtain ⟨z1, z2, z3, z4⟩ := g14 u (by rw [v1]; exact hu)
    exact ⟨by rw [z1, v1], by rw [z2, v2], by rw [z3 hne, v3], fun q => by rw [z4 q, v4 q]⟩
  have B14 := B1.tx hq hl (sc x14)
  have pc14 := pc.tx x14 (fun q => q) (fun q => q)
  refine ⟨B14.1.tag (by omega) rfl, qa qs 3, B14.1.ref (i := 0) (j := 1) (z := 3) (by omega) rfl (by omega), ?_⟩
  have ne1 : qa qs 3 ≠ q10 := fun q => by have := pc.1; rw [q] at this; omega
  have ne2 : qa qs 4 ≠ b := fun q => by have := pc.2.2.1; rw [q] at this; omega
  refine sp_B_keep pc14 p14.spt ne1 ne2 row0 hK sm r32 (by omega) (fun T21 K g21 p21 kK => ?_)
  have x21 : Tx (fun _ => False) T1 T21 := by
    intro u hu
    obtain ⟨v1, v2, v3, v4⟩ := x14 u hu
    have hne : ¬ pab q10 b u := by
      rintro (q | q)
      · rw [q] at hu; exact hu q0
      · rw [q] at hu; exact hu bT
    exact ⟨by rw [g21.1, v1], by rw [g21.2.1, v2], by rw [g21.2.2.1, v3], fun q => by rw [g21.2.2.2 u hne, v4 q]⟩
  have n21 : n20 T1 T21 := n20_trans n11 (n20_trans n14 (n20_tw g21))
  have B21 := B1.tx hq hl (sc x21)
  have kg := ig_kept_good hK sm row0 kK
  have K32 : K.length ≤ 32 := by have := ig_kept_len kK; omega
  have rgK : rg_ok K := ⟨fun p hp => hK p (ig_kept_mem kK hp), ⟨kg.2.2.2, by omega⟩, kg.1, kg.2.1⟩
  refine ⟨B21.1.tag (by omega) rfl, qa qs 22, B21.1.ref (i := 0) (j := 4) (z := 22) (by omega) rfl (by omega), 998, 13966, 0, 0, ⟨by omega, by omega⟩, B21.1.tag (by omega) rfl, sp_B_found (ih := fun _ => false) hq hl B21 (he.n (n20_trans nT1 n21)) p21 (by omega) k0 (F.c.1 k0).2.1 (by omega) (by omega) (fun T2 ad2 j1 j2 j3 j4 j5 => ?_)⟩
  have F' : WF (opR R K (fun _ => false)) := WF_found F0 k0 rgK
  have o7 : (opR R K (fun _ => false)).1 7 0 = 1 := by rw [rLotB_7]; show R.1 7 0 + 1 = 1; omega
  refine ⟨inR_lit1, inR_lit0, sp_Mo_open M hg F hz (fun q => absurd k0 q) (fun _ q => absurd ok q) (fun _ _ K' S' hK' z0 mg md => ?_)⟩
  have eK : K' = K := ig_kept_uniq hK (rgn_nodup sm) hK' kK
  rw [eK] at md
  refine fin_o inR_lit1 rfl z0 (inv_acc hc j1 (md _) mg F' (he.n (n20_trans nT1 (n20_trans n21 j3))) (fun l l1 l2 => ?_) ?_ ?_ (by rw [o7]; omega))
  · rw [o7] at l2
    have : l = 1 := by omega
    subst this
    rw [j5]; exact Nat.zero_le _
  · have v := x21 (ad 9 0) (by have := B1.lgA.2.2.2.1; omega)
    rw [j4, (j2 _ (by rw [v.1]; have := B1.lgA.2.2.2.1; omega)).2.1, v.2.1]; exact h71
  · rw [rLotB_o _ _ _ _ _ _ _ _ ⟨by omega, by omega⟩]
    show R.1 30 0 + 0 ≤ _
    omega
end OPM
