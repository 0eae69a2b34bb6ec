/-! calls: many, word, corners, corner, parent, child, sync, crash, point -/
section OPA
variable {qs : List Nat}
theorem BK.lt9 {ad : Nat → Nat → Nat} {T : CS} {R : AR} (h : BK qs ad T R) {l : Nat} (l1 : 1 ≤ l) (l2 : l ≤ R.1 7 0) : tg T (ad 1 l) = 9 := h.2.2.2.1.2.1.2.2.2.2.1 l l1 l2
theorem BK.lta {ad : Nat → Nat → Nat} {T : CS} {R : AR} (h : BK qs ad T R) {l : Nat} (l1 : 1 ≤ l) (l2 : l ≤ R.1 7 0) : lotAt qs ad T R l := h.2.2.2.2.2.2.1 l l1 l2
theorem BK.lgA {ad : Nat → Nat → Nat} {T : CS} {R : AR} (h : BK qs ad T R) : logAt qs ad T R := h.2.2.2.2.2.2.2.2
theorem sp_Mo_many {S : MS} {R : AR} (h : MD S R) {post : Int → MS → Prop} {a : Int} (ha : inR a) (pe : a < 0 ∨ 4 < a → post 0 (ms_i S 0 1)) (p0 : a = 0 → post (R.1 7 0 : Int) (ms_i S 0 0)) (p1 : a = 1 → post (R.1 15 0 : Int) (ms_i S 0 0)) (p2 : a = 2 → post (R.1 25 0 : Int) (ms_i S 0 0)) (p3 : a = 3 → post (R.1 30 0 : Int) (ms_i S 0 0)) (p4 : a = 4 → post (R.1 31 0 : Int) (ms_i S 0 0)) : wp_Mo_many post a S := by
  have e7 := h.sc (f := 7) (by omega)
  have e15 := h.sc (f := 15) (by omega)
  have e25 := h.sc (f := 25) (by omega)
  have e30 := h.sc (f := 30) (by omega)
  have e31 := h.sc (f := 31) (by omega)
  unfold wp_Mo_many
  refine ⟨ha, fun c => ?_, fun c => ⟨ha, fun d => ?_, fun d => ?_⟩⟩
  · intro S1 y1; rw [y1]
    exact ⟨ha, pe, fun f => by omega, fun f => by omega, fun f => by omega, fun f => by omega, fun f => by omega⟩
  · intro S1 y1; rw [y1]
    refine ⟨ha, fun f => by omega, fun f => ?_, fun f => ?_, fun f => ?_, fun f => ?_, fun f => ?_⟩
    · show post (S.1 7) _; rw [e7]; exact p0 f
    · show post (S.1 15) _; rw [e15]; exact p1 f
    · show post (S.1 25) _; rw [e25]; exact p2 f
    · show post (S.1 30) _; rw [e30]; exact p3 f
    · show post (S.1 31) _; rw [e31]; exact p4 f
  · intro S1 y1; rw [y1]
    exact ⟨ha, pe, fun f => by omega, fun f => by omega, fun f => by omega, fun f => by omega, fun f => by omega⟩
theorem op_many (hq : qs.Nodup) (hl : qs.length = 30) {j c n : Nat} {T : CS} {S : MS} {f : Nat → Int64} {a1 a2 a3 a4 a5 a6 : Int} (hj : j < 512) (h : LInv qs j c n T S) (h1 : inR a1) (h2 : inR a2) (h3 : inR a3) (h4 : inR a4) (h5 : inR a5) (h6 : inR a6) : st_many (LInv qs (j + 1)) (qa qs 0) f c n a1 a2 a3 a4 a5 a6 T S := by
  obtain ⟨hc, ad, R, hS, hw, hz⟩ := h
  have B := hS.1
  have M := hS.2.1
  have F := hS.2.2.2.1
  have w := F.r
  have W := w.1
  have t0 : tg T (qa qs 0) = 1 := B.1.tag (by omega) rfl
  have r4 : fo T (qa qs 0) 4 = some (qa qs 22) := B.1.ref (i := 0) (j := 4) (z := 22) (by omega) rfl (by omega)
  have r5 : fo T (qa qs 0) 5 = some (qa qs 28) := B.1.ref (i := 0) (j := 5) (z := 28) (by omega) rfl (by omega)
  have t22 : tg T (qa qs 22) = 5 := B.1.tag (by omega) rfl
  have t28 : tg T (qa qs 28) = 6 := B.1.tag (by omega) rfl
  have inv : ∀ {T1 : CS} {S1 : MS}, Tx (scr qs) T T1 → n20 T T1 → mfr S S1 → LInv qs (j + 1) (c + 1000) (n + 14000) T1 S1 := fun g g2 m => inv_q hq hl hS hc hw hz g g2 m
  have er : ∀ v : Int, LInv qs (j + 1) (c + 1000) (n + 14000) T (ms_i S 0 v) := fun v => inv (Tx_refl _ _) (n20_refl _) (mfr_i0 S v)
  unfold st_many hx_many
  refine ⟨1000, 14000, ⟨by omega, by omega⟩, t0, ?_⟩
  unfold wp_BLB_many
  refine ⟨h1, fun k => ⟨⟨by omega, by omega⟩, rfl, inR_lit1, sp_Mo_many M h1 (fun _ => fin_e (by decide) (ms_i0 S 1) (er 1)) (fun q => by omega) (fun q => by omega) (fun q => by omega) (fun q => by omega) (fun q => by omega)⟩, fun k => ⟨t0, qa qs 22, r4, t22, sp_B_lotCount B ⟨by unfold inR; omega, inR_lit0, sp_Mo_many M h1 (fun q => by omega) (fun _ => fin_r (by unfold inR; omega) rfl (ms_i0 S 0) (er 0)) (fun q => by omega) (fun q => by omega) (fun q => by omega) (fun q => by omega)⟩⟩, fun k => ⟨t0, qa qs 22, r4, t22, sp_B_lastEntry B ⟨by unfold inR; omega, inR_lit0, sp_Mo_many M h1 (fun q => by omega) (fun q => by omega) (fun _ => fin_r (by unfold inR; omega) rfl (ms_i0 S 0) (er 0)) (fun q => by omega) (fun q => by omega) (fun q => by omega)⟩⟩, fun k => ⟨t0, qa qs 22, r4, t22, sp_B_easementCount B ⟨by unfold inR; omega, inR_lit0, sp_Mo_many M h1 (fun q => by omega) (fun q => by omega) (fun q => by omega) (fun _ => fin_r (by unfold inR; omega) rfl (ms_i0 S 0) (er 0)) (fun q => by omega) (fun q => by omega)⟩⟩, fun k => ⟨t0, qa qs 28, r5, t28, ?_⟩, fun k => ⟨t0, qa qs 28, r5, t28, ?_⟩⟩
  · rw [B.lgA.1]
    exact ⟨by unfold inR; omega, inR_lit0, sp_Mo_many M h1 (fun q => by omega) (fun q => by omega) (fun q => by omega) (fun q => by omega) (fun _ => fin_r (by unfold inR; omega) rfl (ms_i0 S 0) (er 0)) (fun q => by omega)⟩
  · rw [B.lgA.2.1]
    exact ⟨by unfold inR; omega, inR_lit0, sp_Mo_many M h1 (fun q => by omega) (fun q => by omega) (fun q => by omega) (fun q => by omega) (fun q => by omega) (fun _ => fin_r (by unfold inR; omega) rfl (ms_i0 S 0) (er 0))⟩
theorem sp_Mo_word {S : MS} {R : AR} (h : MD S R) (w : WR R) {post : Int → MS → Prop} {a : Int} (ha : inR a) (pe : ¬ (0 ≤ a ∧ a < (R.1 30 0 : Int)) → post 0 (ms_i S 0 1)) (p0 : 0 ≤ a → a < (R.1 30 0 : Int) → post (aLg R a.toNat) (ms_i S 0 0)) : wp_Mo_word post a S := by
  have e30 := h.sc (f := 30) (by omega)
  have W := w.1
  unfold wp_Mo_word
  rw [e30]
  refine ⟨ha, fun c => ?_, fun c => ⟨ha, by unfold inR; omega, fun d => ?_, fun d => ?_⟩⟩
  · intro S1 y1; rw [y1, ms_i0]
    exact ⟨inR_lit1, fun f => absurd f (by decide), fun _ => pe (by omega)⟩
  · intro S1 y1; rw [y1, ms_i0]
    refine ⟨inR_lit0, fun _ => ⟨⟨by omega, by omega⟩, ?_⟩, fun f => absurd (Int.le_refl 0) f⟩
    show post (S.2 32 a.toNat) _
    rw [h.2.2.2.2.2 a.toNat (by omega)]; exact p0 (by omega) d
  · intro S1 y1; rw [y1, ms_i0]
    exact ⟨inR_lit1, fun f => absurd f (by decide), fun _ => pe (by omega)⟩
theorem op_word (hq : qs.Nodup) (hl : qs.length = 30) {j c n : Nat} {T : CS} {S : MS} {f : Nat → Int64} {a1 a2 a3 a4 a5 a6 : Int} (hj : j < 512) (h : LInv qs j c n T S) (h1 : inR a1) (h2 : inR a2) (h3 : inR a3) (h4 : inR a4) (h5 : inR a5) (h6 : inR a6) : st_word (LInv qs (j + 1)) (qa qs 0) f c n a1 a2 a3 a4 a5 a6 T S := by
  obtain ⟨hc, ad, R, hS, hw, hz⟩ := h
  have B := hS.1
  have M := hS.2.1
  have F := hS.2.2.2.1
  have w := F.r
  have W := w.1
  have t0 : tg T (qa qs 0) = 1 := B.1.tag (by omega) rfl
  have r4 : fo T (qa qs 0) 4 = some (qa qs 22) := B.1.ref (i := 0) (j := 4) (z := 22) (by omega) rfl (by omega)
  have r5 : fo T (qa qs 0) 5 = some (qa qs 28) := B.1.ref (i := 0) (j := 5) (z := 28) (by omega) rfl (by omega)
  have t22 : tg T (qa qs 22) = 5 := B.1.tag (by omega) rfl
  have t28 : tg T (qa qs 28) = 6 := B.1.tag (by omega) rfl
  have inv : ∀ {T1 : CS} {S1 : MS}, Tx (scr qs) T T1 → n20 T T1 → mfr S S1 → LInv qs (j + 1) (c + 1000) (n + 14000) T1 S1 := fun g g2 m => inv_q hq hl hS hc hw hz g g2 m
  have er : ∀ v : Int, LInv qs (j + 1) (c + 1000) (n + 14000) T (ms_i S 0 v) := fun v => inv (Tx_refl _ _) (n20_refl _) (mfr_i0 S v)
  unfold st_word hx_word
  refine ⟨1000, 14000, ⟨by omega, by omega⟩, t0, ?_⟩
  have bad : ¬ (0 ≤ a1 ∧ a1 < (R.1 30 0 : Int)) → wp_BLB_word_15 (fun r T1 => inR r ∧ inR 0 ∧ wp_Mo_word (fun b S1 => inR b ∧ S1.1 0 = 0 ∧ ((0 : Int) = 0 → vp_updL f 0 (lI r) 0 = lI b) ∧ LInv qs (j + 1) (c + 1000) (n + 14000) T1 S1) a1 S) (fun cls T1 => cls = "java/lang/IndexOutOfBoundsException" ∧ inR 1 ∧ wp_Mo_word (fun b S1 => inR b ∧ S1.1 0 = 1 ∧ ((1 : Int) = 0 → f 0 = lI b) ∧ LInv qs (j + 1) (c + 1000) (n + 14000) T1 S1) a1 S) 1000 14000 T := by
    intro k
    unfold wp_BLB_word_15
    exact ⟨⟨by omega, by omega⟩, rfl, inR_lit1, sp_Mo_word M w h1 (fun _ => fin_e (by decide) (ms_i0 S 1) (er 1)) (fun q1 q2 => absurd ⟨q1, q2⟩ k)⟩
  unfold wp_BLB_word
  refine ⟨h1, fun k => bad (by omega), fun k => ⟨t0, qa qs 28, r5, t28, ?_⟩⟩
  rw [B.lgA.1]
  refine ⟨h1, by unfold inR; omega, fun k2 => ⟨t0, qa qs 28, r5, t28, ?_⟩, fun k2 => bad (by omega)⟩
  unfold wp_BLg_at
  refine ⟨t28, ad 9 0, B.lgA.2.2.1, B.lgA.2.2.2.1, ⟨by omega, by have := B.lgA.2.2.2.2.1; omega⟩, ?_⟩
  rw [B.lgA.2.2.2.2.2.1 a1.toNat (by omega)]
  exact ⟨w.2.2.2.2.2 _, inR_lit0, sp_Mo_word M w h1 (fun q => absurd ⟨by omega, k2⟩ q) (fun _ _ => fin_r (w.2.2.2.2.2 _) rfl (ms_i0 S 0) (er 0))⟩
theorem sp_Mo_corners {S : MS} {R : AR} (h : MD S R) (w : WR R) {post : Int → MS → Prop} {a : Int} (ha : inR a) (p1 : ¬ (1 ≤ R.1 7 0 ∧ R.1 2 0 = 0) → post 0 (ms_i S 0 1)) (p2 : 1 ≤ R.1 7 0 → R.1 2 0 = 0 → ¬ (1 ≤ a ∧ a ≤ (R.1 7 0 : Int)) → post 0 (ms_i S 0 2)) (p0 : 1 ≤ R.1 7 0 → R.1 2 0 = 0 → ∀ l : Nat, a = l → 1 ≤ l → l ≤ R.1 7 0 → post ((aRing R l).length : Int) (ms_i S 0 0)) : wp_Mo_corners post a S := by
  have W := w.1
  unfold wp_Mo_corners
  refine sp_Mo_isUp h w (fun u1 u2 => ⟨inR_lit1, fun _ => sp_Mo_isLot h w ha (fun l e l1 l2 => ⟨inR_lit1, fun _ => ?_, fun f => absurd f (by decide)⟩) (fun k => ⟨inR_lit0, fun f => absurd rfl f, fun _ => ?_⟩), fun f => absurd f (by decide)⟩) (fun k => ⟨inR_lit0, fun f => absurd rfl f, fun _ => ?_⟩)
  · intro S1 y1; rw [y1, ms_i0]
    refine ⟨inR_lit0, fun _ => ⟨⟨by omega, by omega⟩, ?_⟩, fun f => absurd (Int.le_refl 0) f⟩
    show post (S.2 10 a.toNat) _
    rw [e, Int.toNat_natCast, (h.2.2.1 l l1 l2).1]; exact p0 u1 u2 l e l1 l2
  · intro S1 y1; rw [y1, ms_i0]
    exact ⟨inR_lit2, fun f => absurd f (by decide), fun _ => p2 u1 u2 k⟩
  · intro S1 y1; rw [y1, ms_i0]
    exact ⟨inR_lit1, fun f => absurd f (by decide), fun _ => p1 k⟩
theorem op_corners (hq : qs.Nodup) (hl : qs.length = 30) {j c n : Nat} {T : CS} {S : MS} {f : Nat → Int64} {a1 a2 a3 a4 a5 a6 : Int} (hj : j < 512) (h : LInv qs j c n T S) (h1 : inR a1) (h2 : inR a2) (h3 : inR a3) (h4 : inR a4) (h5 : inR a5) (h6 : inR a6) : st_corners (LInv qs (j + 1)) (qa qs 0) f c n a1 a2 a3 a4 a5 a6 T S := by
  obtain ⟨hc, ad, R, hS, hw, hz⟩ := h
  have B := hS.1
  have M := hS.2.1
  have F := hS.2.2.2.1
  have w := F.r
  have W := w.1
  have t0 : tg T (qa qs 0) = 1 := B.1.tag (by omega) rfl
  have r4 : fo T (qa qs 0) 4 = some (qa qs 22) := B.1.ref (i := 0) (j := 4) (z := 22) (by omega) rfl (by omega)
  have r5 : fo T (qa qs 0) 5 = some (qa qs 28) := B.1.ref (i := 0) (j := 5) (z := 28) (by omega) rfl (by omega)
  have t22 : tg T (qa qs 22) = 5 := B.1.tag (by omega) rfl
  have t28 : tg T (qa qs 28) = 6 := B.1.tag (by omega) rfl
  have inv : ∀ {T1 : CS} {S1 : MS}, Tx (scr qs) T T1 → n20 T T1 → mfr S S1 → LInv qs (j + 1) (c + 1000) (n + 14000) T1 S1 := fun g g2 m => inv_q hq hl hS hc hw hz g g2 m
  have er : ∀ v : Int, LInv qs (j + 1) (c + 1000) (n + 14000) T (ms_i S 0 v) := fun v => inv (Tx_refl _ _) (n20_refl _) (mfr_i0 S v)
  unfold st_corners hx_corners
  refine ⟨1000, 14000, ⟨by omega, by omega⟩, t0, ?_⟩
  unfold wp_BLB_corners
  refine ⟨1, 6, 999, 13994, ⟨by omega, by omega⟩, t0, sp_B_up B w ⟨by omega, by omega⟩ (fun u1 u2 => ⟨1, 6, 998, 13988, ⟨by omega, by omega⟩, t0, sp_B_ckLot B w h1 ⟨by omega, by omega⟩ (fun l e l1 l2 => ⟨t0, qa qs 22, r4, t22, ?_⟩) (fun k => Or.inr ⟨rfl, inR_lit2, sp_Mo_corners M w h1 (fun q => absurd ⟨u1, u2⟩ q) (fun _ _ _ => fin_e (by decide) (ms_i0 S 2) (er 2)) (fun _ _ l e l1 l2 => absurd ⟨by omega, by omega⟩ k)⟩)⟩) (fun k => Or.inl ⟨rfl, inR_lit1, sp_Mo_corners M w h1 (fun _ => fin_e (by decide) (ms_i0 S 1) (er 1)) (fun q1 q2 => absurd ⟨q1, q2⟩ k) (fun q1 q2 => absurd ⟨q1, q2⟩ k)⟩)⟩
  subst e
  have la := B.lta l1 l2
  have rg := w.rg l1 l2
  refine sp_B_lot B l1 l2 ⟨B.lt9 l1 l2, ad 4 l, la.1, la.2.1.1, ?_⟩
  rw [la.2.1.sz]
  have l60 := rg.2.1.2
  exact ⟨by unfold inR; omega, inR_lit0, sp_Mo_corners M w h1 (fun q => absurd ⟨u1, u2⟩ q) (fun _ _ q => absurd ⟨by omega, by omega⟩ q) (fun _ _ l' e' _ _ => by
    have : l' = l := by omega
    subst this
    exact fin_r (by unfold inR; omega) rfl (ms_i0 S 0) (er 0))⟩
theorem sp_Mo_corner {S : MS} {R : AR} (h : MD S R) (w : WR R) {post : Int → MS → Prop} {a k : Int} (ha : inR a) (hk : inR k) (p1 : ¬ (1 ≤ R.1 7 0 ∧ R.1 2 0 = 0) → post 0 (ms_i S 0 1)) (p2 : 1 ≤ R.1 7 0 → R.1 2 0 = 0 → (∀ l : Nat, a = l → 1 ≤ l → l ≤ R.1 7 0 → ¬ (0 ≤ k ∧ k < ((aRing R l).length : Int))) → post 0 (ms_i S 0 2)) (p0 : 1 ≤ R.1 7 0 → R.1 2 0 = 0 → ∀ l : Nat, a = l → 1 ≤ l → l ≤ R.1 7 0 → 0 ≤ k → k < ((aRing R l).length : Int) → post (ig_pk (ig_at (aRing R l) k.toNat)) (ms_i S 0 0)) : wp_Mo_corner post a k S := by
  have W := w.1
  unfold wp_Mo_corner
  have e2 : (1 ≤ R.1 7 0 → R.1 2 0 = 0 → (∀ l : Nat, a = l → 1 ≤ l → l ≤ R.1 7 0 → ¬ (0 ≤ k ∧ k < ((aRing R l).length : Int))) → wp_Mo_corner_39 post a k 2 S) := by
    intro u1 u2 q S1 y1
    rw [y1, ms_i0]
    exact ⟨inR_lit2, fun f => absurd f (by decide), fun _ => p2 u1 u2 q⟩
  refine sp_Mo_isUp h w (fun u1 u2 => ⟨inR_lit1, fun _ => sp_Mo_isLot h w ha (fun l e l1 l2 => ⟨inR_lit1, fun f => absurd f (by decide), fun _ => ⟨hk, fun c => e2 u1 u2 (fun l' e' _ _ => by omega), fun c => ⟨⟨by omega, by omega⟩, ?_⟩⟩⟩) (fun q => ⟨inR_lit0, fun _ => e2 u1 u2 (fun l e l1 l2 => absurd ⟨by omega, by omega⟩ q), fun f => absurd rfl f⟩), fun f => absurd f (by decide)⟩) (fun q => ⟨inR_lit0, fun f => absurd rfl f, fun _ => ?_⟩)
  · rw [e, Int.toNat_natCast, (h.2.2.1 l l1 l2).1]
    have l60 := (w.rg l1 l2).2.1.2
    refine ⟨hk, by unfold inR; omega, fun d => ?_, fun d => ?_⟩
    · intro S1 y1
      rw [y1, ms_i0]
      refine ⟨inR_lit0, fun _ => ?_, fun f => absurd (Int.le_refl 0) f⟩
      have M2 : MD (ms_i S 0 0) R := h.fr (mfr_i0 S 0)
      have ek : k = ((k.toNat : Nat) : Int) := by omega
      have := p0 u1 u2 l e l1 l2 (by omega) d
      rw [ek]
      refine sp_Mo_cornerX M2 w l1 l2 (by omega) (sp_Mo_cornerY M2 w l1 l2 (by omega) ?_)
      exact this
    · rw [e] at e2
      exact e2 u1 u2 (fun l' e' _ _ => by have q : l' = l := (by omega); rw [q]; omega)
  · intro S1 y1; rw [y1, ms_i0]
    exact ⟨inR_lit1, fun f => absurd f (by decide), fun _ => p1 q⟩
theorem op_corner (hq : qs.Nodup) (hl : qs.length = 30) {j c n : Nat} {T : CS} {S : MS} {f : Nat → Int64} {a1 a2 a3 a4 a5 a6 : Int} (hj : j < 512) (h : LInv qs j c n T S) (h1 : inR a1) (h2 : inR a2) (h3 : inR a3) (h4 : inR a4) (h5 : inR a5) (h6 : inR a6) : st_corner (LInv qs (j + 1)) (qa qs 0) f c n a1 a2 a3 a4 a5 a6 T S := by
  obtain ⟨hc, ad, R, hS, hw, hz⟩ := h
  have B := hS.1
  have M := hS.2.1
  have F := hS.2.2.2.1
  have w := F.r
  have W := w.1
  have t0 : tg T (qa qs 0) = 1 := B.1.tag (by omega) rfl
  have r4 : fo T (qa qs 0) 4 = some (qa qs 22) := B.1.ref (i := 0) (j := 4) (z := 22) (by omega) rfl (by omega)
  have r5 : fo T (qa qs 0) 5 = some (qa qs 28) := B.1.ref (i := 0) (j := 5) (z := 28) (by omega) rfl (by omega)
  have t22 : tg T (qa qs 22) = 5 := B.1.tag (by omega) rfl
  have t28 : tg T (qa qs 28) = 6 := B.1.tag (by omega) rfl
  have inv : ∀ {T1 : CS} {S1 : MS}, Tx (scr qs) T T1 → n20 T T1 → mfr S S1 → LInv qs (j + 1) (c + 1000) (n + 14000) T1 S1 := fun g g2 m => inv_q hq hl hS hc hw hz g g2 m
  have er : ∀ v : Int, LInv qs (j + 1) (c + 1000) (n + 14000) T (ms_i S 0 v) := fun v => inv (Tx_refl _ _) (n20_refl _) (mfr_i0 S v)
  unfold st_corner hx_corner
  refine ⟨1000, 14000, ⟨by omega, by omega⟩, t0, ?_⟩
  unfold wp_BLB_corner
  refine ⟨1, 6, 999, 13994, ⟨by omega, by omega⟩, t0, sp_B_up B w ⟨by omega, by omega⟩ (fun u1 u2 => ⟨1, 6, 998, 13988, ⟨by omega, by omega⟩, t0, sp_B_ckLot B w h1 ⟨by omega, by omega⟩ (fun l e l1 l2 => ⟨t0, qa qs 22, r4, t22, ?_⟩) (fun k => Or.inr ⟨rfl, inR_lit2, sp_Mo_corner M w h1 h2 (fun q => absurd ⟨u1, u2⟩ q) (fun _ _ _ => fin_e (by decide) (ms_i0 S 2) (er 2)) (fun _ _ l e l1 l2 => absurd ⟨by omega, by omega⟩ k)⟩)⟩) (fun k => Or.inl ⟨rfl, inR_lit1, sp_Mo_corner M w h1 h2 (fun _ => fin_e (by decide) (ms_i0 S 1) (er 1)) (fun q1 q2 => absurd ⟨q1, q2⟩ k) (fun q1 q2 => absurd ⟨q1, q2⟩ k)⟩)⟩
  subst e
  have la := B.lta l1 l2
  have rg := w.rg l1 l2
  have l60 := rg.2.1.2
  have bad : ¬ (0 ≤ a2 ∧ a2 < ((aRing R l).length : Int)) → (1 ≤ 998 ∧ 6 ≤ 13988) ∧ (("java/lang/IndexOutOfBoundsException" = "java/lang/IllegalStateException" ∧ inR 1 ∧ wp_Mo_corner (fun b S1 => inR b ∧ S1.1 0 = 1 ∧ ((1 : Int) = 0 → f 0 = lI b) ∧ LInv qs (j + 1) (c + 1000) (n + 14000) T S1) (l : Int) a2 S) ∨ ("java/lang/IndexOutOfBoundsException" = "java/lang/IndexOutOfBoundsException" ∧ inR 2 ∧ wp_Mo_corner (fun b S1 => inR b ∧ S1.1 0 = 2 ∧ ((2 : Int) = 0 → f 0 = lI b) ∧ LInv qs (j + 1) (c + 1000) (n + 14000) T S1) (l : Int) a2 S)) := fun k => ⟨⟨by omega, by omega⟩, Or.inr ⟨rfl, inR_lit2, sp_Mo_corner M w h1 h2 (fun q => absurd ⟨u1, u2⟩ q) (fun _ _ _ => fin_e (by decide) (ms_i0 S 2) (er 2)) (fun _ _ l' e' _ _ g1 g2 => absurd ⟨g1, by have q : l' = l := (by omega); rw [q] at g2; exact g2⟩ k)⟩⟩
  refine sp_B_lot B l1 l2 ⟨B.lt9 l1 l2, ad 4 l, la.1, h2, fun k => bad (by omega), fun k => ⟨la.2.1.1, ?_⟩⟩
  rw [la.2.1.sz]
  refine ⟨h2, by unfold inR; omega, fun k2 => ⟨la.2.1.1, ?_⟩, fun k2 => bad (by omega)⟩
  have ek : a2 = ((a2.toNat : Nat) : Int) := by omega
  have fin : inR (ig_pk (ig_at (aRing R l) a2.toNat)) ∧ inR 0 ∧ wp_Mo_corner (fun b S1 => inR b ∧ S1.1 0 = 0 ∧ ((0 : Int) = 0 → vp_updL f 0 (lI (ig_pk (ig_at (aRing R l) a2.toNat))) 0 = lI b) ∧ LInv qs (j + 1) (c + 1000) (n + 14000) T S1) (l : Int) a2 S :=
    ⟨pkd_R (w.ok l1 l2 _), inR_lit0, sp_Mo_corner M w h1 h2 (fun q => absurd ⟨u1, u2⟩ q) (fun _ _ q => absurd ⟨by omega, k2⟩ (q l rfl l1 l2)) (fun _ _ l' e' _ _ _ _ => by
      have : l' = l := by omega
      subst this
      exact fin_r (pkd_R (w.ok l1 l2 _)) rfl (ms_i0 S 0) (er 0))⟩
  have := sp_at_nat (post := fun r_18 T_17 => inR r_18 ∧ inR 0 ∧ wp_Mo_corner (fun b S1 => inR b ∧ S1.1 0 = 0 ∧ ((0 : Int) = 0 → vp_updL f 0 (lI r_18) 0 = lI b) ∧ LInv qs (j + 1) (c + 1000) (n + 14000) T_17 S1) (l : Int) a2 S) (i := a2.toNat) la.2.1 rg.ne (by omega) fin
  rw [← ek] at this
  exact this
end OPA
