/-! the same, with what was thrown kept -/
def mfz (S S' : MS) : Prop := (∀ k, k < 33 → S'.1 k = S.1 k) ∧ ∀ k, k < 33 → k ≠ 29 → S'.2 k = S.2 k
theorem mfz_refl (S : MS) : mfz S S := ⟨fun _ _ => rfl, fun _ _ _ => rfl⟩
theorem mfz_trans {S S' S2 : MS} (h : mfz S S') (g : mfz S' S2) : mfz S S2 := ⟨fun k a => (g.1 k a).trans (h.1 k a), fun k a b => (g.2 k a b).trans (h.2 k a b)⟩
theorem mfz.fr {S S' : MS} (h : mfz S S') : mfr S S' := ⟨fun k _ b => h.1 k b, h.2⟩
theorem mfz_a29 (S : MS) (i v : Int) : mfz S (ms_a S 29 i v) := ⟨fun _ _ => rfl, (mfr_a29 S i v).2⟩
theorem MD.fz {S S' : MS} {R : AR} (h : MD S R) (g : mfz S S') : MD S' R := h.fr g.fr
theorem mfm.fz {S S' : MS} (h : mfm S S') : mfz S S' := ⟨fun k a => h.1 k (by omega), fun k a b => h.2 k (by omega) (by omega)⟩
theorem mfA.fz {a : Bool} {S S' : MS} (h : mfA a S S') : mfz S S' := ⟨fun k x => h.1 k (by cases a <;> simp <;> omega), fun k x y => h.2 k (by cases a <;> simp <;> omega) (by cases a <;> simp <;> omega)⟩
section BURZ
variable {S : MS} {R : AR}
theorem sz_Mo_follow (w : WR R) (wi : WI R) {e : Nat} (h1 : 1 ≤ e) (h2 : e ≤ R.1 25 0) {post : MS → Prop} :
    ∀ (n l : Nat) (S : MS), MD S R → R.1 7 0 + 1 - l < n → 1 ≤ l → l ≤ R.1 7 0 + 1 → (∀ l', 1 ≤ l' → l' < l → S.2 29 l' = bI (aIh R e l')) → (∀ S', mfz S S' → (∀ l', 1 ≤ l' → l' ≤ R.1 7 0 → S'.2 29 l' = bI (aIh R e l')) → post S') → wp_Mo_follow_2 post n e l S := by
  intro n
  induction n with
  | zero => intro l S _ hn; omega
  | succ n ih =>
    intro l S h hn l1 l2 hI hp
    have wl0 := w.1.1
    have wn2 := w.1.2.2.1
    have wd0 := w.1.2.1
    unfold wp_Mo_follow_2
    rw [h.nl]
    refine ⟨by unfold inR; omega, by unfold inR; omega, fun c => hp S (mfz_refl S) (fun l' a b => hI l' a (by omega)), fun c => ⟨⟨by omega, by omega⟩, fun b hb => ?_⟩⟩
    have l3 : l ≤ R.1 7 0 := by omega
    rw [Int.toNat_natCast, h.lot l1 l3 (f := 11) (by omega) (by omega)] at hb
    have wl := w.2.2.1 l l1 l3
    have we := w.2.2.2.2.1 e h1 h2
    have heq := wi e l h1 h2 l1 l3
    have k105 : ∀ S1, MD S1 R → mfz S S1 → (∀ l', 1 ≤ l' → l' < l → S1.2 29 l' = bI (aIh R e l')) → ∀ v : Bool, v = aIh R e l → wp_Mo_follow_105 post (wp_Mo_follow_2 post n) e l (bI v) l S1 := by
      intro S1 hS1 hfr hI1 v hv
      refine ⟨⟨by omega, by omega⟩, bI_01 _, fun S2 e2 => ?_⟩
      have hfr2 : mfz S1 S2 := by rw [e2]; exact mfz_a29 _ _ _
      have e3 : (l : Int) + 1 = ((l + 1 : Nat) : Int) := by omega
      rw [e3]
      refine ih (l + 1) S2 (hS1.fz hfr2) (by omega) (by omega) (by omega) (fun l' a b => ?_) (fun S' g1 g2 => hp S' (mfz_trans hfr (mfz_trans hfr2 g1)) g2)
      rw [e2, ms_a29_at]
      by_cases c : l' = l
      · rw [if_pos c, c, hv]
      · rw [if_neg c]; exact hI1 l' a (by omega)
    have k78 : ∀ S1, MD S1 R → mfz S S1 → (∀ l', 1 ≤ l' → l' < l → S1.2 29 l' = bI (aIh R e l')) → ∀ x : Bool, (x = true ↔ (R.1 11 l ≠ 0 ∧ aS R e (R.1 17 (R.1 11 l)) (R.1 11 l) ∧ (aIh R e (R.1 13 l) = true ∨ (R.1 14 l ≠ 0 ∧ aIh R e (R.1 14 l) = true)))) → wp_Mo_follow_78 post (wp_Mo_follow_2 post n) e l (bI x) S1 := by
      intro S1 hS1 hfr hI1 x hx
      unfold wp_Mo_follow_78
      rw [Int.toNat_natCast, hS1.eas h1 h2 (f := 28) (by omega) (by omega)]
      refine ⟨⟨by omega, by omega⟩, by unfold inR; omega, by unfold inR; omega, fun c => ?_, fun c => ⟨bI_in _, fun c2 => ?_, fun c2 => ?_⟩⟩
      · exact k105 S1 hS1 hfr hI1 true (heq.mpr (Or.inl (by omega))).symm
      · refine k105 S1 hS1 hfr hI1 false ?_
        cases e5 : aIh R e l with
        | false => rfl
        | true =>
          exfalso
          rcases heq.mp e5 with f | f
          · omega
          · rw [bI_0.mp c2] at hx; exact absurd (hx.mpr f) (by decide)
      · exact k105 S1 hS1 hfr hI1 true (heq.mpr (Or.inr (hx.mp (bI_ne.mp c2)))).symm
    refine ⟨by unfold inR; omega, fun c1 => k78 S h (mfz_refl S) hI false ⟨fun f => absurd f (by decide), fun f => absurd f.1 (by omega)⟩, fun c1 => ⟨⟨by omega, by omega⟩, ?_⟩⟩
    simp only [hb, Int.toNat_natCast]
    rw [h.deed (by omega) wl.2.1 (f := 17) (by omega) (by omega)]
    have wd := w.2.2.2.1 (R.1 11 l) (by omega) wl.2.1
    refine sp_Mo_stands h w h1 h2 (by unfold inR; omega) (by unfold inR; omega) (fun f => ⟨inR_lit1, fun g => absurd g (by decide), fun _ => ⟨⟨by omega, by omega⟩, ?_⟩⟩) (fun f => ⟨inR_lit0, fun _ => k78 S h (mfz_refl S) hI false ⟨fun f => absurd f (by decide), fun g => absurd g.2.1 f⟩, fun g => absurd rfl g⟩)
    rw [h.lot l1 l3 (f := 13) (by omega) (by omega), h.lot l1 l3 (f := 14) (by omega) (by omega), Int.toNat_natCast, Int.toNat_natCast]
    have pa0 : R.1 13 l ≠ 0 := fun f => absurd (wl.2.2.2.2.2.mpr f) (by omega)
    rw [hI (R.1 13 l) (by omega) wl.2.2.2.1]
    refine ⟨⟨by omega, by omega⟩, bI_in _, fun c2 => k78 S h (mfz_refl S) hI true ⟨fun _ => ⟨by omega, f, Or.inl (bI_ne.mp c2)⟩, fun _ => rfl⟩, fun c2 => ⟨⟨by omega, by omega⟩, by unfold inR; omega, fun c3 => k78 S h (mfz_refl S) hI false ⟨fun f => absurd f (by decide), fun g => ?_⟩, fun c3 => ⟨⟨by omega, by omega⟩, ⟨by omega, by omega⟩, ?_⟩⟩⟩
    · rcases g.2.2 with k | k
      · rw [bI_0.mp c2] at k; exact absurd k (by decide)
      · exact absurd (show R.1 14 l = 0 by omega) k.1
    · rw [hI (R.1 14 l) (by omega) wl.2.2.2.2.1]
      refine ⟨bI_in _, fun c4 => k78 S h (mfz_refl S) hI false ⟨fun f => absurd f (by decide), fun g => ?_⟩, fun c4 => k78 S h (mfz_refl S) hI true ⟨fun _ => ⟨by omega, f, Or.inr ⟨by omega, bI_ne.mp c4⟩⟩, fun _ => rfl⟩⟩
      rcases g.2.2 with k | k
      · rw [bI_0.mp c2] at k; exact absurd k (by decide)
      · rw [bI_0.mp c4] at k; exact absurd k.2 (by decide)
theorem sz_Mo_burdens {post : Int → MS → Prop} (h : MD S R) (w : WR R) (wi : WI R) {e l : Nat} {day ent : Int} (h1 : 1 ≤ e) (h2 : e ≤ R.1 25 0) (l1 : 1 ≤ l) (l2 : l ≤ R.1 7 0) (hd : inR day) (he : inR ent)
    (p1 : ∀ S', mfz S S' → aBu R e l day ent → post 1 S') (p0 : ∀ S', mfz S S' → ¬ aBu R e l day ent → post 0 S') : wp_Mo_burdens post e l day ent S := by
  have wl0 := w.1.1
  unfold wp_Mo_burdens wp_Mo_follow
  refine ⟨R.1 7 0 + 1, sz_Mo_follow w wi h1 h2 _ 1 S h (by omega) (by omega) (by omega) (fun l' a b => by omega) (fun S1 g1 g2 => ?_)⟩
  rw [Int.toNat_natCast, g2 l l1 l2]
  refine ⟨⟨by omega, by omega⟩, bI_in _, fun c => p0 S1 g1 (fun f => by have f1 := f.1; rw [bI_0.mp c] at f1; exact absurd f1 (by decide)), fun c => ?_⟩
  have hi := bI_ne.mp c
  refine sp_Mo_stands (h.fz g1) w h1 h2 hd he (fun f => ⟨inR_lit1, fun g => absurd g (by decide), fun _ => ?_⟩) (fun f => ⟨inR_lit0, fun _ => p0 S1 g1 (fun g => f g.2.1), fun g => absurd rfl g⟩)
  refine sp_Mo_isInBeing (h.fz g1) w l1 l2 hd he (fun k => ⟨inR_lit1, fun g => absurd g (by decide), fun _ => p1 S1 g1 ⟨hi, f, k⟩⟩) (fun k => ⟨inR_lit0, fun _ => p0 S1 g1 (fun g => k g.2.2), fun g => absurd rfl g⟩)
theorem sz_Mo_names {post : Int → MS → Prop} (h : MD S R) (w : WR R) (wi : WI R) (wn : WN R) {d l : Nat} (h1 : 1 ≤ d) (h2 : d ≤ R.1 15 0) (l1 : 1 ≤ l) (l2 : l ≤ R.1 7 0)
    (p1 : ∀ S', mfz S S' → l ∈ aNm R d → post 1 S') (p0 : ∀ S', mfz S S' → ¬ l ∈ aNm R d → post 0 S') : wp_Mo_names post d l S := by
  have wl0 := w.1.1
  have wd0 := w.1.2.1
  have wd := w.2.2.2.1 d h1 h2
  have e16 := h.deed h1 h2 (f := 16) (by omega) (by omega)
  have e17 := h.deed h1 h2 (f := 17) (by omega) (by omega)
  have e18 := h.deed h1 h2 (f := 18) (by omega) (by omega)
  have e19 := h.deed h1 h2 (f := 19) (by omega) (by omega)
  have hn := wn d l h1 h2 l1 l2
  have k36 : (R.1 16 d = 1 ∨ R.1 16 d = 3) → wp_Mo_names_36 post d l S := by
    intro hk
    unfold wp_Mo_names_36
    rw [Int.toNat_natCast, e18]
    refine ⟨⟨by omega, by omega⟩, by unfold inR; omega, by unfold inR; omega, fun c => p0 S (mfz_refl S) (fun f => ?_), fun c => p1 S (mfz_refl S) (hn.mpr (Or.inl ⟨hk, by omega⟩))⟩
    rcases hn.mp f with f | f | f
    · omega
    · omega
    · have := f.1; omega
  have k52 : (R.1 16 d = 2 ∨ R.1 16 d = 4) → wp_Mo_names_52 post d l S := by
    intro hk
    unfold wp_Mo_names_52
    rw [Int.toNat_natCast, e18, e19]
    refine ⟨⟨by omega, by omega⟩, by unfold inR; omega, by unfold inR; omega, fun c => p1 S (mfz_refl S) (hn.mpr (Or.inr (Or.inl ⟨hk, by omega⟩))), fun c => ⟨⟨by omega, by omega⟩, by unfold inR; omega, by unfold inR; omega, fun c2 => p0 S (mfz_refl S) (fun f => ?_), fun c2 => p1 S (mfz_refl S) (hn.mpr (Or.inr (Or.inl ⟨hk, by omega⟩)))⟩⟩
    rcases hn.mp f with f | f | f
    · omega
    · omega
    · have := f.1; omega
  unfold wp_Mo_names
  rw [Int.toNat_natCast, e16, e17, e18]
  refine ⟨⟨by omega, by omega⟩, by unfold inR; omega, fun c => ⟨⟨by omega, by omega⟩, ⟨by omega, by omega⟩, ?_⟩, fun c => k36 (by omega), fun c => k52 (by omega), fun c => k36 (by omega), fun c => k52 (by omega)⟩
  have hk : R.1 16 d = 5 := by omega
  have h5 := wd.2.2.2.2.2.2 hk
  refine sz_Mo_burdens h w wi (by omega) (by omega) l1 l2 (by unfold inR; omega) (by unfold inR; omega) (fun S' g f => ⟨b01_1, p1 S' g (hn.mpr (Or.inr (Or.inr ⟨hk, f⟩)))⟩) (fun S' g f => ⟨b01_0, p0 S' g (fun k => ?_)⟩)
  rcases hn.mp k with k | k | k
  · omega
  · omega
  · exact f k.2
theorem sz_Mo_isLate {post : Int → MS → Prop} (h : MD S R) (w : WR R) (wi : WI R) (wn : WN R) {l : Nat} {day : Int} (l1 : 1 ≤ l) (l2 : l ≤ R.1 7 0) (hd : inR day)
    (p1 : ∀ S', mfz S S' → aLate R l day → post 1 S') (p0 : ∀ S', mfz S S' → ¬ aLate R l day → post 0 S') : wp_Mo_isLate post l day S := by
  have wd0 := w.1.2.1
  have loop : ∀ (n d : Nat) (S1 : MS) (v : Bool), mfz S S1 → R.1 15 0 + 1 - d < n → 1 ≤ d → d ≤ R.1 15 0 + 1 → (v = true ↔ ∃ d', 1 ≤ d' ∧ d' < d ∧ day < (R.1 17 d' : Int) ∧ l ∈ aNm R d') → wp_Mo_isLate_5 post n l day (bI v) d S1 := by
    intro n
    induction n with
    | zero => intro d S1 v _ hn; omega
    | succ n ih =>
      intro d S1 v hfr hn d1 d2 hv
      have hS := h.fz hfr
      unfold wp_Mo_isLate_5
      rw [hS.nd]
      refine ⟨by unfold inR; omega, by unfold inR; omega, fun c => ⟨bI_01 _, ?_⟩, fun c => ?_⟩
      · cases e : v with
        | true =>
          obtain ⟨d', a, b, f, g⟩ := hv.mp e
          exact p1 S1 hfr ⟨d', a, by omega, f, g⟩
        | false =>
          refine p0 S1 hfr (fun f => ?_)
          obtain ⟨d', a, b, f, g⟩ := f
          rw [hv.mpr ⟨d', a, by omega, f, g⟩] at e; cases e
      · have e3 : (d : Int) + 1 = ((d + 1 : Nat) : Int) := by omega
        have dd : d ≤ R.1 15 0 := by clear hv; omega
        have hn1 : R.1 15 0 + 1 - (d + 1) < n := by clear hv; omega
        have go : ∀ S2 (v' : Bool), mfz S1 S2 → (v' = true ↔ v = true ∨ (day < (R.1 17 d : Int) ∧ l ∈ aNm R d)) → wp_Mo_isLate_44 post (wp_Mo_isLate_5 post n) l day d (bI v') S2 := by
          intro S2 v' hfr2 hv'
          unfold wp_Mo_isLate_44
          rw [e3]
          refine ih (d + 1) S2 v' (mfz_trans hfr hfr2) hn1 (Nat.le_add_left 1 d) (Nat.succ_le_succ dd) ?_
          rw [hv', hv]
          constructor
          · rintro (⟨d', a, b, f, g⟩ | ⟨f, g⟩)
            · exact ⟨d', a, by omega, f, g⟩
            · exact ⟨d, d1, by omega, f, g⟩
          · rintro ⟨d', a, b, f, g⟩
            by_cases c : d' = d
            · subst c; exact Or.inr ⟨f, g⟩
            · exact Or.inl ⟨d', a, by omega, f, g⟩
        have e17 := hS.deed d1 dd (f := 17) (by omega) (by omega)
        have wd := w.2.2.2.1 d d1 dd
        rw [Int.toNat_natCast, e17]
        refine ⟨bI_in _, fun c1 => go S1 true (mfz_refl _) ⟨fun _ => Or.inl (bI_ne.mp c1), fun _ => rfl⟩, fun c1 => ⟨⟨by omega, by omega⟩, by unfold inR; omega, hd, fun c2 => go S1 false (mfz_refl _) ⟨fun f => absurd f (by decide), fun f => ?_⟩, fun c2 => ?_⟩⟩
        · rcases f with f | f
          · rw [bI_0.mp c1] at f; exact f
          · omega
        · refine sz_Mo_names hS w wi wn d1 dd l1 l2 (fun S' g f => ⟨inR_lit1, fun k => absurd k (by decide), fun _ => go S' true g ⟨fun _ => Or.inr ⟨by omega, f⟩, fun _ => rfl⟩⟩) (fun S' g f => ⟨inR_lit0, fun _ => go S' false g ⟨fun f => absurd f (by decide), fun k => ?_⟩, fun k => absurd rfl k⟩)
          rcases k with k | k
          · rw [bI_0.mp c1] at k; exact k
          · exact absurd k.2 f
  unfold wp_Mo_isLate
  exact ⟨R.1 15 0 + 1, loop _ 1 S false (mfz_refl _) (by omega) (by omega) (by omega) ⟨fun f => absurd f (by decide), fun ⟨d', a, b, _⟩ => by omega⟩⟩
theorem sz_Mo_makeBoth {post : Int → MS → Prop} (h : MD S R) (w : WR R) {a b : Nat} (a1 : 1 ≤ a) (a2 : a ≤ R.1 7 0) (b1 : 1 ≤ b) (b2 : b ≤ R.1 7 0) (hI : ∀ z, gx_wn (rgn (aRing R a)) z + gx_wn (rgn (aRing R b)) z ≤ 1)
    (p0 : ∀ S', mfz S S' → ¬ mg_ok (ig_refine (aRing R a) (aRing R b)) (ig_refine (aRing R b) (aRing R a)) → post 0 S')
    (p1 : ∀ S' T st m s, mfz S S' → mg_ok (ig_refine (aRing R a) (aRing R b)) (ig_refine (aRing R b) (aRing R a)) → st < (ig_refine (aRing R a) (aRing R b)).length → (mg_cs (ig_refine (aRing R a) (aRing R b)) (ig_refine (aRing R b) (aRing R a)) st && !mg_cs (ig_refine (aRing R a) (aRing R b)) (ig_refine (aRing R b) (aRing R a)) (st + (ig_refine (aRing R a) (aRing R b)).length - 1)) = true → s = cntN (mg_cs (ig_refine (aRing R a) (aRing R b)) (ig_refine (aRing R b) (aRing R a))) (ig_refine (aRing R a) (aRing R b)).length → m < (ig_refine (aRing R b) (aRing R a)).length → ig_at (ig_refine (aRing R b) (aRing R a)) m = ig_at (ig_refine (aRing R a) (aRing R b)) st → mmade S' T → rote (ig_flt (ig_or (mg_out (ig_refine (aRing R a) (aRing R b)) (ig_refine (aRing R b) (aRing R a)) st s (m + (s + 1) * (ig_refine (aRing R b) (aRing R a)).length)))) T → post 1 S') : wp_Mo_makeBoth post a b S := by
  have ra := w.rg a1 a2
  have rb := w.rg b1 b2
  have geo := fun {st s M : Nat} => @mg_geo (aRing R a) (aRing R b) st s M ra.2.2.1 rb.2.2.1 ra.ne rb.ne ra.2.2.2 rb.2.2.2 hI
  obtain ⟨⟨sL, _⟩, mL, kL, _⟩ := ig_refine_spec (O := aRing R b) ra.2.2.1 ra.ne
  obtain ⟨⟨sR, _⟩, mR, kR, _⟩ := ig_refine_spec (O := aRing R a) rb.2.2.1 rb.ne
  have lenL := ig_refine_len (O := aRing R b) ra.2.2.1 ra.ne
  have lenR := ig_refine_len (O := aRing R a) rb.2.2.1 rb.ne
  have n1 := ra.2.1.2
  have n2 := rb.2.1.2
  have okL : ∀ p ∈ ig_refine (aRing R a) (aRing R b), ig_ok p := fun p hp => (mL p hp).elim (ra.1 p) (rb.1 p)
  have okR : ∀ p ∈ ig_refine (aRing R b) (aRing R a), ig_ok p := fun p hp => (mR p hp).elim (rb.1 p) (ra.1 p)
  have l0 : ig_refine (aRing R a) (aRing R b) ≠ [] := by
    intro f; have := kL _ (ig_at_mem ra.ne 0); rw [f] at this; simp at this
  have r0 : ig_refine (aRing R b) (aRing R a) ≠ [] := by
    intro f; have := kR _ (ig_at_mem rb.ne 0); rw [f] at this; simp at this
  unfold wp_Mo_makeBoth
  refine sp_Mo_refine h w a1 a2 b1 b2 true (fun S1 f1 g1 => ?_)
  refine sp_Mo_refine (h.fz f1.fz) w b1 b2 a1 a2 false (fun S3 f3 g3 => ?_)
  have g1' : marA S3 (ig_refine (aRing R a) (aRing R b)) := by
    refine ⟨by rw [f3.1 36 (by simp)]; exact g1.1, g1.2.1, fun k hk => ?_⟩
    rw [f3.2 37 (by simp) (by simp), f3.2 38 (by simp) (by simp)]; exact g1.2.2 k hk
  have g3' : marB S3 (ig_refine (aRing R b) (aRing R a)) := g3
  have fr3 : mfz S S3 := mfz_trans f1.fz f3.fz
  clear g1 g3 f1 f3
  generalize hLe : ig_refine (aRing R a) (aRing R b) = L at *
  generalize hRe : ig_refine (aRing R b) (aRing R a) = Q at *
  have nL := rgn_nodup sL
  have nQ := rgn_nodup sR
  have oL := ig_at_ok okL l0
  have oQ := ig_at_ok okR r0
  have hnL : 0 < L.length := List.length_pos_iff.mpr l0
  have hnQ : 0 < Q.length := List.length_pos_iff.mpr r0
  have hpr := cntN_runs (mg_cs_per L Q) hnL
  -- the outline
  have out : ∀ (st m s : Nat), mg_ok L Q → st < L.length → (mg_cs L Q st && !mg_cs L Q (st + L.length - 1)) = true → s = cntN (mg_cs L Q) L.length → m < Q.length → ig_at Q m = ig_at L st → ∀ S4, S4 = ms_i S3 33 0 → ∃ n0, wp_Mo_makeBoth_186 post n0 s ((st + s) % L.length : Nat) 0 S4 := by
    intro st m s hok hst hst2 hs hm hmm S4 y4
    have hline := mg_line_of nL nQ l0 r0 hst hok.1 hst2 hs (by rw [hok.2, hs]) hmm
    obtain ⟨gs, _⟩ := geo hline
    have hl1 := hline.1
    have hl2 := hline.2.1
    have hl3 := hline.2.2.1
    have f4 : mfm S3 S4 := by rw [y4]; exact mfm_i _ _
    have m4 : mmade S4 [] := ⟨by rw [y4]; simp [ms_i], by simp, fun k hk => by simp at hk⟩
    have hper : ∀ k, ig_at Q (m + (s + 1) * Q.length - 1 + 1 + k) = ig_at Q (m + k) := by
      intro k
      have : 0 < (s + 1) * Q.length := Nat.mul_pos (by omega) hnQ
      rw [show m + (s + 1) * Q.length - 1 + 1 + k = (s + 1) * Q.length + (m + k) by omega, ig_at_mul]
    have l255 : ∀ (n i : Nat) (S5 : MS), Q.length - s - i < n → i ≤ Q.length - s → mfm S3 S5 → mmade S5 (ig_seg L (st + s - 1) (L.length - s) ++ ig_seg Q (m + (s + 1) * Q.length - 1) i) → wp_Mo_makeBoth_255 post n s ((m + i) % Q.length : Nat) i S5 := by
      intro n
      induction n with
      | zero => intro i S5 hn; omega
      | succ n ih =>
        intro i S5 hn hi f5 m5
        have e1 : (i : Int) + 1 = ((i + 1 : Nat) : Int) := by omega
        obtain ⟨_, hB5⟩ := mfm_AB f5 g1' g3'
        unfold wp_Mo_makeBoth_255
        rw [hB5.1]
        have mm : (m + i) % Q.length < Q.length := Nat.mod_lt _ hnQ
        refine ⟨by unfold inR; omega, by unfold inR; omega, fun c => ?_, fun c => ?_⟩
        · have ei : i = Q.length - s := by omega
          subst ei
          refine sp_Mo_tidy m5 (by intro f; have := congrArg List.length f; simp [ig_seg_len] at this; omega) (fun p hp => ?_) gs (fun S' T q1 q2 q3 => p1 S' T st m s (mfz_trans fr3 (mfm_trans f5 q1).fz) hok hst hst2 hs hm hmm q2 q3)
          rcases List.mem_append.mp hp with q | q
          · obtain ⟨k, _, e⟩ := ig_seg_mem.mp q
            rw [← e]; exact oL _
          · obtain ⟨k, _, e⟩ := ig_seg_mem.mp q
            rw [← e]; exact oQ _
        · have x := hB5.at r0 (m + i)
          rw [Int.toNat_natCast, x.1, x.2]
          refine ⟨⟨by omega, by omega⟩, ⟨by omega, by omega⟩, sp_Mo_make m5 (by simp [ig_seg_len]; omega) (fun S6 q1 q2 => ?_)⟩
          obtain ⟨_, hB6⟩ := mfm_AB (mfm_trans f5 q1) g1' g3'
          rw [hB6.1]
          refine ⟨⟨by omega, by omega⟩, fun v7 e7 => ?_⟩
          have e7' : v7 = (((m + (i + 1)) % Q.length : Nat) : Int) := by
            rw [e7, show (((m + i) % Q.length : Nat) : Int) + 1 = (((m + i) % Q.length + 1 : Nat) : Int) by omega, nmodc, Nat.mod_add_mod, Nat.add_assoc]
          rw [e7', e1]
          refine ih (i + 1) S6 (by omega) (by omega) (mfm_trans f5 q1) ?_
          rw [ig_seg_add, ← List.append_assoc]
          have : ig_seg Q (m + (s + 1) * Q.length - 1 + i) 1 = [ig_at Q (m + i)] := by
            have := hper i
            simp only [ig_seg, List.range_one, List.map_cons, List.map_nil, Nat.add_zero]
            rw [show m + (s + 1) * Q.length - 1 + i + 1 = m + (s + 1) * Q.length - 1 + 1 + i by omega, this]
          rw [this]; exact q2
    have l186 : ∀ (n i : Nat) (S5 : MS), L.length - s - i < n → i ≤ L.length - s → mfm S3 S5 → mmade S5 (ig_seg L (st + s - 1) i) → wp_Mo_makeBoth_186 post n s ((st + s + i) % L.length : Nat) i S5 := by
      intro n
      induction n with
      | zero => intro i S5 hn; omega
      | succ n ih =>
        intro i S5 hn hi f5 m5
        have e1 : (i : Int) + 1 = ((i + 1 : Nat) : Int) := by omega
        obtain ⟨hA5, hB5⟩ := mfm_AB f5 g1' g3'
        unfold wp_Mo_makeBoth_186
        rw [hA5.1]
        have mm : (st + s + i) % L.length < L.length := Nat.mod_lt _ hnL
        have x := hA5.at l0 (st + s + i)
        rw [Int.toNat_natCast, x.1, x.2]
        refine ⟨by unfold inR; omega, by unfold inR; omega, fun c => ?_, fun c => ?_⟩
        · have ei : i = L.length - s := by omega
          subst ei
          have e5 : ig_at L (st + s + (L.length - s)) = ig_at Q m := by
            rw [show st + s + (L.length - s) = st + L.length by omega, ig_at_len, hmm]
          rw [e5]
          refine ⟨⟨by omega, by omega⟩, ⟨by omega, by omega⟩, sp_Mo_inB hB5 nQ okR (by omega) (oQ m) (fun j hj e => ?_) (fun q => absurd (ig_at_mem r0 m) q)⟩
          have ej : j = m := by
            have := ig_at_inj nQ r0 e
            rw [Nat.mod_eq_of_lt hj, Nat.mod_eq_of_lt hm] at this
            exact this
          subst ej
          have := l255 (Q.length - s + 1) 0 S5 (by omega) (by omega) f5 (by simpa [ig_seg] using m5)
          rw [show (j + 0) % Q.length = j from Nat.mod_eq_of_lt hj] at this
          exact ⟨_, this⟩
        · refine ⟨⟨by omega, by omega⟩, ⟨by omega, by omega⟩, sp_Mo_make m5 (by simp [ig_seg_len]; omega) (fun S6 q1 q2 => ?_)⟩
          obtain ⟨hA6, _⟩ := mfm_AB (mfm_trans f5 q1) g1' g3'
          rw [hA6.1]
          refine ⟨⟨by omega, by omega⟩, fun v7 e7 => ?_⟩
          have e7' : v7 = (((st + s + (i + 1)) % L.length : Nat) : Int) := by
            rw [e7, show (((st + s + i) % L.length : Nat) : Int) + 1 = (((st + s + i) % L.length + 1 : Nat) : Int) by omega, nmodc, Nat.mod_add_mod, Nat.add_assoc]
          rw [e7', e1]
          refine ih (i + 1) S6 (by omega) (by omega) (mfm_trans f5 q1) ?_
          rw [ig_seg_add]
          have : ig_seg L (st + s - 1 + i) 1 = [ig_at L (st + s + i)] := by
            simp only [ig_seg, List.range_one, List.map_cons, List.map_nil, Nat.add_zero]
            rw [show st + s - 1 + i + 1 = st + s + i by omega]
          rw [this]; exact q2
    have := l186 (L.length - s + 1) 0 S4 (by omega) (by omega) f4 m4
    exact ⟨_, this⟩
  -- the count
  have l28 : ∀ (n k : Nat) (en : Int), L.length - k < n → k ≤ L.length → (0 < cntN (fun i => mg_cs L Q i && !mg_cs L Q (i + 1)) k → ∃ i : Nat, i < k ∧ (mg_cs L Q i && !mg_cs L Q (i + 1)) = true ∧ en = (((i + 1) % L.length : Nat) : Int)) → wp_Mo_makeBoth_28 post n (cntN (mg_cs L Q) k) (cntN (fun i => mg_cs L Q i && !mg_cs L Q (i + 1)) k) (cntN (mg_cp L Q) k) en k S3 := by
    intro n
    induction n with
    | zero => intro k en hn; omega
    | succ n ih =>
      intro k en hn hk hen
      have c1 := cntN_le (mg_cs L Q) k
      have c2 := cntN_le (fun i => mg_cs L Q i && !mg_cs L Q (i + 1)) k
      have c3 := cntN_le (mg_cp L Q) k
      have e1 : (k : Int) + 1 = ((k + 1 : Nat) : Int) := by omega
      unfold wp_Mo_makeBoth_28
      rw [g1'.1]
      refine ⟨by unfold inR; omega, by unfold inR; omega, fun c => ?_, fun c => ?_⟩
      · have ek : k = L.length := by omega
        subst ek
        refine ⟨by unfold inR; omega, fun d1 => p0 S3 fr3 (fun q => d1 ?_), fun d1 => ⟨by unfold inR; omega, by unfold inR; omega, fun d2 S4 y4 => ?_, fun d2 => p0 S3 fr3 (fun q => d2 ?_)⟩⟩
        · have := q.1; rw [hpr] at this; rw [this]; rfl
        · have hok : mg_ok L Q := ⟨by rw [hpr]; omega, by omega⟩
          obtain ⟨st, hst, hst2⟩ := cntN_pos (show 0 < cntN (fun k => mg_cs L Q k && !mg_cs L Q (k + L.length - 1)) L.length by rw [hok.1]; omega)
          obtain ⟨i, hi, hi2, hi3⟩ := hen (by omega)
          obtain ⟨q1, q2, q3, q4⟩ := cntN_run1 (mg_cs_per L Q) hst hok.1 hst2 rfl
          obtain ⟨m, hm, hm1, hm2⟩ := mg_cs_iff.mp (q3 0 q1)
          rw [Nat.add_zero] at hm2
          -- the run's end
          have hend : (i + 1) % L.length = (st + cntN (mg_cs L Q) L.length) % L.length := by
            have hone : cntN (fun i => mg_cs L Q i && !mg_cs L Q (i + 1)) L.length = 1 := by rw [← hpr]; exact hok.1
            have hmod : ∀ x, mg_cs L Q (x % L.length) = mg_cs L Q x := by
              intro x
              unfold mg_cs
              rw [ig_at_mod, ← ig_at_mod L (x % L.length + 1), Nat.mod_add_mod, ig_at_mod]
            have hmod1 : ∀ x, mg_cs L Q (x % L.length + 1) = mg_cs L Q (x + 1) := by
              intro x
              rw [← hmod, Nat.mod_add_mod, hmod]
            have t1 : mg_cs L Q (st + (cntN (mg_cs L Q) L.length - 1)) = true := q3 _ (by omega)
            have t2 : mg_cs L Q (st + cntN (mg_cs L Q) L.length) = false := q4 _ (by omega) q2
            have hx : (st + (cntN (mg_cs L Q) L.length - 1)) % L.length < L.length := Nat.mod_lt _ hnL
            have := cntN_one hone hi hx hi2 (by
              rw [hmod, hmod1, t1, show st + (cntN (mg_cs L Q) L.length - 1) + 1 = st + cntN (mg_cs L Q) L.length by omega, t2]; rfl)
            rw [this, Nat.mod_add_mod]; congr 1; omega
          rw [hi3, hend]
          have hmx : (m + 1) % Q.length < Q.length := Nat.mod_lt _ hnQ
          exact out st ((m + 1) % Q.length) _ hok hst hst2 rfl hmx (by rw [ig_at_mod]; exact hm2) S4 y4
        · have := q.2; omega
      · have hk' : k < L.length := by clear hen; omega
        have hn1 : L.length - (k + 1) < n := by clear hen; omega
        have m1 : (k + 1) % L.length < L.length := Nat.mod_lt _ hnL
        have hcs1 : mg_cs L Q ((k + 1) % L.length) = mg_cs L Q (k + 1) := by
          unfold mg_cs
          rw [ig_at_mod, ← ig_at_mod L ((k + 1) % L.length + 1), Nat.mod_add_mod, ig_at_mod]
        have x := g1'.2.2 k hk'
        -- behind both tests
        have k118 : ∀ (v6 : Int), (0 < cntN (fun i => mg_cs L Q i && !mg_cs L Q (i + 1)) (k + 1) → ∃ i : Nat, i < k + 1 ∧ (mg_cs L Q i && !mg_cs L Q (i + 1)) = true ∧ v6 = (((i + 1) % L.length : Nat) : Int)) → wp_Mo_makeBoth_118 post (wp_Mo_makeBoth_28 post n) (cntN (mg_cs L Q) (k + 1)) (cntN (fun i => mg_cs L Q i && !mg_cs L Q (i + 1)) (k + 1)) (cntN (mg_cp L Q) k) k v6 S3 := by
          intro v6 hv6
          unfold wp_Mo_makeBoth_118 wp_Mo_makeBoth_150
          rw [Int.toNat_natCast, x.1, x.2, e1]
          have nx := ih (k + 1) v6 hn1 hk' hv6
          clear hv6
          refine ⟨⟨by omega, by omega⟩, ⟨by omega, by omega⟩, sp_Mo_inB g3' nQ okR (by omega) (oL k) (fun i hi e => ⟨by unfold inR; omega, fun f => by omega, fun _ => ?_⟩) (fun f => ⟨⟨by decide, by decide⟩, fun _ => ?_, fun g => absurd (by decide) g⟩)⟩
          · have hcp : mg_cp L Q k = true := by unfold mg_cp; rw [← e]; exact decide_eq_true (ig_at_mem r0 i)
            have e5 : cntN (mg_cp L Q) (k + 1) = cntN (mg_cp L Q) k + 1 := by rw [cntN, if_pos hcp]
            rw [e5] at nx
            exact nx
          · have hcp : mg_cp L Q k = false := by unfold mg_cp; exact decide_eq_false f
            have e5 : cntN (mg_cp L Q) (k + 1) = cntN (mg_cp L Q) k := by rw [cntN, if_neg (by rw [hcp]; decide), Nat.add_zero]
            rw [e5] at nx
            exact nx
        have k92 : ∀ (is th : Bool), is = mg_cs L Q k → th = mg_cs L Q (k + 1) → wp_Mo_makeBoth_72 post (wp_Mo_makeBoth_28 post n) (cntN (fun i => mg_cs L Q i && !mg_cs L Q (i + 1)) k) (cntN (mg_cp L Q) k) en k (bI is) (bI th) (cntN (mg_cs L Q) (k + 1)) S3 := by
          intro is th his hth
          have er : cntN (fun i => mg_cs L Q i && !mg_cs L Q (i + 1)) (k + 1) = cntN (fun i => mg_cs L Q i && !mg_cs L Q (i + 1)) k + if (is && !th) = true then 1 else 0 := by
            rw [cntN, his, hth]
          have keep : (is && !th) = false → (0 < cntN (fun i => mg_cs L Q i && !mg_cs L Q (i + 1)) (k + 1) → ∃ i : Nat, i < k + 1 ∧ (mg_cs L Q i && !mg_cs L Q (i + 1)) = true ∧ en = (((i + 1) % L.length : Nat) : Int)) := by
            intro f g
            rw [er, f] at g
            obtain ⟨i, i1, i2, i3⟩ := hen (by simpa using g)
            exact ⟨i, by omega, i2, i3⟩
          unfold wp_Mo_makeBoth_72 wp_Mo_makeBoth_92
          rw [g1'.1]
          refine ⟨bI_in _, fun d1 => ⟨bI_in _, fun _ => ?_, fun q => absurd d1 q⟩, fun d1 => ⟨bI_in _, fun d2 => ⟨bI_in _, fun q => absurd q d1, fun _ => ⟨bI_in _, fun _ => ?_, fun q => absurd q d2⟩⟩, fun d2 => ⟨bI_in _, fun q => absurd q d1, fun _ => ⟨bI_in _, fun q => absurd d2 q, fun _ => ⟨⟨by omega, by omega⟩, ?_⟩⟩⟩⟩⟩
          · have f : (is && !th) = false := by rw [bI_0.mp d1]; rfl
            rw [f] at er
            have := k118 en (keep f)
            rw [er] at this
            simpa using this
          · have f : (is && !th) = false := by rw [bI_ne.mp d2]; simp
            rw [f] at er
            have := k118 en (keep f)
            rw [er] at this
            simpa using this
          · have f : (is && !th) = true := by rw [bI_ne.mp d1, bI_0.mp d2]; rfl
            rw [f] at er
            have := k118 (((k + 1) % L.length : Nat) : Int) (fun _ => ⟨k, by omega, by rw [← his, ← hth]; exact f, rfl⟩)
            rw [er] at this
            rw [e1, nmodc]
            simpa using this
        have two : ∀ (is : Bool), is = mg_cs L Q k → ∀ (v : Nat), v = cntN (mg_cs L Q) (k + 1) → dvR ((k : Int) + 1) (S3.1 36) ∧ wp_Mo_isCommon (fun r_5 S_4 => inR (bI is) ∧ ((bI is) = 0 → wp_Mo_makeBoth_72 post (wp_Mo_makeBoth_28 post n) (cntN (fun i => mg_cs L Q i && !mg_cs L Q (i + 1)) k) (cntN (mg_cp L Q) k) en k (bI is) r_5 (cntN (mg_cs L Q) k) S_4) ∧ (¬ (bI is) = 0 → wp_Mo_makeBoth_72 post (wp_Mo_makeBoth_28 post n) (cntN (fun i => mg_cs L Q i && !mg_cs L Q (i + 1)) k) (cntN (mg_cp L Q) k) en k (bI is) r_5 (((cntN (mg_cs L Q) k : Nat) : Int) + 1) S_4)) (((k : Int) + 1) % (S3.1 36)) S3 := by
          intro is his v hv
          rw [g1'.1, e1, nmodc]
          refine ⟨⟨by omega, by omega⟩, ?_⟩
          have fin : ∀ th : Bool, th = mg_cs L Q (k + 1) → inR (bI is) ∧ ((bI is) = 0 → wp_Mo_makeBoth_72 post (wp_Mo_makeBoth_28 post n) (cntN (fun i => mg_cs L Q i && !mg_cs L Q (i + 1)) k) (cntN (mg_cp L Q) k) en k (bI is) (bI th) (cntN (mg_cs L Q) k) S3) ∧ (¬ (bI is) = 0 → wp_Mo_makeBoth_72 post (wp_Mo_makeBoth_28 post n) (cntN (fun i => mg_cs L Q i && !mg_cs L Q (i + 1)) k) (cntN (mg_cp L Q) k) en k (bI is) (bI th) (((cntN (mg_cs L Q) k : Nat) : Int) + 1) S3) := by
            intro th hth
            have := k92 is th his hth
            refine ⟨bI_in _, fun d => ?_, fun d => ?_⟩
            · have e5 : cntN (mg_cs L Q) (k + 1) = cntN (mg_cs L Q) k := by rw [cntN, ← his, bI_0.mp d]; rfl
              rw [e5] at this; exact this
            · have e5 : cntN (mg_cs L Q) (k + 1) = cntN (mg_cs L Q) k + 1 := by rw [cntN, ← his, bI_ne.mp d]; rfl
              rw [e5] at this; exact this
          refine sp_Mo_isCommon g1' g3' nQ okL okR (by omega) (by omega) m1 (fun q => fin true ?_) (fun q => fin false ?_)
          · rw [← hcs1, q]
          · rw [← hcs1, q]
        refine sp_Mo_isCommon g1' g3' nQ okL okR (by omega) (by omega) hk' (fun q => two true q.symm _ rfl) (fun q => two false q.symm _ rfl)
  exact ⟨L.length + 1, l28 _ 0 0 (by omega) (by omega) (fun q => by simp [cntN] at q)⟩
end BURZ
