/-! the reference: who is burdened, who is named, who is late, shares -/
def mfr (S S' : MS) : Prop := (∀ k, 1 ≤ k → k < 33 → S'.1 k = S.1 k) ∧ ∀ k, k < 33 → k ≠ 29 → S'.2 k = S.2 k
theorem mfr_refl (S : MS) : mfr S S := ⟨fun _ _ _ => rfl, fun _ _ _ => rfl⟩
theorem mfr_trans {S S' S2 : MS} (h : mfr S S') (g : mfr S' S2) : mfr S S2 := ⟨fun k a b => (g.1 k a b).trans (h.1 k a b), fun k a b => (g.2 k a b).trans (h.2 k a b)⟩
theorem MD.fr {S S' : MS} {R : AR} (h : MD S R) (g : mfr S S') : MD S' R := by
  obtain ⟨h1, h2, h3, h4, h5, h6⟩ := h
  obtain ⟨g1, g2⟩ := g
  refine ⟨⟨by rw [g1 1 (by omega) (by omega)]; exact h1.1, fun f hf => by rw [g1 f (by omega) (by omega)]; exact h1.2 f hf⟩, ?_, ?_, ?_, ?_, ?_⟩
  · unfold marr at h2 ⊢
    rw [g1 4 (by omega) (by omega), g2 5 (by omega) (by omega), g2 6 (by omega) (by omega)]; exact h2
  · intro l a b
    rw [g2 10 (by omega) (by omega), g2 8 (by omega) (by omega), g2 9 (by omega) (by omega)]
    have := h3 l a b
    exact ⟨this.1, this.2.1, fun f f1 f2 => by rw [g2 f (by omega) (by omega)]; exact this.2.2 f f1 f2⟩
  · intro d a b f f1 f2
    rw [g2 f (by omega) (by omega)]; exact h4 d a b f f1 f2
  · intro e a b f f1 f2
    rw [g2 f (by omega) (by omega)]; exact h5 e a b f f1 f2
  · intro i hi
    rw [g2 32 (by omega) (by omega)]; exact h6 i hi
theorem mfr_a29 (S : MS) (i v : Int) : mfr S (ms_a S 29 i v) := by
  refine ⟨fun _ _ _ => rfl, fun k hk hn => ?_⟩
  funext t
  show (if k = 29 ∧ t = i.toNat then v else S.2 k t) = S.2 k t
  rw [if_neg (fun f => hn f.1)]
/-- who inherits -/
def WI (R : AR) : Prop := ∀ e l, 1 ≤ e → e ≤ R.1 25 0 → 1 ≤ l → l ≤ R.1 7 0 → (aIh R e l = true ↔ l = R.1 28 e ∨ (R.1 11 l ≠ 0 ∧ aS R e (R.1 17 (R.1 11 l)) (R.1 11 l) ∧ (aIh R e (R.1 13 l) = true ∨ (R.1 14 l ≠ 0 ∧ aIh R e (R.1 14 l) = true))))
/-- who is named -/
def WN (R : AR) : Prop := ∀ d l, 1 ≤ d → d ≤ R.1 15 0 → 1 ≤ l → l ≤ R.1 7 0 → (l ∈ aNm R d ↔ ((R.1 16 d = 1 ∨ R.1 16 d = 3) ∧ R.1 18 d = l) ∨ ((R.1 16 d = 2 ∨ R.1 16 d = 4) ∧ (R.1 18 d = l ∨ R.1 19 d = l)) ∨ (R.1 16 d = 5 ∧ aBu R (R.1 18 d) l (R.1 17 d) ((d : Int) - 1)))
def aLate (R : AR) (l : Nat) (day : Int) : Prop := ∃ d, 1 ≤ d ∧ d ≤ R.1 15 0 ∧ day < (R.1 17 d : Int) ∧ l ∈ aNm R d
section BUR
variable {S : MS} {R : AR}
theorem bI_ne {b : Bool} : bI b ≠ 0 ↔ b = true := by cases b <;> simp [bI]
theorem ms_a29_at (S : MS) (l : Nat) (v : Int) (t : Nat) : (ms_a S 29 (l : Int) v).2 29 t = if t = l then v else S.2 29 t := by
  show (if 29 = 29 ∧ t = ((l : Int)).toNat then v else S.2 29 t) = _
  simp
theorem sp_Mo_follow (w : WR R) (wi : WI R) {e : Nat} (h1 : 1 ≤ e) (h2 : e ≤ R.1 25 0) {post : MS → Prop} :
    ∀ (n l : Nat) (S : MS), MD S R → R.1 7 0 + 1 - l < n → 1 ≤ l → l ≤ R.1 7 0 + 1 → (∀ l', 1 ≤ l' → l' < l → S.2 29 l' = bI (aIh R e l')) → (∀ S', mfr S S' → (∀ l', 1 ≤ l' → l' ≤ R.1 7 0 → S'.2 29 l' = bI (aIh R e l')) → post S') → wp_Mo_follow_2 post n e l S := by
  intro n
  induction n with
  | zero => intro l S _ hn; omega
  | succ n ih =>
    intro l S h hn l1 l2 hI hp
    have wl0 := w.1.1
    have wn2 := w.1.2.2.1
    have wd0 := w.1.2.1
    unfold wp_Mo_follow_2
    rw [h.nl]
    refine ⟨by unfold inR; omega, by unfold inR; omega, fun c => hp S (mfr_refl S) (fun l' a b => hI l' a (by omega)), fun c => ⟨⟨by omega, by omega⟩, fun b hb => ?_⟩⟩
    have l3 : l ≤ R.1 7 0 := by omega
    rw [Int.toNat_natCast, h.lot l1 l3 (f := 11) (by omega) (by omega)] at hb
    have wl := w.2.2.1 l l1 l3
    have we := w.2.2.2.2.1 e h1 h2
    have heq := wi e l h1 h2 l1 l3
    have k105 : ∀ S1, MD S1 R → mfr S S1 → (∀ l', 1 ≤ l' → l' < l → S1.2 29 l' = bI (aIh R e l')) → ∀ v : Bool, v = aIh R e l → wp_Mo_follow_105 post (wp_Mo_follow_2 post n) e l (bI v) l S1 := by
      intro S1 hS1 hfr hI1 v hv
      refine ⟨⟨by omega, by omega⟩, bI_01 _, fun S2 e2 => ?_⟩
      have hfr2 : mfr S1 S2 := by rw [e2]; exact mfr_a29 _ _ _
      have e3 : (l : Int) + 1 = ((l + 1 : Nat) : Int) := by omega
      rw [e3]
      refine ih (l + 1) S2 (hS1.fr hfr2) (by omega) (by omega) (by omega) (fun l' a b => ?_) (fun S' g1 g2 => hp S' (mfr_trans hfr (mfr_trans hfr2 g1)) g2)
      rw [e2, ms_a29_at]
      by_cases c : l' = l
      · rw [if_pos c, c, hv]
      · rw [if_neg c]; exact hI1 l' a (by omega)
    have k78 : ∀ S1, MD S1 R → mfr S S1 → (∀ l', 1 ≤ l' → l' < l → S1.2 29 l' = bI (aIh R e l')) → ∀ x : Bool, (x = true ↔ (R.1 11 l ≠ 0 ∧ aS R e (R.1 17 (R.1 11 l)) (R.1 11 l) ∧ (aIh R e (R.1 13 l) = true ∨ (R.1 14 l ≠ 0 ∧ aIh R e (R.1 14 l) = true)))) → wp_Mo_follow_78 post (wp_Mo_follow_2 post n) e l (bI x) S1 := by
      intro S1 hS1 hfr hI1 x hx
      unfold wp_Mo_follow_78
      rw [Int.toNat_natCast, hS1.eas h1 h2 (f := 28) (by omega) (by omega)]
      refine ⟨⟨by omega, by omega⟩, by unfold inR; omega, by unfold inR; omega, fun c => ?_, fun c => ⟨bI_in _, fun c2 => ?_, fun c2 => ?_⟩⟩
      · exact k105 S1 hS1 hfr hI1 true (heq.mpr (Or.inl (by omega))).symm
      · refine k105 S1 hS1 hfr hI1 false ?_
        cases e5 : aIh R e l with
        | false => rfl
        | true =>
          exfalso
          rcases heq.mp e5 with f | f
          · omega
          · rw [bI_0.mp c2] at hx; exact absurd (hx.mpr f) (by decide)
      · exact k105 S1 hS1 hfr hI1 true (heq.mpr (Or.inr (hx.mp (bI_ne.mp c2)))).symm
    refine ⟨by unfold inR; omega, fun c1 => k78 S h (mfr_refl S) hI false ⟨fun f => absurd f (by decide), fun f => absurd f.1 (by omega)⟩, fun c1 => ⟨⟨by omega, by omega⟩, ?_⟩⟩
    simp only [hb, Int.toNat_natCast]
    rw [h.deed (by omega) wl.2.1 (f := 17) (by omega) (by omega)]
    have wd := w.2.2.2.1 (R.1 11 l) (by omega) wl.2.1
    refine sp_Mo_stands h w h1 h2 (by unfold inR; omega) (by unfold inR; omega) (fun f => ⟨inR_lit1, fun g => absurd g (by decide), fun _ => ⟨⟨by omega, by omega⟩, ?_⟩⟩) (fun f => ⟨inR_lit0, fun _ => k78 S h (mfr_refl S) hI false ⟨fun f => absurd f (by decide), fun g => absurd g.2.1 f⟩, fun g => absurd rfl g⟩)
    rw [h.lot l1 l3 (f := 13) (by omega) (by omega), h.lot l1 l3 (f := 14) (by omega) (by omega), Int.toNat_natCast, Int.toNat_natCast]
    have pa0 : R.1 13 l ≠ 0 := fun f => absurd (wl.2.2.2.2.2.mpr f) (by omega)
    rw [hI (R.1 13 l) (by omega) wl.2.2.2.1]
    refine ⟨⟨by omega, by omega⟩, bI_in _, fun c2 => k78 S h (mfr_refl S) hI true ⟨fun _ => ⟨by omega, f, Or.inl (bI_ne.mp c2)⟩, fun _ => rfl⟩, fun c2 => ⟨⟨by omega, by omega⟩, by unfold inR; omega, fun c3 => k78 S h (mfr_refl S) hI false ⟨fun f => absurd f (by decide), fun g => ?_⟩, fun c3 => ⟨⟨by omega, by omega⟩, ⟨by omega, by omega⟩, ?_⟩⟩⟩
    · rcases g.2.2 with k | k
      · rw [bI_0.mp c2] at k; exact absurd k (by decide)
      · exact absurd (show R.1 14 l = 0 by omega) k.1
    · rw [hI (R.1 14 l) (by omega) wl.2.2.2.2.1]
      refine ⟨bI_in _, fun c4 => k78 S h (mfr_refl S) hI false ⟨fun f => absurd f (by decide), fun g => ?_⟩, fun c4 => k78 S h (mfr_refl S) hI true ⟨fun _ => ⟨by omega, f, Or.inr ⟨by omega, bI_ne.mp c4⟩⟩, fun _ => rfl⟩⟩
      rcases g.2.2 with k | k
      · rw [bI_0.mp c2] at k; exact absurd k (by decide)
      · rw [bI_0.mp c4] at k; exact absurd k.2 (by decide)
theorem sp_Mo_burdens {post : Int → MS → Prop} (h : MD S R) (w : WR R) (wi : WI R) {e l : Nat} {day ent : Int} (h1 : 1 ≤ e) (h2 : e ≤ R.1 25 0) (l1 : 1 ≤ l) (l2 : l ≤ R.1 7 0) (hd : inR day) (he : inR ent)
    (p1 : ∀ S', mfr S S' → aBu R e l day ent → post 1 S') (p0 : ∀ S', mfr S S' → ¬ aBu R e l day ent → post 0 S') : wp_Mo_burdens post e l day ent S := by
  have wl0 := w.1.1
  unfold wp_Mo_burdens wp_Mo_follow
  refine ⟨R.1 7 0 + 1, sp_Mo_follow w wi h1 h2 _ 1 S h (by omega) (by omega) (by omega) (fun l' a b => by omega) (fun S1 g1 g2 => ?_)⟩
  rw [Int.toNat_natCast, g2 l l1 l2]
  refine ⟨⟨by omega, by omega⟩, bI_in _, fun c => p0 S1 g1 (fun f => by have f1 := f.1; rw [bI_0.mp c] at f1; exact absurd f1 (by decide)), fun c => ?_⟩
  have hi := bI_ne.mp c
  refine sp_Mo_stands (h.fr g1) w h1 h2 hd he (fun f => ⟨inR_lit1, fun g => absurd g (by decide), fun _ => ?_⟩) (fun f => ⟨inR_lit0, fun _ => p0 S1 g1 (fun g => f g.2.1), fun g => absurd rfl g⟩)
  refine sp_Mo_isInBeing (h.fr g1) w l1 l2 hd he (fun k => ⟨inR_lit1, fun g => absurd g (by decide), fun _ => p1 S1 g1 ⟨hi, f, k⟩⟩) (fun k => ⟨inR_lit0, fun _ => p0 S1 g1 (fun g => k g.2.2), fun g => absurd rfl g⟩)
theorem sp_Mo_names {post : Int → MS → Prop} (h : MD S R) (w : WR R) (wi : WI R) (wn : WN R) {d l : Nat} (h1 : 1 ≤ d) (h2 : d ≤ R.1 15 0) (l1 : 1 ≤ l) (l2 : l ≤ R.1 7 0)
    (p1 : ∀ S', mfr S S' → l ∈ aNm R d → post 1 S') (p0 : ∀ S', mfr S S' → ¬ l ∈ aNm R d → post 0 S') : wp_Mo_names post d l S := by
  have wl0 := w.1.1
  have wd0 := w.1.2.1
  have wd := w.2.2.2.1 d h1 h2
  have e16 := h.deed h1 h2 (f := 16) (by omega) (by omega)
  have e17 := h.deed h1 h2 (f := 17) (by omega) (by omega)
  have e18 := h.deed h1 h2 (f := 18) (by omega) (by omega)
  have e19 := h.deed h1 h2 (f := 19) (by omega) (by omega)
  have hn := wn d l h1 h2 l1 l2
  have k36 : (R.1 16 d = 1 ∨ R.1 16 d = 3) → wp_Mo_names_36 post d l S := by
    intro hk
    unfold wp_Mo_names_36
    rw [Int.toNat_natCast, e18]
    refine ⟨⟨by omega, by omega⟩, by unfold inR; omega, by unfold inR; omega, fun c => p0 S (mfr_refl S) (fun f => ?_), fun c => p1 S (mfr_refl S) (hn.mpr (Or.inl ⟨hk, by omega⟩))⟩
    rcases hn.mp f with f | f | f
    · omega
    · omega
    · have := f.1; omega
  have k52 : (R.1 16 d = 2 ∨ R.1 16 d = 4) → wp_Mo_names_52 post d l S := by
    intro hk
    unfold wp_Mo_names_52
    rw [Int.toNat_natCast, e18, e19]
    refine ⟨⟨by omega, by omega⟩, by unfold inR; omega, by unfold inR; omega, fun c => p1 S (mfr_refl S) (hn.mpr (Or.inr (Or.inl ⟨hk, by omega⟩))), fun c => ⟨⟨by omega, by omega⟩, by unfold inR; omega, by unfold inR; omega, fun c2 => p0 S (mfr_refl S) (fun f => ?_), fun c2 => p1 S (mfr_refl S) (hn.mpr (Or.inr (Or.inl ⟨hk, by omega⟩)))⟩⟩
    rcases hn.mp f with f | f | f
    · omega
    · omega
    · have := f.1; omega
  unfold wp_Mo_names
  rw [Int.toNat_natCast, e16, e17, e18]
  refine ⟨⟨by omega, by omega⟩, by unfold inR; omega, fun c => ⟨⟨by omega, by omega⟩, ⟨by omega, by omega⟩, ?_⟩, fun c => k36 (by omega), fun c => k52 (by omega), fun c => k36 (by omega), fun c => k52 (by omega)⟩
  have hk : R.1 16 d = 5 := by omega
  have h5 := wd.2.2.2.2.2.2 hk
  refine sp_Mo_burdens h w wi (by omega) (by omega) l1 l2 (by unfold inR; omega) (by unfold inR; omega) (fun S' g f => ⟨b01_1, p1 S' g (hn.mpr (Or.inr (Or.inr ⟨hk, f⟩)))⟩) (fun S' g f => ⟨b01_0, p0 S' g (fun k => ?_)⟩)
  rcases hn.mp k with k | k | k
  · omega
  · omega
  · exact f k.2
theorem sp_Mo_isLate {post : Int → MS → Prop} (h : MD S R) (w : WR R) (wi : WI R) (wn : WN R) {l : Nat} {day : Int} (l1 : 1 ≤ l) (l2 : l ≤ R.1 7 0) (hd : inR day)
    (p1 : ∀ S', mfr S S' → aLate R l day → post 1 S') (p0 : ∀ S', mfr S S' → ¬ aLate R l day → post 0 S') : wp_Mo_isLate post l day S := by
  have wd0 := w.1.2.1
  have loop : ∀ (n d : Nat) (S1 : MS) (v : Bool), mfr S S1 → R.1 15 0 + 1 - d < n → 1 ≤ d → d ≤ R.1 15 0 + 1 → (v = true ↔ ∃ d', 1 ≤ d' ∧ d' < d ∧ day < (R.1 17 d' : Int) ∧ l ∈ aNm R d') → wp_Mo_isLate_5 post n l day (bI v) d S1 := by
    intro n
    induction n with
    | zero => intro d S1 v _ hn; omega
    | succ n ih =>
      intro d S1 v hfr hn d1 d2 hv
      have hS := h.fr hfr
      unfold wp_Mo_isLate_5
      rw [hS.nd]
      refine ⟨by unfold inR; omega, by unfold inR; omega, fun c => ⟨bI_01 _, ?_⟩, fun c => ?_⟩
      · cases e : v with
        | true =>
          obtain ⟨d', a, b, f, g⟩ := hv.mp e
          exact p1 S1 hfr ⟨d', a, by omega, f, g⟩
        | false =>
          refine p0 S1 hfr (fun f => ?_)
          obtain ⟨d', a, b, f, g⟩ := f
          rw [hv.mpr ⟨d', a, by omega, f, g⟩] at e; cases e
      · have e3 : (d : Int) + 1 = ((d + 1 : Nat) : Int) := by omega
        have dd : d ≤ R.1 15 0 := by clear hv; omega
        have hn1 : R.1 15 0 + 1 - (d + 1) < n := by clear hv; omega
        have go : ∀ S2 (v' : Bool), mfr S1 S2 → (v' = true ↔ v = true ∨ (day < (R.1 17 d : Int) ∧ l ∈ aNm R d)) → wp_Mo_isLate_44 post (wp_Mo_isLate_5 post n) l day d (bI v') S2 := by
          intro S2 v' hfr2 hv'
          unfold wp_Mo_isLate_44
          rw [e3]
          refine ih (d + 1) S2 v' (mfr_trans hfr hfr2) hn1 (Nat.le_add_left 1 d) (Nat.succ_le_succ dd) ?_
          rw [hv', hv]
          constructor
          · rintro (⟨d', a, b, f, g⟩ | ⟨f, g⟩)
            · exact ⟨d', a, by omega, f, g⟩
            · exact ⟨d, d1, by omega, f, g⟩
          · rintro ⟨d', a, b, f, g⟩
            by_cases c : d' = d
            · subst c; exact Or.inr ⟨f, g⟩
            · exact Or.inl ⟨d', a, by omega, f, g⟩
        have e17 := hS.deed d1 dd (f := 17) (by omega) (by omega)
        have wd := w.2.2.2.1 d d1 dd
        rw [Int.toNat_natCast, e17]
        refine ⟨bI_in _, fun c1 => go S1 true (mfr_refl _) ⟨fun _ => Or.inl (bI_ne.mp c1), fun _ => rfl⟩, fun c1 => ⟨⟨by omega, by omega⟩, by unfold inR; omega, hd, fun c2 => go S1 false (mfr_refl _) ⟨fun f => absurd f (by decide), fun f => ?_⟩, fun c2 => ?_⟩⟩
        · rcases f with f | f
          · rw [bI_0.mp c1] at f; exact f
          · omega
        · refine sp_Mo_names hS w wi wn d1 dd l1 l2 (fun S' g f => ⟨inR_lit1, fun k => absurd k (by decide), fun _ => go S' true g ⟨fun _ => Or.inr ⟨by omega, f⟩, fun _ => rfl⟩⟩) (fun S' g f => ⟨inR_lit0, fun _ => go S' false g ⟨fun f => absurd f (by decide), fun k => ?_⟩, fun k => absurd rfl k⟩)
          rcases k with k | k
          · rw [bI_0.mp c1] at k; exact k
          · exact absurd k.2 f
  unfold wp_Mo_isLate
  exact ⟨R.1 15 0 + 1, loop _ 1 S false (mfr_refl _) (by omega) (by omega) (by omega) ⟨fun f => absurd f (by decide), fun ⟨d', a, b, _⟩ => by omega⟩⟩
end BUR
