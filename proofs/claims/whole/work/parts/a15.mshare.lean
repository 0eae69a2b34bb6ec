/-! the reference: shares, fullness, a lot begun, a deed settled -/
def oT (R : AR) (l p : Nat) (day ent : Int) (d : Nat) : Int := if R.1 16 d = 3 ∧ R.1 18 d = l ∧ aF R d day ent then (if R.1 20 d = p then (R.1 21 d : Int) else 0) - (if R.1 19 d = p then (R.1 21 d : Int) else 0) else 0
def oN (R : AR) (l p : Nat) (day ent : Int) : Nat → Int
  | 0 => 0
  | d + 1 => oN R l p day ent d + oT R l p day ent (d + 1)
/-- shares, as the reference adds them up -/
def WSa (R : AR) : Prop := ∀ l, 1 ≤ l → l ≤ R.1 7 0 → (R.1 11 l = 0 → ∀ p, aSh R l p = if p = 0 then 5040 else 0) ∧ (R.1 11 l ≠ 0 → ∀ day ent, aF R (R.1 11 l) day ent → (R.1 11 (R.1 13 l) = 0 ∨ aF R (R.1 11 (R.1 13 l)) day ent) ∧ ∀ p, p < 100 → aSh R l p = aSh R (R.1 13 l) p + oN R (R.1 13 l) p day ent (R.1 15 0))
section SHA
variable {S : MS} {R : AR}
theorem sp_Mo_shareOf {post : Int → MS → Prop} (h : MD S R) (w : WR R) (ws : WSa R) {l p : Nat} {day ent : Int} (l1 : 1 ≤ l) (l2 : l ≤ R.1 7 0) (hp : p < 100) (hd : inR day) (he : inR ent) (hb : R.1 11 l = 0 ∨ aF R (R.1 11 l) day ent) (hpost : post (aSh R l p + oN R l p day ent (R.1 15 0)) S) : wp_Mo_shareOf post l p day ent S := by
  have wl0 := w.1.1
  have wd0 := w.1.2.1
  have inner : ∀ (k16 : Int → Int → Int → Int → Int → MS → Prop) (x : Nat) (v : Int), 1 ≤ x → x ≤ R.1 7 0 → k16 p day ent (v + oN R x p day ent (R.1 15 0)) (R.1 13 x) S → ∀ (n d : Nat), R.1 15 0 + 1 - d < n → 1 ≤ d → d ≤ R.1 15 0 + 1 → wp_Mo_shareOf_24 post k16 n p day ent (v + oN R x p day ent (d - 1)) x d S := by
    intro k16 x v x1 x2 hk n
    induction n with
    | zero => intro d hn; omega
    | succ n ih =>
      intro d hn d1 d2
      have e1 : (d : Int) + 1 = ((d + 1 : Nat) : Int) := by omega
      unfold wp_Mo_shareOf_24
      rw [h.nd]
      refine ⟨by unfold inR; omega, by unfold inR; omega, fun c => ⟨⟨by omega, by omega⟩, fun v6 e6 => ?_⟩, fun c => ?_⟩
      · rw [e6, Int.toNat_natCast, h.lot x1 x2 (f := 13) (by omega) (by omega)]
        have : d - 1 = R.1 15 0 := by omega
        rw [this]; exact hk
      · have dd : d ≤ R.1 15 0 := by omega
        have e16 := h.deed d1 dd (f := 16) (by omega) (by omega)
        have e18 := h.deed d1 dd (f := 18) (by omega) (by omega)
        have e19 := h.deed d1 dd (f := 19) (by omega) (by omega)
        have e20 := h.deed d1 dd (f := 20) (by omega) (by omega)
        have e21 := h.deed d1 dd (f := 21) (by omega) (by omega)
        have wd := w.2.2.2.1 d d1 dd
        have nx := ih (d + 1) (by omega) (by omega) (by omega)
        have eo : oN R x p day ent (d + 1 - 1) = oN R x p day ent (d - 1) + oT R x p day ent d := by
          rw [show d + 1 - 1 = (d - 1) + 1 by omega]
          simp only [oN]
          rw [show d - 1 + 1 = d by omega]
        rw [eo] at nx
        have skip : ¬ (R.1 16 d = 3 ∧ R.1 18 d = x ∧ aF R d day ent) → wp_Mo_shareOf_124 post k16 (wp_Mo_shareOf_24 post k16 n) p day ent (v + oN R x p day ent (d - 1)) x d S := by
          intro f
          unfold oT at nx
          rw [if_neg f, Int.add_zero] at nx
          unfold wp_Mo_shareOf_124
          rw [e1]; exact nx
        rw [Int.toNat_natCast, e16, e18]
        refine ⟨⟨by omega, by omega⟩, by unfold inR; omega, fun c1 => skip (fun f => c1 (by rw [f.1]; rfl)), fun c1 => ⟨⟨by omega, by omega⟩, by unfold inR; omega, by unfold inR; omega, fun c2 => skip (fun f => c2 (by rw [f.2.1])), fun c2 => ?_⟩⟩
        refine sp_Mo_isInForce h w d1 dd hd he (fun f => ⟨inR_lit1, fun g => absurd g (by decide), fun _ => ?_⟩) (fun f => ⟨inR_lit0, fun _ => skip (fun g => f g.2.2), fun g => absurd rfl g⟩)
        unfold oT at nx
        rw [if_pos ⟨by omega, by omega, f⟩] at nx
        -- to
        have k94 : ∀ s0 : Int, s0 = v + oN R x p day ent (d - 1) - (if R.1 19 d = p then (R.1 21 d : Int) else 0) → wp_Mo_shareOf_94 post k16 (wp_Mo_shareOf_24 post k16 n) p day ent x d s0 S := by
          intro s0 hs0
          unfold wp_Mo_shareOf_94 wp_Mo_shareOf_122 wp_Mo_shareOf_124
          rw [Int.toNat_natCast, e20, e21, e1]
          refine ⟨⟨by omega, by omega⟩, by unfold inR; omega, by unfold inR; omega, fun c3 => ?_, fun c3 => ⟨⟨by omega, by omega⟩, ?_⟩⟩
          · rw [if_neg (by omega)] at nx
            have : s0 = v + (oN R x p day ent (d - 1) + (0 - if R.1 19 d = p then (R.1 21 d : Int) else 0)) := by rw [hs0]; omega
            rw [this]; exact nx
          · rw [if_pos (by omega)] at nx
            have : s0 + (R.1 21 d : Int) = v + (oN R x p day ent (d - 1) + ((R.1 21 d : Int) - if R.1 19 d = p then (R.1 21 d : Int) else 0)) := by rw [hs0]; omega
            rw [this]; exact nx
        rw [e19, e21]
        refine ⟨⟨by omega, by omega⟩, by unfold inR; omega, by unfold inR; omega, fun c3 => k94 _ (by rw [if_neg (by omega)]; omega), fun c3 => ⟨⟨by omega, by omega⟩, k94 _ (by rw [if_pos (by omega)])⟩⟩
  have loop : ∀ (n x : Nat) (v : Int), x < n → 1 ≤ x → x ≤ R.1 7 0 → (R.1 11 x = 0 ∨ aF R (R.1 11 x) day ent) → v + (aSh R x p - if p = 0 then 5040 else 0) + oN R x p day ent (R.1 15 0) = aSh R l p + oN R l p day ent (R.1 15 0) → wp_Mo_shareOf_16 post n p day ent v x S := by
    intro n
    induction n with
    | zero => intro x v hn; omega
    | succ n ih =>
      intro x v hn x1 x2 hbx hv
      have wl := w.2.2.1 x x1 x2
      unfold wp_Mo_shareOf_16
      refine ⟨by unfold inR; omega, fun c => by omega, fun c => ⟨R.1 15 0 + 1, ?_⟩⟩
      have := inner (wp_Mo_shareOf_16 post n) x v x1 x2 ?_ (R.1 15 0 + 1) 1 (by omega) (by omega) (by omega)
      · simpa [oN] using this
      · obtain ⟨s1, s2⟩ := ws x x1 x2
        by_cases c0 : R.1 11 x = 0
        · have p0 := wl.2.2.2.2.2.mp c0
          rw [s1 c0 p] at hv
          obtain ⟨n', hn'⟩ : ∃ n', n = n' + 1 := ⟨n - 1, by omega⟩
          rw [p0, hn']
          unfold wp_Mo_shareOf_16
          refine ⟨inR_lit0, fun _ => ?_, fun q => absurd (by decide) q⟩
          have : v + oN R x p day ent (R.1 15 0) = aSh R l p + oN R l p day ent (R.1 15 0) := by omega
          rw [this]; exact hpost
        · obtain ⟨t1, t2⟩ := s2 c0 day ent (hbx.resolve_left c0)
          have p0 : R.1 13 x ≠ 0 := fun f => c0 (wl.2.2.2.2.2.mpr f)
          refine ih (R.1 13 x) _ (by omega) (by omega) (by omega) t1 ?_
          have := t2 p hp
          omega
  have k11 : ∀ s0 : Int, s0 = (if p = 0 then 5040 else 0) → wp_Mo_shareOf_11 post l p day ent s0 S := by
    intro s0 hs0
    exact ⟨l + 1, loop (l + 1) l s0 (by omega) l1 l2 hb (by omega)⟩
  unfold wp_Mo_shareOf
  exact ⟨by unfold inR; omega, fun c => k11 0 (by rw [if_neg (by omega)]), fun c => k11 5040 (by rw [if_pos (by omega)])⟩
def aShare (R : AR) (l p : Nat) (day ent : Int) : Int := aSh R l p + oN R l p day ent (R.1 15 0)
/-- shares fit an int -/
def WSb (R : AR) : Prop := ∀ l p day ent, 1 ≤ l → l ≤ R.1 7 0 → p < 100 → inR (aShare R l p day ent)
theorem sp_Mo_haveSameShares {post : Int → MS → Prop} (h : MD S R) (w : WR R) (ws : WSa R) (wb : WSb R) {a b : Nat} {day : Int} (a1 : 1 ≤ a) (a2 : a ≤ R.1 7 0) (b1 : 1 ≤ b) (b2 : b ≤ R.1 7 0) (hd : inR day) (ha : aB R a day (R.1 15 0)) (hb : aB R b day (R.1 15 0))
    (p1 : (∀ p, p < 100 → aShare R a p day (R.1 15 0) = aShare R b p day (R.1 15 0)) → post 1 S) (p0 : ¬ (∀ p, p < 100 → aShare R a p day (R.1 15 0) = aShare R b p day (R.1 15 0)) → post 0 S) : wp_Mo_haveSameShares post a b day S := by
  have wd0 := w.1.2.1
  have loop : ∀ (n k : Nat) (g : Bool), 101 - k < n → k ≤ 100 → (g = true ↔ ∀ p, p < k → aShare R a p day (R.1 15 0) = aShare R b p day (R.1 15 0)) → wp_Mo_haveSameShares_6 post n a b day (bI g) k S := by
    intro n
    induction n with
    | zero => intro k g hn; omega
    | succ n ih =>
      intro k g hn hk hg
      have e1 : (k : Int) + 1 = ((k + 1 : Nat) : Int) := by omega
      unfold wp_Mo_haveSameShares_6 wp_Mo_haveSameShares_50
      rw [h.nd, e1]
      refine ⟨by unfold inR; omega, fun c => ⟨bI_01 _, ?_⟩, fun c => ⟨bI_in _, fun c1 => ih (k + 1) false (by omega) (by omega) ⟨fun f => absurd f (by decide), fun f => ?_⟩, fun c1 => ?_⟩⟩
      · have ek : k = 100 := by omega
        subst ek
        cases g with
        | true => exact p1 (hg.mp rfl)
        | false => exact p0 (fun f => absurd (hg.mpr f) (by decide))
      · rw [bI_0.mp c1] at hg
        exact hg.mpr (fun p hp => f p (by omega))
      · have g1 := hg.mp (bI_ne.mp c1)
        refine sp_Mo_shareOf h w ws a1 a2 (by omega) hd (by unfold inR; omega) ha.1 ?_
        rw [h.nd]
        refine sp_Mo_shareOf h w ws b1 b2 (by omega) hd (by unfold inR; omega) hb.1 ⟨wb a k day _ a1 a2 (by omega), wb b k day _ b1 b2 (by omega), fun c2 => ih (k + 1) false (by omega) (by omega) ⟨fun f => absurd f (by decide), fun f => absurd (f k (by omega)) c2⟩, fun c2 => ih (k + 1) true (by omega) (by omega) ⟨fun _ p hp => ?_, fun _ => rfl⟩⟩
        by_cases cp : p = k
        · rw [cp]; exact c2
        · exact g1 p (by omega)
  exact ⟨102, loop 102 0 true (by omega) (by omega) ⟨fun _ p hp => by omega, fun _ => rfl⟩⟩
def rsz (kd n : Nat) : Nat := if kd = 1 then 5 + n else if kd = 3 then 6 else 5
def aMuch (R : AR) (ml me kd n : Nat) : Prop := R.1 15 0 = 600 ∨ 300 < R.1 7 0 + ml ∨ 200 < R.1 25 0 + me ∨ 12000 < R.1 30 0 + rsz kd n
theorem sp_Mo_isMuch {post : Int → MS → Prop} (h : MD S R) (w : WR R) {ml me kd n : Nat} (hm : ml ≤ 2) (he : me ≤ 2) (hk : kd ≤ 5) (hn : n ≤ 32) (p1 : aMuch R ml me kd n → post 1 S) (p0 : ¬ aMuch R ml me kd n → post 0 S) : wp_Mo_isMuch post ml me kd n S := by
  have w1 := w.1
  unfold wp_Mo_isMuch
  rw [h.nd, h.nl, h.ne, h.sc (f := 30) (by omega)]
  unfold aMuch at p1 p0
  have fin : ¬ R.1 15 0 = 600 → ¬ 300 < R.1 7 0 + ml → ¬ 200 < R.1 25 0 + me → ∀ r : Nat, r = rsz kd n → inR ((R.1 30 0 : Int) + (r : Int)) ∧ ((R.1 30 0 : Int) + (r : Int) ≤ 12000 → post 0 S) ∧ (¬ (R.1 30 0 : Int) + (r : Int) ≤ 12000 → post 1 S) := by
    intro q1 q2 q3 r hr
    have hr2 : r ≤ 37 := by rw [hr]; unfold rsz; split; omega; split <;> omega
    exact ⟨by unfold inR; omega, fun c => p0 (by omega), fun c => p1 (by omega)⟩
  refine ⟨by unfold inR; omega, fun c => p1 (by omega), fun c => ⟨by unfold inR; omega, fun c1 => p1 (by omega), fun c1 => ⟨by unfold inR; omega, fun c2 => p1 (by omega), fun c2 => ?_⟩⟩⟩
  unfold wp_Mo_recordSize wp_Mo_recordSize_21
  refine ⟨by unfold inR; omega, fun d1 => ⟨by unfold inR; omega, fun d2 => ?_, fun d2 => ?_⟩, fun d1 => ?_⟩
  · exact fin (by omega) (by omega) (by omega) 5 (by unfold rsz; rw [if_neg (by omega), if_neg (by omega)])
  · exact fin (by omega) (by omega) (by omega) 6 (by unfold rsz; rw [if_neg (by omega), if_pos (by omega)])
  · have := fin (by omega) (by omega) (by omega) (5 + n) (by unfold rsz; rw [if_pos (by omega)])
    rw [show (3 : Int) + (n : Int) + 2 = ((5 + n : Nat) : Int) by omega]
    exact this
theorem MD.wr (h : MD S R) {f i v : Nat} (hf : (11 ≤ f ∧ f ≤ 14) ∨ (16 ≤ f ∧ f ≤ 24) ∨ (26 ≤ f ∧ f ≤ 28)) : MD (ms_a S f i v) (rN R [(f, i, v)]) := by
  have s2 : ∀ g t, (ms_a S f i v).2 g t = if g = f ∧ t = i then (v : Int) else S.2 g t := by intro g t; simp [ms_a]
  have so : ∀ g, g ≠ f → (ms_a S f i v).2 g = S.2 g := by intro g hg; funext t; rw [s2, if_neg (fun q => hg q.1)]
  have n2 : ∀ g t, (rN R [(f, i, v)]).1 g t = if g = f ∧ t = i then v else R.1 g t := fun g t => rfl
  have nc : ∀ g, g ≠ f → (rN R [(f, i, v)]).1 g 0 = R.1 g 0 := fun g hg => by rw [n2, if_neg (fun q => hg q.1)]
  have arr : ∀ g t, S.2 g t = (R.1 g t : Int) → (ms_a S f i v).2 g t = ((rN R [(f, i, v)]).1 g t : Int) := by
    intro g t q
    rw [s2, n2]
    by_cases c : g = f ∧ t = i
    · rw [if_pos c, if_pos c]
    · rw [if_neg c, if_neg c, q]
  refine ⟨⟨?_, fun g hg => ?_⟩, ?_, ?_, ?_, ?_, ?_⟩
  · rw [nc 7 (by omega)]; exact h.1.1
  · rw [nc g (by omega)]; exact h.1.2 g hg
  · have := h.2.1
    unfold marr at this ⊢
    rw [so 5 (by omega), so 6 (by omega)]; exact this
  · intro l l1 l2
    rw [nc 7 (by omega)] at l2
    have := h.2.2.1 l l1 l2
    rw [so 10 (by omega), so 8 (by omega), so 9 (by omega)]
    exact ⟨this.1, this.2.1, fun g g1 g2 => arr g l (this.2.2 g g1 g2)⟩
  · intro d d1 d2 g g1 g2
    rw [nc 15 (by omega)] at d2
    exact arr g d (h.2.2.2.1 d d1 d2 g g1 g2)
  · intro e e1 e2 g g1 g2
    rw [nc 25 (by omega)] at e2
    exact arr g e (h.2.2.2.2.1 e e1 e2 g g1 g2)
  · intro k hk
    rw [nc 30 (by omega)] at hk
    rw [so 32 (by omega)]; exact h.2.2.2.2.2 k hk
theorem rN_rN (R : AR) (a b : List (Nat × Nat × Nat)) : rN (rN R a) b = rN R (a ++ b) := by
  have : ∀ (N : Nat → Nat → Nat) (a b : List (Nat × Nat × Nat)), nsets (nsets N a) b = nsets N (a ++ b) := by
    intro N a
    induction a generalizing N with
    | nil => intro b; rfl
    | cons t a ih => intro b; exact ih _ b
  unfold rN; rw [this]
theorem MG.wr (h : MG S) {f : Nat} {i v : Int} (hv : 0 ≤ v) : MG (ms_a S f i v) := by
  intro g d g1 g2
  show 0 ≤ (if g = f ∧ d = i.toNat then v else S.2 g d)
  split
  · exact hv
  · exact h g d g1 g2
def rSet (R : AR) : AR := rN R [(22, R.1 15 0, R.1 7 0), (23, R.1 15 0, R.1 25 0), (24, R.1 15 0, R.1 30 0)]
theorem sp_Mo_settle {post : MS → Prop} (h : MD S R) (w : WR R) (hg : MG S) (hp : ∀ S', MD S' (rSet R) → MG S' → S'.1 = S.1 → post S') : wp_Mo_settle post S := by
  have w1 := w.1
  unfold wp_Mo_settle
  rw [h.nd, h.nl]
  refine ⟨⟨by omega, by omega⟩, fun S1 e1 => ?_⟩
  have a1 : S1.1 = S.1 := by rw [e1]; rfl
  rw [a1, h.nd, h.ne]
  refine ⟨⟨by omega, by omega⟩, fun S2 e2 => ?_⟩
  have a2 : S2.1 = S.1 := by rw [e2]; exact a1
  rw [a2, h.nd, h.sc (f := 30) (by omega)]
  refine ⟨⟨by omega, by omega⟩, fun S3 e3 => hp S3 ?_ ?_ (by rw [e3]; exact a2)⟩
  · rw [e3, e2, e1]
    have h1 := h.wr (f := 22) (i := R.1 15 0) (v := R.1 7 0) (by omega)
    have h2 := h1.wr (f := 23) (i := R.1 15 0) (v := R.1 25 0) (by omega)
    have h3 := h2.wr (f := 24) (i := R.1 15 0) (v := R.1 30 0) (by omega)
    rw [rN_rN, rN_rN] at h3
    exact h3
  · rw [e3, e2, e1]
    exact ((hg.wr (by omega)).wr (by omega)).wr (by omega)
def rLot (R : AR) (d a b : Nat) (K : List PT) : AR := (nsets R.1 [(7, 0, R.1 7 0 + 1), (11, R.1 7 0 + 1, d), (12, R.1 7 0 + 1, 0), (13, R.1 7 0 + 1, a), (14, R.1 7 0 + 1, b)], fun l => if l = R.1 7 0 + 1 then K else aRing R l, R.2.2)
theorem sp_Mo_beget {post : MS → Prop} {M : List PT} (h : MD S R) (w : WR R) (hg : MG S) (h1 : 1 ≤ R.1 7 0) (h300 : R.1 7 0 < 300) (hM : mmade S M) (h0 : M ≠ []) (hok : ∀ p ∈ M, ig_ok p) (h60 : M.length ≤ 60) {d a b : Nat} (hp : ∀ S' K, rote M K → (∀ p ∈ K, ig_pk (ig_at K 0) ≤ ig_pk p) → MD S' (rLot R d a b K) → MG S' → S'.1 0 = S.1 0 → post S') : wp_Mo_beget post d a b S := by
  unfold wp_Mo_beget
  intro S1 e1
  have a1 : S1.1 7 = ((R.1 7 0 + 1 : Nat) : Int) := by rw [e1, ms_i_same, h.nl]; omega
  rw [a1]
  refine ⟨⟨by omega, by omega⟩, fun S2 e2 => ?_⟩
  have a2 : S2.1 7 = ((R.1 7 0 + 1 : Nat) : Int) := by rw [e2]; exact a1
  rw [a2]
  refine ⟨⟨by omega, by omega⟩, fun S3 e3 => ?_⟩
  have a3 : S3.1 7 = ((R.1 7 0 + 1 : Nat) : Int) := by rw [e3]; exact a2
  rw [a3]
  refine ⟨⟨by omega, by omega⟩, fun S4 e4 => ?_⟩
  have a4 : S4.1 7 = ((R.1 7 0 + 1 : Nat) : Int) := by rw [e4]; exact a3
  rw [a4]
  refine ⟨⟨by omega, by omega⟩, fun S5 e5 => ?_⟩
  have a5 : S5.1 7 = ((R.1 7 0 + 1 : Nat) : Int) := by rw [e5]; exact a4
  rw [a5]
  have s1 : ∀ k, k ≠ 7 → S5.1 k = S.1 k := by intro k hk; rw [e5, e4, e3, e2, e1]; simp [ms_a, ms_i, hk]
  have s2 : ∀ f, (f < 11 ∨ 14 < f) → S5.2 f = S.2 f := by
    intro f hf; funext t; rw [e5, e4, e3, e2, e1]
    simp only [ms_a, ms_i]
    rw [if_neg (by omega), if_neg (by omega), if_neg (by omega), if_neg (by omega)]
  have s3 : ∀ t, S5.2 11 t = (if t = R.1 7 0 + 1 then (d : Int) else S.2 11 t) ∧ S5.2 12 t = (if t = R.1 7 0 + 1 then 0 else S.2 12 t) ∧ S5.2 13 t = (if t = R.1 7 0 + 1 then (a : Int) else S.2 13 t) ∧ S5.2 14 t = (if t = R.1 7 0 + 1 then (b : Int) else S.2 14 t) := by
    intro t
    rw [e5, e4, e3, e2, e1]
    simp only [ms_a, ms_i, Int.toNat_natCast]
    simp
  have hM5 : mmade S5 M := by
    refine ⟨by rw [s1 33 (by omega)]; exact hM.1, hM.2.1, fun k hk => ?_⟩
    rw [s2 34 (by omega), s2 35 (by omega)]; exact hM.2.2 k hk
  refine sp_Mo_give hM5 h0 hok h60 (by omega) (fun S6 K g r1 r2 => hp S6 K r1 r2 ?_ ?_ ?_)
  · obtain ⟨g1, g2, g3, g4, g5, g6⟩ := g
    refine ⟨⟨?_, fun f hf => ?_⟩, ?_, ?_, ?_, ?_, ?_⟩
    · rw [g1, s1 1 (by omega), h.1.1]
      simp [rLot, nsets, nset]; omega
    · rw [g1]
      simp only [rLot, nsets]
      rcases hf with hf | hf | hf | hf | hf | hf | hf <;> subst hf
      · rw [s1 2 (by omega), h.sc (by omega)]; simp [nset]
      · rw [s1 3 (by omega), h.sc (by omega)]; simp [nset]
      · rw [a5]; simp [nset]
      · rw [s1 15 (by omega), h.sc (by omega)]; simp [nset]
      · rw [s1 25 (by omega), h.sc (by omega)]; simp [nset]
      · rw [s1 30 (by omega), h.sc (by omega)]; simp [nset]
      · rw [s1 31 (by omega), h.sc (by omega)]; simp [nset]
    · have := h.2.1
      unfold marr at this ⊢
      rw [g1, s1 4 (by omega), g2 5 (by omega) (by omega) (by omega), g2 6 (by omega) (by omega) (by omega), s2 5 (by omega), s2 6 (by omega)]
      exact this
    · intro l l1 l2
      have l2' : l ≤ R.1 7 0 + 1 := by simpa [rLot, nsets, nset] using l2
      have cc := s3 l
      have fld : ∀ f, 11 ≤ f → f ≤ 14 → S6.2 f l = S5.2 f l := fun f f1 f2 => by rw [g2 f (by omega) (by omega) (by omega)]
      by_cases cl : l = R.1 7 0 + 1
      · subst cl
        simp only [if_true] at cc
        refine ⟨?_, ?_, fun f f1 f2 => ?_⟩
        · show _ = (((if R.1 7 0 + 1 = R.1 7 0 + 1 then K else aRing R (R.1 7 0 + 1)).length : Nat) : Int)
          rw [if_pos rfl]; exact g4
        · show ∀ k, k < (if R.1 7 0 + 1 = R.1 7 0 + 1 then K else aRing R (R.1 7 0 + 1)).length → _ = (ig_at (if R.1 7 0 + 1 = R.1 7 0 + 1 then K else aRing R (R.1 7 0 + 1)) k).1 ∧ _ = (ig_at (if R.1 7 0 + 1 = R.1 7 0 + 1 then K else aRing R (R.1 7 0 + 1)) k).2
          rw [if_pos rfl]; exact g5
        · rw [fld f f1 f2]
          rcases (show f = 11 ∨ f = 12 ∨ f = 13 ∨ f = 14 by omega) with q | q | q | q <;> subst q
          · rw [cc.1]; simp [rLot, nsets, nset]
          · rw [cc.2.1]; simp [rLot, nsets, nset]
          · rw [cc.2.2.1]; simp [rLot, nsets, nset]
          · rw [cc.2.2.2]; simp [rLot, nsets, nset]
      · rw [if_neg cl, if_neg cl, if_neg cl, if_neg cl] at cc
        have old := h.2.2.1 l l1 (by omega)
        have er : aRing (rLot R d a b K) l = aRing R l := if_neg cl
        have h6 := (w.rg l1 (show l ≤ R.1 7 0 by omega)).2.1.2
        rw [er]
        refine ⟨by rw [g3 l cl, s2 10 (by omega)]; exact old.1, fun k hk => ?_, fun f f1 f2 => ?_⟩
        · have := g6 (60 * l + k) (by omega)
          rw [this.1, this.2, s2 8 (by omega), s2 9 (by omega)]
          exact old.2.1 k hk
        · rw [fld f f1 f2]
          have o := old.2.2 f f1 f2
          rcases (show f = 11 ∨ f = 12 ∨ f = 13 ∨ f = 14 by omega) with q | q | q | q <;> subst q
          · rw [cc.1, o]; simp [rLot, nsets, nset, cl]
          · rw [cc.2.1, o]; simp [rLot, nsets, nset, cl]
          · rw [cc.2.2.1, o]; simp [rLot, nsets, nset, cl]
          · rw [cc.2.2.2, o]; simp [rLot, nsets, nset, cl]
    · intro x x1 x2 f f1 f2
      have x2' : x ≤ R.1 15 0 := by simpa [rLot, nsets, nset] using x2
      rw [g2 f (by omega) (by omega) (by omega), s2 f (by omega), h.deed x1 x2' f1 f2]
      simp only [rLot, nsets]
      rw [nset_f (by omega), nset_f (by omega), nset_f (by omega), nset_f (by omega), nset_f (by omega)]
    · intro x x1 x2 f f1 f2
      have x2' : x ≤ R.1 25 0 := by simpa [rLot, nsets, nset] using x2
      rw [g2 f (by omega) (by omega) (by omega), s2 f (by omega), h.eas x1 x2' f1 f2]
      simp only [rLot, nsets]
      rw [nset_f (by omega), nset_f (by omega), nset_f (by omega), nset_f (by omega), nset_f (by omega)]
    · intro i hi
      have hi' : i < R.1 30 0 := by simpa [rLot, nsets, nset] using hi
      rw [g2 32 (by omega) (by omega) (by omega), s2 32 (by omega)]
      exact h.2.2.2.2.2 i hi'
  · intro f x f1 f2
    rw [g.2.1 f (by omega) (by omega) (by omega), s2 f (by omega)]; exact hg f x f1 f2
  · rw [g.1, s1 0 (by omega)]
end SHA
