/-! what stays; points copied; the log -/
def n20 (T T' : CS) : Prop := ∀ a, tg T' a = 20 → tg T a = 20
theorem n20_refl (T : CS) : n20 T T := fun _ h => h
theorem n20_trans {T T' T2 : CS} (h : n20 T T') (g : n20 T' T2) : n20 T T2 := fun a q => h a (g a q)
theorem n20_new {T : CS} {q t n : Nat} (ht : t ≠ 20) : n20 T (cs_new T q t n) := by
  intro a h
  by_cases c : a = q
  · rw [c, new_tg] at h; exact absurd h ht
  · have : tg (cs_new T q t n) a = tg T a := if_neg c
    rw [this] at h; exact h
theorem n20_tw {P : Nat → Prop} {T T' : CS} (h : Tw P T T') : n20 T T' := fun a q => by rw [h.1] at q; exact q
theorem n20_tg {T T' : CS} (h : tg T' = tg T) : n20 T T' := fun a q => by rw [h] at q; exact q
section PRT
variable {qs : List Nat} {ad : Nat → Nat → Nat} {T T' : CS} {R : AR}
theorem BK.parts (hq : qs.Nodup) (hl : qs.length = 30) (h : BK qs ad T R) {Pi Po : Nat → Prop} (g : Ty Pi Po T T') (hPi : ∀ a, Pi a → tg T a = 7 ∨ tg T a = 6 ∨ a = ad 9 0) (hPo : ∀ a, Po a → tg T a = 7 ∨ tg T a = 13 ∨ tg T a = 6) :
    fixed qs T' ∧ (fi T' (qa qs 0) 6 = (R.1 2 0 : Int) ∧ fi T' (qa qs 0) 7 = (R.1 3 0 : Int)) ∧ ptsAt T' (qa qs 1) (qa qs 2) (aRow R) 32 ∧ (∀ d, 1 ≤ d → d ≤ R.1 15 0 → deedAt qs ad T' R d) ∧ (∀ l, 1 ≤ l → l ≤ R.1 7 0 → lotAt qs ad T' R l) ∧ ∀ e, 1 ≤ e → e ≤ R.1 25 0 → easAt ad T' R e := by
  obtain ⟨h1, h2, h3, ⟨h4, h5, h6⟩, h7, h8, h9, h10, h11⟩ := h
  have twa : tg T (ad 9 0) = 11 := h11.2.2.2.1
  have ni : ∀ a, tg T a ≠ 7 → tg T a ≠ 6 → a ≠ ad 9 0 → ¬ Pi a := fun a x y z q => by rcases hPi a q with r | r | r; exact x r; exact y r; exact z r
  have no : ∀ a, tg T a ≠ 7 → tg T a ≠ 13 → tg T a ≠ 6 → ¬ Po a := fun a x y z q => by rcases hPo a q with r | r | r; exact x r; exact y r; exact z r
  have nw : ∀ i, i < 30 → i ≠ 29 → qa qs i ≠ ad 9 0 := by
    intro i hi hi29 q
    rcases h11.2.2.2.2.2.2 with r | r
    · rw [r] at q; exact hi29 (qa_inj hq hl hi (by omega) q)
    · exact r (by rw [← q]; exact qa_mem hl hi)
  have t0 : ∀ i t, i < 30 → t0_tag i = t → tg T (qa qs i) = t := fun i t hi ht => h1.tag hi ht
  refine ⟨?_, ?_, ?_, ?_, ?_, ?_⟩
  · intro i hi
    obtain ⟨a, b, c⟩ := h1 i hi
    have gi := g (qa qs i) (by rw [a]; exact (t0_tag_lo i hi).1)
    refine ⟨by rw [gi.1]; exact a, by rw [gi.2.1]; exact b, fun j z hz => ?_⟩
    by_cases c4 : i = 23 ∨ i = 24 ∨ i = 25 ∨ i = 28
    · exact Or.inl c4
    · right
      have hpo : ¬ Po (qa qs i) := by
        have : t0_tag i ≠ 7 ∧ t0_tag i ≠ 13 ∧ t0_tag i ≠ 6 := by
          have hd : ∀ i, i < 30 → ¬ (i = 23 ∨ i = 24 ∨ i = 25 ∨ i = 28) → t0_tag i ≠ 7 ∧ t0_tag i ≠ 13 ∧ t0_tag i ≠ 6 := by decide
          exact hd i hi c4
        exact no _ (by rw [a]; exact this.1) (by rw [a]; exact this.2.1) (by rw [a]; exact this.2.2)
      rw [gi.2.2.1 hpo]
      exact (c j z hz).resolve_left c4
  · have g0 := g (qa qs 0) (by rw [t0 0 1 (by omega) rfl]; decide)
    have n0 : ¬ Pi (qa qs 0) := ni _ (by rw [t0 0 1 (by omega) rfl]; decide) (by rw [t0 0 1 (by omega) rfl]; decide) (nw 0 (by omega) (by omega))
    exact ⟨by rw [g0.2.2.2 n0]; exact h2.1, by rw [g0.2.2.2 n0]; exact h2.2⟩
  · exact h3.ty g (ni _ (by rw [h3.1]; decide) (by rw [h3.1]; decide) (nw 1 (by omega) (by omega))) (ni _ (by rw [h3.2.2.1]; decide) (by rw [h3.2.2.1]; decide) (nw 2 (by omega) (by omega))) (no _ (by rw [h3.1]; decide) (by rw [h3.1]; decide) (by rw [h3.1]; decide))
  · intro d d1 d2
    obtain ⟨a, b, c, e, f, i, j, k, m⟩ := h8 d d1 d2
    have t1 := h4.2.2.2.2.1 d d1 d2
    have gd := g (ad 0 d) (by omega)
    have gn := g (ad 3 d) (by omega)
    have nd : ¬ Pi (ad 0 d) := ni _ (by omega) (by omega) (fun q => by rw [q] at t1; omega)
    have od : ¬ Po (ad 0 d) := no _ (by omega) (by omega) (by omega)
    have nn : ¬ Pi (ad 3 d) := ni _ (by omega) (by omega) m
    exact ⟨by rw [gd.2.2.2 nd]; exact a, by rw [gd.2.2.2 nd]; exact b, fun q => by rw [gd.2.2.2 nd]; exact c q, by rw [gd.2.2.1 od]; exact e, by rw [gn.1]; exact f, by rw [gn.2.1]; exact i, fun x hx => by rw [gn.2.2.2 nn]; exact j x hx, k, m⟩
  · intro l l1 l2
    obtain ⟨a, b, c, d, ⟨e1, e2, e3, e4⟩, ⟨f1, f2, f3, f4, f5⟩, ⟨k1, k2, k3⟩, k4, k5⟩ := h9 l l1 l2
    have t1 := h5.2.2.2.2.1 l l1 l2
    have gd := g (ad 1 l) (by omega)
    have nd : ¬ Pi (ad 1 l) := ni _ (by omega) (by omega) (fun q => by rw [q] at t1; omega)
    have od : ¬ Po (ad 1 l) := no _ (by omega) (by omega) (by omega)
    have g6 := g (ad 6 l) (by omega)
    have g7 := g (ad 7 l) (by omega)
    have n6 : ¬ Pi (ad 6 l) := ni _ (by omega) (by omega) k5
    have n7 : ¬ Pi (ad 7 l) := ni _ (by omega) (by omega) (fun q => by rw [q] at f2; omega)
    have b1 := b.1
    have b3 := b.2.2.1
    refine ⟨by rw [gd.2.2.1 od]; exact a, b.ty g (ni _ (by omega) (by omega) (fun q => by rw [q] at b1; omega)) (ni _ (by omega) (by omega) k4) (no _ (by omega) (by omega) (by omega)), by rw [gd.2.2.2 nd]; exact c, by rw [gd.2.2.2 nd]; exact d, ⟨by rw [gd.2.2.1 od]; exact e1, by rw [g6.1]; exact e2, by rw [g6.2.1]; exact e3, fun p hp => by rw [g6.2.2.2 n6]; exact e4 p hp⟩, ⟨by rw [gd.2.2.1 od]; exact f1, by rw [g7.1]; exact f2, by rw [g7.2.1]; exact f3, fun i => by rw [g7.2.2.2 n7]; exact f4 i, fun e e1 e2 => by rw [g7.2.1, g7.2.2.2 n7]; exact f5 e e1 e2⟩, ⟨k1, k2, k3⟩, k4, k5⟩
  · intro e e1 e2
    obtain ⟨a, b, c⟩ := h10 e e1 e2
    have t1 := h6.2.2.2.2.1 e e1 e2
    have gd := g (ad 2 e) (by omega)
    have nd : ¬ Pi (ad 2 e) := ni _ (by omega) (by omega) (fun q => by rw [q] at t1; omega)
    exact ⟨by rw [gd.2.2.2 nd]; exact a, by rw [gd.2.2.2 nd]; exact b, by rw [gd.2.2.2 nd]; exact c⟩
/-- a new Points of some room -/
theorem sp_B_ptinit {post : CS → Prop} {v0 cap mc ms : Nat} (h : tg T v0 = 2) (h0 : fi T v0 1 = 0) (hc : cap ≤ 1000) (hmc : 1 ≤ mc) (hms : cap ≤ ms) (hp : ∀ T' b, tg T b = 0 → Ty (fun _ => False) (fun a => a = v0) T T' → n20 T T' → ptsAt T' v0 b [] cap → post T') : wp_BPt_init post mc ms v0 cap T := by
  unfold wp_BPt_init
  refine ⟨⟨by omega, by omega⟩, mc - 1, ms - cap, ⟨by omega, by rw [Int.toNat_natCast]; omega⟩, fun b T2 hb y2 => ?_⟩
  rw [Int.toNat_natCast] at y2
  have hvb : v0 ≠ b := fun q => by rw [q] at h; omega
  have fr2 : Ty (fun _ => False) (fun a => a = v0) T T2 := by rw [y2]; exact Ty_new _ _ hb
  have t2 : tg T2 v0 = 2 := by rw [(fr2 v0 (by omega)).1]; exact h
  refine ⟨t2, fun T5 y5 => hp T5 b hb (Ty_trans fr2 (by rw [y5]; exact Ty_o rfl)) ?_ ⟨by rw [y5]; exact t2, ?_, ?_, ?_, ?_, ⟨Nat.zero_le _, by omega⟩, fun i hi => absurd hi (Nat.not_lt_zero _)⟩⟩
  · have q1 : n20 T T2 := by rw [y2]; exact n20_new (by decide)
    have q2 : n20 T2 T5 := by rw [y5]; exact n20_tg rfl
    exact n20_trans q1 q2
  · rw [y5, cs_o_fo, if_pos ⟨rfl, rfl⟩]
  · rw [y5]; show tg T2 b = 11; rw [y2]; exact new_tg _ _ _ _
  · rw [y5]; show ln T2 b = cap; rw [y2]; exact new_ln _ _ _ _
  · rw [y5]; show fi T2 v0 1 = _
    rw [(fr2 v0 (by omega)).2.2.2 (fun q => q), h0]; rfl
theorem sp_B_copy {post : Nat → CS → Prop} {a b cap mc ms : Nat} {l : List PT} (h : ptsAt T a b l cap) (hl : l.length ≤ 400) (hmc : 2 ≤ mc) (hms : 2 + l.length ≤ ms) (hp : ∀ T' c d, tg T c = 0 → tg T d = 0 → Tx (fun _ => False) T T' → n20 T T' → ptsAt T' c d l l.length → post c T') : wp_BPt_copy post mc ms a T := by
  unfold wp_BPt_copy
  refine ⟨mc - 1, ms - 2, ⟨by omega, by omega⟩, fun c T2 hc y2 => ?_⟩
  have hac : a ≠ c := fun q => by have := h.1; rw [q] at this; omega
  have hbc : b ≠ c := fun q => by have := h.2.2.1; rw [q] at this; omega
  have fr2 : Tx (fun _ => False) T T2 := by rw [y2]; exact Tx_new _ hc
  have h2 := h.tx fr2 (fun q => q) (fun q => q)
  have tc2 : tg T2 c = 2 := by rw [y2]; exact new_tg _ _ _ _
  refine ⟨h2.1, mc - 1, ms - 2, 0, 0, ⟨by omega, by omega⟩, ?_⟩
  rw [h2.sz]
  refine sp_B_ptinit tc2 (by rw [y2]; exact new_fi _ _ _ _ _) (by omega) (by omega) (by omega) (fun T5 d hd fr5 n5 g5 => ⟨l.length + 1, ?_⟩)
  have hd0 : tg T d = 0 := by
    by_cases q : d = c
    · rw [q, tc2] at hd; omega
    · have : tg T2 d = tg T d := by rw [y2]; exact if_neg q
      rw [← this]; exact hd
  have hcd : c ≠ d := fun q => by rw [← q, tc2] at hd; omega
  have had : a ≠ d := fun q => by have := h2.1; rw [q] at this; omega
  have hbd : b ≠ d := fun q => by have := h2.2.2.1; rw [q] at this; omega
  have h5 : ptsAt T5 a b l cap := h2.ty fr5 (fun q => q) (fun q => q) hac
  have loop : ∀ (n k : Nat) (T6 : CS), l.length - k < n → k ≤ l.length → Tw (pab c d) T5 T6 → ptsAt T6 c d (l.take k) l.length → wp_BPt_copy_14 post n 0 0 a c k T6 := by
    intro n
    induction n with
    | zero => intro k T6 hn; omega
    | succ n ih =>
      intro k T6 hn hk f6 g6
      have h6 := h5.tw f6 (fun q => q.elim hac had) (fun q => q.elim hbc hbd)
      have e1 : (k : Int) + 1 = ((k + 1 : Nat) : Int) := by omega
      unfold wp_BPt_copy_14
      rw [h6.sz, e1, Int.toNat_natCast]
      refine ⟨h6.1, by unfold inR; omega, by unfold inR; omega, fun q => ?_, fun q => ⟨h6.1, b, h6.2.1, h6.2.2.1, ?_⟩⟩
      · have ek : k = l.length := by omega
        subst ek
        rw [List.take_length] at g6
        refine hp T6 c d hc hd0 ?_ (n20_trans (by rw [y2]; exact n20_new (by decide)) (n20_trans n5 (n20_tw f6))) g6
        intro x hx
        have hxc : x ≠ c := fun r => by rw [r] at hx; exact hx hc
        have hxd : x ≠ d := fun r => by rw [r] at hx; exact hx hd0
        obtain ⟨u1, u2, u3, u4⟩ := fr2 x hx
        obtain ⟨v1, v2, v3, v4⟩ := fr5 x (by rw [u1]; exact hx)
        exact ⟨by rw [f6.1, v1, u1], by rw [f6.2.1, v2, u2], by rw [f6.2.2.1, v3 hxc, u3], fun _ => by rw [f6.2.2.2 x (fun r => r.elim hxc hxd), v4 (fun q => q), u4 (fun q => q)]⟩
      · rw [h6.2.2.2.1]
        have hc2 := h6.2.2.2.2.2.1
        have hk' : k < l.length := by omega
        have ev : fi T6 b k = ig_pk (ig_at l k) := by
          rw [h6.2.2.2.2.2.2 k hk', ig_at_getD hk']
        rw [ev]
        refine ⟨⟨by omega, by omega⟩, g6.1, sp_add g6 (by simp; omega) (fun T7 f7 g7 => ih (k + 1) T7 (by omega) (by omega) (Tw_trans f6 f7) ?_)⟩
        rw [List.take_succ_eq_append_getElem hk', ← ig_at_lt hk']; exact g7
  exact loop (l.length + 1) 0 T5 (by omega) (by omega) (Tw_refl _ _) (by rw [List.take_zero]; exact g5)
end PRT
/-! Log -/
section LOG
variable {T : CS} {lg : Nat}
/-- the log at lg with its words at wa: n words, ws the word of each -/
def lgAt (T : CS) (lg wa n : Nat) (w : Nat → Int) : Prop := tg T lg = 6 ∧ fi T lg 1 = (n : Int) ∧ fo T lg 0 = some wa ∧ tg T wa = 11 ∧ n ≤ ln T wa ∧ (256 ≤ ln T wa ∧ ln T wa ≤ 24000) ∧ ∀ i, i < n → fi T wa i = w i
theorem sp_B_put {post : CS → Prop} {wa n mc ms : Nat} {w : Nat → Int} {v : Int} (h : lgAt T lg wa n w) (hn : n ≤ 12000) (hmc : n = ln T wa → 1 ≤ mc) (hms : n = ln T wa → 2 * n ≤ ms)
    (hp : ∀ T' wa', Ty (fun a => a = lg ∨ a = wa) (fun a => a = lg) T T' → n20 T T' → lgAt T' lg wa' (n + 1) (updN w n v) → (wa' = wa ∧ ln T' wa' = ln T wa ∧ n < ln T wa ∨ tg T wa' = 0 ∧ ln T' wa' = 2 * n ∧ n = ln T wa) → fi T' lg 2 = fi T lg 2 → post T') : wp_BLg_put post mc ms lg v T := by
  obtain ⟨a1, a2, a3, a4, a5, a6, a7⟩ := h
  have hlw : lg ≠ wa := fun q => by rw [q] at a1; omega
  -- the write
  have k29 : ∀ (T1 : CS) (x mc' ms' : Nat), tg T1 lg = 6 → fi T1 lg 1 = (n : Int) → fi T1 lg 2 = fi T lg 2 → fo T1 lg 0 = some x → tg T1 x = 11 → n < ln T1 x → 256 ≤ ln T1 x → ln T1 x ≤ 24000 → (∀ i, i < n → fi T1 x i = w i) → Ty (fun a => a = lg ∨ a = wa) (fun a => a = lg) T T1 → n20 T T1 → (x = wa ∧ ln T1 x = ln T wa ∧ n < ln T wa ∨ tg T x = 0 ∧ ln T1 x = 2 * n ∧ n = ln T wa) → wp_BLg_put_29 post mc' ms' lg v T1 := by
    intro T1 x mc' ms' b1 b2 b2' b3 b4 b5 b6 b7 b8 fr nn hx
    have hlx : lg ≠ x := fun q => by rw [q] at b1; omega
    unfold wp_BLg_put_29
    rw [b2, Int.toNat_natCast]
    refine ⟨b1, x, b3, b1, b4, ⟨by omega, by omega⟩, fun T2 y2 => ⟨by rw [y2]; exact b1, by rw [y2]; exact b1, fun T3 y3 => ?_⟩⟩
    have e2 : fi T2 lg 1 = (n : Int) := by rw [y2, cs_i_fi, if_neg (fun q => hlx q.1)]; exact b2
    rw [e2, show (n : Int) + 1 = ((n + 1 : Nat) : Int) by omega] at y3
    have t3 : tg T3 = tg T1 := by rw [y3, y2]; rfl
    have l3 : ln T3 = ln T1 := by rw [y3, y2]; rfl
    have o3 : fo T3 = fo T1 := by rw [y3, y2]; rfl
    have i3 : ∀ c i, fi T3 c i = if c = lg ∧ i = 1 then ((n + 1 : Nat) : Int) else if c = x ∧ i = n then v else fi T1 c i := by intro c i; rw [y3, y2]; rfl
    refine hp T3 x ?_ (n20_trans nn (n20_tg t3)) ⟨by rw [t3]; exact b1, by rw [i3, if_pos ⟨rfl, rfl⟩], by rw [o3]; exact b3, by rw [t3]; exact b4, by rw [l3]; omega, by rw [l3]; exact ⟨b6, b7⟩, fun i hi => ?_⟩ (by rw [l3]; exact hx) ?_
    · intro c hc
      obtain ⟨g1, g2, g3, g4⟩ := fr c hc
      refine ⟨by rw [t3]; exact g1, by rw [l3]; exact g2, fun q => by rw [o3]; exact g3 q, fun q => ?_⟩
      rw [← g4 q]
      funext i
      rw [i3, if_neg (fun r => q (Or.inl r.1)), if_neg]
      rintro ⟨r, _⟩
      rcases hx with s | s
      · exact q (Or.inr (by rw [r]; exact s.1))
      · rw [r] at hc; exact hc s.1
    · rw [i3, if_neg (fun q => hlx q.1.symm)]
      by_cases c : i = n
      · rw [if_pos ⟨rfl, c⟩, c, updN_s]
      · rw [if_neg (fun q => c q.2), updN_n _ _ _ c]; exact b8 i (by omega)
    · rw [i3, if_neg (by omega), if_neg (fun q => hlx q.1)]; exact b2'
  unfold wp_BLg_put
  rw [a2]
  refine ⟨a1, a1, wa, a3, a4, by unfold inR; omega, by unfold inR; omega, fun c => k29 T wa mc ms a1 a2 rfl a3 a4 (by omega) a6.1 a6.2 a7 (Ty_refl _ _ _) (n20_refl _) (Or.inl ⟨rfl, rfl, by omega⟩), fun c => ?_⟩
  have hfull : n = ln T wa := by omega
  have hmc := hmc hfull
  have hms := hms hfull
  refine ⟨a1, wa, a3, a1, mc, ms, 0, 0, ⟨by omega, by omega⟩, ?_⟩
  unfold wp_BAr_copyOfI
  refine ⟨a4, by unfold inR; omega, by unfold inR; omega, fun d => ?_, fun d => by omega⟩
  have e2n : (2 * (n : Int)).toNat = 2 * n := by omega
  rw [e2n]
  refine ⟨⟨by omega, by omega⟩, mc - 1, ms - 2 * n, ⟨by omega, by omega⟩, fun q T2 hq y2 => ?_⟩
  have fr2 : Ty (fun a => a = lg ∨ a = wa) (fun a => a = lg) T T2 := by rw [y2]; exact Ty_new _ _ hq
  have hwq : wa ≠ q := fun r => by rw [r] at a4; omega
  have hlq : lg ≠ q := fun r => by rw [r] at a1; omega
  have tq : tg T2 q = 11 := by rw [y2]; exact new_tg _ _ _ _
  have lq : ln T2 q = 2 * n := by rw [y2]; exact new_ln _ _ _ _
  have g2w := fr2 wa (by omega)
  have iw : fi T2 wa = fi T wa := by
    rw [y2]; funext i
    show (if wa = q then 0 else fi T wa i) = fi T wa i
    rw [if_neg hwq]
  refine ⟨by rw [g2w.1]; exact a4, ?_⟩
  rw [g2w.2.1, ← hfull]
  refine sp_BMa_min (by unfold inR; omega) (by unfold inR; omega) ?_
  have em : min (n : Int) (2 * (n : Int)) = (n : Int) := by omega
  rw [em, lq, Int.toNat_natCast]
  refine ⟨tq, by rw [g2w.1]; exact a4, ⟨⟨by omega, by omega, by omega⟩, by omega, by omega⟩, fun T6 y6 => ?_⟩
  have t6 : tg T6 = tg T2 := by rw [y6]; rfl
  have l6 : ln T6 = ln T2 := by rw [y6]; rfl
  have o6 : fo T6 = fo T2 := by rw [y6]; rfl
  have i6 : ∀ c, c ≠ q → fi T6 c = fi T2 c := by
    intro c hc; rw [y6]; funext i
    show (if c = q then _ else fi T2 c i) = fi T2 c i
    rw [if_neg hc]
  have i6q : ∀ i, i < n → fi T6 q i = w i := by
    intro i hi; rw [y6]
    show (if q = q then va_cpy (fi T2 wa) (fi T2 q) 0 0 n i else fi T2 q i) = w i
    rw [if_pos rfl, cpy_in hi, iw]; exact a7 i hi
  have fr6 : Ty (fun a => a = lg ∨ a = wa) (fun a => a = lg) T T6 := by
    intro c hc
    obtain ⟨g1, g2, g3, g4⟩ := fr2 c hc
    have hcq : c ≠ q := fun r => by rw [r] at hc; exact hc hq
    exact ⟨by rw [t6]; exact g1, by rw [l6]; exact g2, fun r => by rw [o6]; exact g3 r, fun r => by rw [i6 c hcq]; exact g4 r⟩
  have tl6 : tg T6 lg = 6 := by rw [(fr6 lg (by omega)).1]; exact a1
  refine ⟨tl6, fun T9 y9 => ?_⟩
  have fl : ∀ j, fi T9 lg j = fi T lg j := by
    intro j
    rw [y9]; show fi T6 lg j = _
    rw [i6 lg hlq, y2]
    show (if lg = q then 0 else fi T lg j) = _
    rw [if_neg hlq]
  refine k29 T9 q 0 0 (by rw [y9]; exact tl6) (by rw [fl]; exact a2) (fl 2) (by rw [y9, cs_o_fo, if_pos ⟨rfl, rfl⟩]) (by rw [y9]; show tg T6 q = 11; rw [t6]; exact tq) (by rw [y9]; show n < ln T6 q; rw [l6, lq]; omega) (by rw [y9]; show 256 ≤ ln T6 q; rw [l6, lq]; omega) (by rw [y9]; show ln T6 q ≤ 24000; rw [l6, lq]; omega) (fun i hi => by rw [y9]; exact i6q i hi) (Ty_trans fr6 (by rw [y9]; exact Ty_o rfl)) ?_ (Or.inr ⟨hq, by rw [y9]; show ln T6 q = 2 * n; rw [l6, lq], hfull⟩)
  rw [y9]
  exact n20_trans (by rw [y2]; exact n20_new (by decide)) (n20_tg t6)
theorem sp_B_sumOf {post : Int → CS → Prop} {wa n st : Nat} {w : Nat → Int} {body : List Int} (h : lgAt T lg wa n w) (hb : ∀ k, k < body.length → w (st + k) = body.getD k 0) (hin : st + body.length ≤ n) (hbd : ∀ x ∈ body, 0 ≤ x ∧ x ≤ 700000000) (h40 : body.length ≤ 40) (hp : post (wsum body % 2147483648) T) : wp_BLg_sumOf post lg st body.length T := by
  obtain ⟨a1, a2, a3, a4, a5, a6, a7⟩ := h
  have loop : ∀ (m k : Nat), body.length - k < m → k ≤ body.length → wp_BLg_sumOf_5 post m lg st body.length (gx_S (fun k => body.getD k 0 * ((k : Int) + 1)) k) k T := by
    intro m
    induction m with
    | zero => intro k hm; omega
    | succ m ih =>
      intro k hm hk
      have wb := wsum_bd hbd h40 k
      have e1 : (k : Int) + 1 = ((k + 1 : Nat) : Int) := by omega
      unfold wp_BLg_sumOf_5
      refine ⟨by unfold inR; omega, by unfold inR; omega, fun c => ?_, fun c => ⟨a1, wa, a3, a4, ?_⟩⟩
      · have ek : k = body.length := by omega
        subst ek
        have := wb.2 (by omega)
        unfold wp_BMa_fmodl wp_BMa_fmodl_25
        refine ⟨⟨⟨wb.1, by omega⟩, by omega, by omega⟩, fun v e => ⟨by unfold inL; omega, by unfold inL; omega, fun _ => by rw [e]; exact hp, fun q => absurd ⟨fun _ => by omega, fun _ => wb.1⟩ q⟩⟩
      · have ev : fi T wa (st + k) = body.getD k 0 := by rw [a7 (st + k) (by omega)]; exact hb k (by omega)
        have hb1 : 0 ≤ body.getD k 0 ∧ body.getD k 0 ≤ 700000000 := by
          have : body.getD k 0 = body[k]'(by omega) := by simp [show k < body.length by omega]
          rw [this]; exact hbd _ (List.getElem_mem _)
        rw [show (st : Int) + (k : Int) = ((st + k : Nat) : Int) by omega, Int.toNat_natCast, ev]
        refine ⟨⟨by omega, by omega⟩, by unfold inR; omega, by unfold inR; omega, fun v e => ?_⟩
        have := ih (k + 1) (by omega) (by omega)
        rw [e1, e]; exact this
  exact ⟨body.length + 1, loop _ 0 (by omega) (by omega)⟩
end LOG
