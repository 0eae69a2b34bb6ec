/-! shares; who is burdened -/
theorem cpy_in {α : Type} {f g : Nat → α} {n j : Nat} (h : j < n) : va_cpy f g 0 0 n j = f j := by
  have := pk_cpy_in (f := f) (g := g) (sp := 0) (dp := 0) (n := n) (j := j) (by omega) (by omega)
  rw [this]; congr 1; omega
def WT (R : AR) : Prop := ∀ d, 1 ≤ d → d ≤ R.1 15 0 → R.1 16 d = 3 → R.1 19 d < 100 ∧ R.1 20 d < 100
section SHB
variable {qs : List Nat} {ad : Nat → Nat → Nat} {T : CS} {R : AR}
theorem sp_B_tellShares {post : CS → Prop} (h : BK qs ad T R) (w : WR R) (wn : WNl R) (wt : WT R) {l ta : Nat} {day ent : Int} (l1 : 1 ≤ l) (l2 : l ≤ R.1 7 0) (hd : inR day) (he : inR ent) (t1 : tg T ta = 11) (t2 : ln T ta = 100) (hne : ad 6 l ≠ ta) (hkeep : ∀ T', Tw (fun a => a = ta) T T' → BK qs ad T' R) (hp : ∀ T', Tw (fun a => a = ta) T T' → (∀ p, p < 100 → fi T' ta p = aShare R l p day ent) → post T') : wp_BRg_tellShares post (qa qs 22) l day ent ta T := by
  have w0 := w.1.2.1
  have lt := h.2.2.2.2.2.2.1 l l1 l2
  have tl := h.2.2.2.1.2.1.2.2.2.2.1 l l1 l2
  obtain ⟨s1, s2, s3, s4⟩ := lt.2.2.2.2.1
  have loop : ∀ (n d : Nat) (T1 : CS), R.1 15 0 + 1 - d < n → 1 ≤ d → d ≤ R.1 15 0 + 1 → Tw (fun a => a = ta) T T1 → (∀ p, p < 100 → fi T1 ta p = aSh R l p + oN R l p day ent (d - 1)) → wp_BRg_tellShares_20 post n (qa qs 22) l day ent ta d T1 := by
    intro n
    induction n with
    | zero => intro d T1 hn; omega
    | succ n ih =>
      intro d T1 hn d1 d2 f1 hsh
      have h1 := hkeep T1 f1
      have e1 : (d : Int) + 1 = ((d + 1 : Nat) : Int) := by omega
      unfold wp_BRg_tellShares_20
      refine ⟨h1.1.tag (by omega) rfl, qa qs 23, h1.1.ref (by omega) rfl (by omega), h1.1.tag (by omega) rfl, h1.1.tag (by omega) rfl, ?_⟩
      rw [h1.2.2.2.1.1.2.1]
      refine ⟨by unfold inR; omega, by unfold inR; omega, fun c => hp T1 f1 (fun p hp => ?_), fun c => ?_⟩
      · rw [hsh p hp, show d - 1 = R.1 15 0 by omega]; rfl
      · have dd : d ≤ R.1 15 0 := by omega
        have wd := w.2.2.2.1 d d1 dd
        have td := h1.2.2.2.1.1.2.2.2.2.1 d d1 dd
        have dt := h1.2.2.2.2.2.1 d d1 dd
        have eo : ∀ p, oN R l p day ent (d + 1 - 1) = oN R l p day ent (d - 1) + oT R l p day ent d := by
          intro p
          rw [show d + 1 - 1 = (d - 1) + 1 by omega]
          simp only [oN]
          rw [show d - 1 + 1 = d by omega]
        have nx : ∀ T2, Tw (fun a => a = ta) T T2 → (∀ p, p < 100 → fi T2 ta p = aSh R l p + (oN R l p day ent (d - 1) + oT R l p day ent d)) → wp_BRg_tellShares_103 post (wp_BRg_tellShares_20 post n) (qa qs 22) l day ent ta d T2 := by
          intro T2 f2 q
          unfold wp_BRg_tellShares_103
          rw [e1]
          exact ih (d + 1) T2 (by omega) (by omega) (by omega) f2 (fun p hp => by rw [q p hp, eo])
        have skip : ¬ (R.1 16 d = 3 ∧ R.1 18 d = l ∧ aF R d day ent) → wp_BRg_tellShares_103 post (wp_BRg_tellShares_20 post n) (qa qs 22) l day ent ta d T1 := by
          intro q
          refine nx T1 f1 (fun p hp => ?_)
          have : oT R l p day ent d = 0 := by unfold oT; rw [if_neg q]
          rw [hsh p hp, this, Int.add_zero]
        refine ⟨h1.1.tag (by omega) rfl, sp_B_deed h1 d1 dd ⟨td, ?_⟩⟩
        rw [dt.1]
        refine ⟨by unfold inR; omega, fun c1 => skip (fun q => c1 (by rw [q.1]; rfl)), fun c1 => ⟨td, ad 3 d, dt.2.2.2.1, dt.2.2.2.2.1, ?_⟩⟩
        have k3 : R.1 16 d = 3 := by omega
        have hnm := (wn d d1 dd).2.2.1 (Or.inr k3)
        have hlen : (aNm R d).length = 1 := by rw [hnm]; rfl
        have e0 : fi T1 (ad 3 d) 0 = (R.1 18 d : Int) := by
          rw [dt.2.2.2.2.2.2.1 0 (by omega), hnm]; rfl
        rw [dt.2.2.2.2.2.1, hlen, e0]
        refine ⟨⟨by omega, by omega⟩, by unfold inR; omega, by unfold inR; have := w.1.1; omega, fun c2 => skip (fun q => c2 (by rw [q.2.1])), fun c2 => ⟨h1.1.tag (by omega) rfl, sp_B_isInForce h1 w dd hd he (fun q1 q2 => ⟨inR_lit1, fun r => absurd r (by decide), fun _ => ?_⟩) (fun q => ⟨inR_lit0, fun _ => skip (fun r => q ⟨by omega, r.2.2⟩), fun r => absurd rfl r⟩)⟩⟩
        obtain ⟨x1, x2, x3⟩ := dt.2.2.1 k3
        obtain ⟨y1, y2⟩ := wt d d1 dd k3
        have tta : tg T1 ta = 11 := by rw [f1.1]; exact t1
        have tln : ln T1 ta = 100 := by rw [f1.2.1]; exact t2
        have hdt : ad 0 d ≠ ta := fun q => by rw [q] at td; omega
        refine ⟨td, tta, ?_⟩
        rw [x1, x3, tln, Int.toNat_natCast]
        refine ⟨⟨by omega, by omega⟩, td, tta, ⟨by omega, by omega⟩, fun T2 z2 => ?_⟩
        have f2 : Tw (fun a => a = ta) T1 T2 := by rw [z2]; exact Tw_i rfl
        have td2 : tg T2 (ad 0 d) = 8 := by rw [f2.1]; exact td
        have tta2 : tg T2 ta = 11 := by rw [f2.1]; exact tta
        have tln2 : ln T2 ta = 100 := by rw [f2.2.1]; exact tln
        have x2' : fi T2 (ad 0 d) 4 = (R.1 20 d : Int) := by rw [f2.2.2.2 _ hdt]; exact x2
        have x3' : fi T2 (ad 0 d) 5 = (R.1 21 d : Int) := by rw [f2.2.2.2 _ hdt]; exact x3
        have v2 : ∀ p, fi T2 ta p = if p = R.1 19 d then fi T1 ta (R.1 19 d) - (R.1 21 d : Int) else fi T1 ta p := by
          intro p; rw [z2]
          show (if ta = ta ∧ p = R.1 19 d then _ else fi T1 ta p) = _
          simp
        refine ⟨td2, tta2, ?_⟩
        rw [x2', x3', tln2, Int.toNat_natCast]
        refine ⟨⟨by omega, by omega⟩, td2, tta2, ⟨by omega, by omega⟩, fun T3 z3 => ?_⟩
        have f3 : Tw (fun a => a = ta) T2 T3 := by rw [z3]; exact Tw_i rfl
        have v3 : ∀ p, fi T3 ta p = if p = R.1 20 d then fi T2 ta (R.1 20 d) + (R.1 21 d : Int) else fi T2 ta p := by
          intro p; rw [z3]
          show (if ta = ta ∧ p = R.1 20 d then _ else fi T2 ta p) = _
          simp
        refine nx T3 (Tw_trans f1 (Tw_trans f2 f3)) (fun p hp => ?_)
        have ot : oT R l p day ent d = (if R.1 20 d = p then (R.1 21 d : Int) else 0) - (if R.1 19 d = p then (R.1 21 d : Int) else 0) := by
          unfold oT; rw [if_pos ⟨k3, by omega, q2⟩]
        rw [ot, v3, v2, v2]
        have hs := hsh p hp
        by_cases a1 : p = R.1 20 d
        · rw [if_pos a1]
          by_cases a2 : R.1 20 d = R.1 19 d
          · rw [if_pos a2, if_pos a1.symm, if_pos (by omega), ← a2, ← a1, hs]; omega
          · rw [if_neg a2, if_pos a1.symm, if_neg (by omega), ← a1, hs]; omega
        · rw [if_neg a1]
          by_cases a2 : p = R.1 19 d
          · rw [if_pos a2, if_neg (by omega), if_pos a2.symm, ← a2, hs]; omega
          · rw [if_neg a2, if_neg (by omega), if_neg (by omega), hs]; omega
  unfold wp_BRg_tellShares
  refine ⟨h.1.tag (by omega) rfl, sp_B_lot h l1 l2 ⟨tl, ad 6 l, s1, t1, s2, ?_⟩⟩
  rw [s3, t2]
  refine ⟨⟨⟨by omega, by omega, by omega⟩, by omega, by omega⟩, fun T1 z1 => ⟨R.1 15 0 + 1, ?_⟩⟩
  have f1 : Tw (fun a => a = ta) T T1 := by
    rw [z1]
    refine ⟨fun _ => rfl, fun _ => rfl, fun _ => rfl, fun c hc => ?_⟩
    funext i
    show (if c = ta then _ else fi T c i) = fi T c i
    rw [if_neg hc]
  refine loop (R.1 15 0 + 1) 1 T1 (by omega) (by omega) (by omega) f1 (fun p hp => ?_)
  have : fi T1 ta p = fi T (ad 6 l) p := by
    rw [z1]
    show (if ta = ta then va_cpy (fi T (ad 6 l)) (fi T ta) 0 0 100 p else fi T ta p) = _
    rw [if_pos rfl, cpy_in hp]
  rw [this, s4 p hp]
  simp [oN]
theorem sp_B_shareOf {post : Int → CS → Prop} (hq : qs.Nodup) (hl : qs.length = 30) (h : BK qs ad T R) (w : WR R) (wn : WNl R) (wt : WT R) {l p : Nat} {day ent : Int} (l1 : 1 ≤ l) (l2 : l ≤ R.1 7 0) (hp100 : p < 100) (hd : inR day) (he : inR ent) (hp : ∀ T', Tw (scr qs) T T' → post (aShare R l p day ent) T') : wp_BRg_shareOf post (qa qs 22) l p day ent T := by
  have lt := h.2.2.2.2.2.2.1 l l1 l2
  have sc : scr qs (qa qs 26) := ⟨26, by omega, rfl⟩
  unfold wp_BRg_shareOf
  refine ⟨h.1.tag (by omega) rfl, qa qs 26, h.1.ref (by omega) rfl (by omega), h.1.tag (by omega) rfl, sp_B_tellShares h w wn wt l1 l2 hd he (h.1.tag (by omega) rfl) (h.1.len (by omega) rfl) (fun q => lt.2.2.2.2.2.2.1.2.2 (by rw [q]; exact qa_mem hl (by omega))) (fun T' f => h.tx hq hl (Tw_mono f (fun a q => by rw [q]; exact sc)).tx) (fun T1 f1 g1 => ?_)⟩
  have f1' := Tw_mono f1 (fun a q => show scr qs a by rw [q]; exact sc)
  have h1 := h.tx hq hl f1'.tx
  refine ⟨h1.1.tag (by omega) rfl, qa qs 26, h1.1.ref (by omega) rfl (by omega), h1.1.tag (by omega) rfl, ?_⟩
  rw [h1.1.len (by omega) (show t0_len 26 = 100 from rfl), Int.toNat_natCast, g1 p hp100]
  exact ⟨⟨by omega, by omega⟩, hp T1 f1'⟩
theorem sp_B_haveEqualShares {post : Int → CS → Prop} (hq : qs.Nodup) (hl : qs.length = 30) (h : BK qs ad T R) (w : WR R) (wn : WNl R) (wt : WT R) (wb : WSb R) {a b : Nat} {day : Int} (a1 : 1 ≤ a) (a2 : a ≤ R.1 7 0) (b1 : 1 ≤ b) (b2 : b ≤ R.1 7 0) (hd : inR day) (p1 : ∀ T', Tw (scr qs) T T' → (∀ p, p < 100 → aShare R a p day (R.1 15 0) = aShare R b p day (R.1 15 0)) → post 1 T') (p0 : ∀ T', Tw (scr qs) T T' → ¬ (∀ p, p < 100 → aShare R a p day (R.1 15 0) = aShare R b p day (R.1 15 0)) → post 0 T') : wp_BRg_haveEqualShares post (qa qs 22) a b day T := by
  have w0 := w.1.2.1
  have lta := h.2.2.2.2.2.2.1 a a1 a2
  have ltb := h.2.2.2.2.2.2.1 b b1 b2
  have s26 : scr qs (qa qs 26) := ⟨26, by omega, rfl⟩
  have s27 : scr qs (qa qs 27) := ⟨27, by omega, rfl⟩
  have n67 : qa qs 26 ≠ qa qs 27 := fun q => by have := qa_inj hq hl (i := 26) (j := 27) (by omega) (by omega) q; omega
  unfold wp_BRg_haveEqualShares
  refine ⟨h.1.tag (by omega) rfl, sp_B_lastEntry h ⟨h.1.tag (by omega) rfl, qa qs 26, h.1.ref (by omega) rfl (by omega), h.1.tag (by omega) rfl, sp_B_tellShares h w wn wt a1 a2 hd (by unfold inR; omega) (h.1.tag (by omega) rfl) (h.1.len (by omega) rfl) (fun q => lta.2.2.2.2.2.2.1.2.2 (by rw [q]; exact qa_mem hl (by omega))) (fun T' f => h.tx hq hl (Tw_mono f (fun a q => by rw [q]; exact s26)).tx) (fun T1 f1 g1 => ?_)⟩⟩
  have f1' := Tw_mono f1 (fun a q => show scr qs a by rw [q]; exact s26)
  have h1 := h.tx hq hl f1'.tx
  refine ⟨h1.1.tag (by omega) rfl, sp_B_lastEntry h1 ⟨h1.1.tag (by omega) rfl, qa qs 27, h1.1.ref (by omega) rfl (by omega), h1.1.tag (by omega) rfl, sp_B_tellShares h1 w wn wt b1 b2 hd (by unfold inR; omega) (h1.1.tag (by omega) rfl) (h1.1.len (by omega) rfl) (fun q => ltb.2.2.2.2.2.2.1.2.2 (by rw [q]; exact qa_mem hl (by omega))) (fun T' f => h1.tx hq hl (Tw_mono f (fun a q => by rw [q]; exact s27)).tx) (fun T2 f2 g2 => ⟨101, ?_⟩)⟩⟩
  have f2' := Tw_mono f2 (fun a q => show scr qs a by rw [q]; exact s27)
  have h2 := h1.tx hq hl f2'.tx
  have f12 := Tw_trans f1' f2'
  have g1' : ∀ p, p < 100 → fi T2 (qa qs 26) p = aShare R a p day (R.1 15 0) := fun p hp => by rw [f2.2.2.2 _ n67]; exact g1 p hp
  have loop : ∀ (n k : Nat), 100 - k < n → k ≤ 100 → (∀ p, p < k → aShare R a p day (R.1 15 0) = aShare R b p day (R.1 15 0)) → wp_BRg_haveEqualShares_31 post n (qa qs 22) k T2 := by
    intro n
    induction n with
    | zero => intro k hn; omega
    | succ n ih =>
      intro k hn hk hall
      have e1 : (k : Int) + 1 = ((k + 1 : Nat) : Int) := by omega
      unfold wp_BRg_haveEqualShares_31
      rw [e1, Int.toNat_natCast]
      refine ⟨by unfold inR; omega, fun c => p1 T2 f12 (fun p hp => hall p (by omega)), fun c => ⟨h2.1.tag (by omega) rfl, qa qs 26, h2.1.ref (by omega) rfl (by omega), h2.1.tag (by omega) rfl, ?_⟩⟩
      rw [h2.1.len (by omega) (show t0_len 26 = 100 from rfl)]
      refine ⟨⟨by omega, by omega⟩, h2.1.tag (by omega) rfl, qa qs 27, h2.1.ref (by omega) rfl (by omega), h2.1.tag (by omega) rfl, ?_⟩
      rw [h2.1.len (by omega) (show t0_len 27 = 100 from rfl), g1' k (by omega), g2 k (by omega)]
      refine ⟨⟨by omega, by omega⟩, wb a k day _ a1 a2 (by omega), wb b k day _ b1 b2 (by omega), fun d => ih (k + 1) (by omega) (by omega) (fun p hp => ?_), fun d => p0 T2 f12 (fun q => d (q k (by omega)))⟩
      by_cases r : p = k
      · rw [r]; exact d
      · exact hall p (by omega)
  exact loop 101 0 (by omega) (by omega) (fun p hp => by omega)
/-- the i-th of those that f says, counted from 1 -/
def nthOK (f : Nat → Bool) (n : Nat) (i : Int) (r : Nat) : Prop := (1 ≤ r ∧ r ≤ n ∧ f r = true ∧ ((cntN (fun k => f (k + 1)) (r - 1) : Nat) : Int) = i) ∨ (r = 0 ∧ ∀ r', 1 ≤ r' → r' ≤ n → f r' = true → ((cntN (fun k => f (k + 1)) (r' - 1) : Nat) : Int) ≠ i)
theorem nthOK_uniq {f : Nat → Bool} {n : Nat} {i : Int} {r r' : Nat} (h : nthOK f n i r) (g : nthOK f n i r') : r = r' := by
  have step : ∀ a b, 1 ≤ a → a < b → f a = true → cntN (fun k => f (k + 1)) (a - 1) < cntN (fun k => f (k + 1)) (b - 1) := by
    intro a b a1 hab fa
    have h1 : cntN (fun k => f (k + 1)) (a - 1 + 1) = cntN (fun k => f (k + 1)) (a - 1) + 1 := by
      rw [cntN, if_pos (by rw [show a - 1 + 1 = a by omega]; exact fa)]
    have h2 := cntN_mono (fun k => f (k + 1)) (show a - 1 + 1 ≤ b - 1 by omega)
    omega
  rcases h with ⟨a1, a2, a3, a4⟩ | ⟨a1, a2⟩
  · rcases g with ⟨b1, b2, b3, b4⟩ | ⟨b1, b2⟩
    · rcases Nat.lt_trichotomy r r' with c | c | c
      · have := step r r' a1 c a3; omega
      · exact c
      · have := step r' r b1 c b3; omega
    · exact absurd a4 (b2 r a1 a2 a3)
  · rcases g with ⟨b1, b2, b3, b4⟩ | ⟨b1, b2⟩
    · exact absurd b4 (a2 r' b1 b2 b3)
    · omega
theorem nthOK_none {f : Nat → Bool} {n : Nat} {i : Int} {k : Nat} (hk : n < k) (h : ∀ r', 1 ≤ r' → r' < k → f r' = true → ((cntN (fun k => f (k + 1)) (r' - 1) : Nat) : Int) ≠ i) : nthOK f n i 0 := Or.inr ⟨rfl, fun r' a b c => h r' a (by omega) c⟩
/-- changedBy: ended (12) or begun (11) by an entry -/
theorem sp_B_changedBy {post : Int → CS → Prop} (h : BK qs ad T R) (w : WR R) {en : Nat} (hen : en ≤ 600) (e : Bool) {i : Int} (hi : inR i) (p : ∀ r, nthOK (fun l => decide (en ≠ 0 ∧ R.1 (if e then 12 else 11) l = en)) (R.1 7 0) i r → post (r : Int) T) : wp_BRg_changedBy post (qa qs 22) en (bI e) i T := by
  have w0 := w.1.1
  have Ft : ∀ l, decide (en ≠ 0 ∧ R.1 (if e then 12 else 11) l = en) = true ↔ (en ≠ 0 ∧ R.1 (if e then 12 else 11) l = en) := fun l => decide_eq_true_iff
  generalize hF : (fun l => decide (en ≠ 0 ∧ R.1 (if e then 12 else 11) l = en)) = F at p
  have Ft : ∀ l, F l = true ↔ (en ≠ 0 ∧ R.1 (if e then 12 else 11) l = en) := fun l => by rw [← hF]; exact Ft l
  clear hF
  have loop : ∀ (n l : Nat), R.1 7 0 + 1 - l < n → 1 ≤ l → l ≤ R.1 7 0 + 1 → (∀ r', 1 ≤ r' → r' < l → F r' = true → ((cntN (fun k => F (k + 1)) (r' - 1) : Nat) : Int) ≠ i) → wp_BRg_changedBy_6 post n (qa qs 22) en (bI e) i (cntN (fun k => F (k + 1)) (l - 1) : Nat) l T := by
    intro n
    induction n with
    | zero => intro l hn; omega
    | succ n ih =>
      intro l hn l1 l2 hno
      have e1 : (l : Int) + 1 = ((l + 1 : Nat) : Int) := by omega
      have c0 := cntN_le (fun k => F (k + 1)) (l - 1)
      have cs : cntN (fun k => F (k + 1)) (l + 1 - 1) = cntN (fun k => F (k + 1)) (l - 1) + if F l = true then 1 else 0 := by
        rw [show l + 1 - 1 = (l - 1) + 1 by omega, cntN, show l - 1 + 1 = l by omega]
      unfold wp_BRg_changedBy_6
      refine ⟨h.1.tag (by omega) rfl, qa qs 24, h.1.ref (by omega) rfl (by omega), h.1.tag (by omega) rfl, h.1.tag (by omega) rfl, ?_⟩
      rw [h.2.2.2.1.2.1.2.1]
      refine ⟨by unfold inR; omega, by unfold inR; omega, fun c => p 0 (nthOK_none (k := l) (by omega) hno), fun c => ⟨by unfold inR; omega, fun c2 => p 0 (Or.inr ⟨rfl, fun r' _ _ q => absurd ((Ft r').mp q).1 (by omega)⟩), fun c2 => ?_⟩⟩
      have l3 : l ≤ R.1 7 0 := by omega
      have wl := w.2.2.1 l l1 l3
      have w1 := w.1.2.1
      have tl := h.2.2.2.1.2.1.2.2.2.2.1 l l1 l3
      have lt := h.2.2.2.2.2.2.1 l l1 l3
      have k47 : ∀ x : Nat, x = R.1 (if e then 12 else 11) l → x ≤ 600 → wp_BRg_changedBy_47 post (wp_BRg_changedBy_6 post n) (qa qs 22) en (bI e) i (cntN (fun k => F (k + 1)) (l - 1) : Nat) l x T := by
        intro x hx hx6
        unfold wp_BRg_changedBy_47 wp_BRg_changedBy_67
        rw [e1]
        refine ⟨by unfold inR; omega, by unfold inR; omega, fun d => ?_, fun d => ⟨by unfold inR; omega, hi, fun d2 => ?_, fun d2 => ?_⟩⟩
        · have hf : ¬ F l = true := fun q => d (by rw [hx, ((Ft l).mp q).2])
          rw [if_neg hf, Nat.add_zero] at cs
          have := ih (l + 1) (by omega) (by omega) (by omega) (fun r' a b q => ?_)
          · rw [cs] at this; exact this
          · by_cases r : r' = l
            · rw [r] at q; exact absurd q hf
            · exact hno r' a (by omega) q
        · have hf : F l = true := (Ft l).mpr ⟨by omega, by rw [← hx]; omega⟩
          rw [if_pos hf] at cs
          have := ih (l + 1) (by omega) (by omega) (by omega) (fun r' a b q => ?_)
          · rw [cs] at this; exact this
          · by_cases r : r' = l
            · rw [r]; exact d2
            · exact hno r' a (by omega) q
        · exact p l (Or.inl ⟨l1, l3, (Ft l).mpr ⟨by omega, by rw [← hx]; omega⟩, d2⟩)
      refine ⟨bI_in _, fun d => ⟨h.1.tag (by omega) rfl, sp_B_lot h l1 l3 ⟨tl, ?_⟩⟩, fun d => ⟨h.1.tag (by omega) rfl, sp_B_lot h l1 l3 ⟨tl, ?_⟩⟩⟩
      · rw [lt.2.2.1]
        exact k47 _ (by rw [bI_0.mp d]; rfl) (by omega)
      · rw [lt.2.2.2.1]
        exact k47 _ (by rw [bI_ne.mp d]; rfl) (by omega)
  exact ⟨R.1 7 0 + 1, loop _ 1 (by omega) (by omega) (by omega) (fun r' a b => by omega)⟩
end SHB
