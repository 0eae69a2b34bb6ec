/-! lots replaced: the whole -/
section RPM
variable {qs : List Nat} {ad : Nat → Nat → Nat} {T T' T1 : CS} {R : AR}
abbrev Tt (T T' : CS) : Prop := Ty (fun _ => True) (fun _ => True) T T'
theorem Ty.tt {Pi Po : Nat → Prop} {T T' : CS} (h : Ty Pi Po T T') : Tt T T' := Ty_mono h (fun _ _ => trivial) (fun _ _ => trivial)
theorem rLotB_n (R : AR) (d a b : Nat) (K : List PT) (sh : Nat → Int) (ih : Nat → Bool) (f i : Nat) : (rLotB R d a b K sh ih).1 f i = if f = 14 ∧ i = R.1 7 0 + 1 then b else if f = 13 ∧ i = R.1 7 0 + 1 then a else if f = 12 ∧ i = R.1 7 0 + 1 then 0 else if f = 11 ∧ i = R.1 7 0 + 1 then d else if f = 7 ∧ i = 0 then R.1 7 0 + 1 else R.1 f i := rfl
theorem rLotB_o (R : AR) (d a b : Nat) (K : List PT) (sh : Nat → Int) (ih : Nat → Bool) {f : Nat} (i : Nat) (hf : f ≠ 7 ∧ (f < 11 ∨ 14 < f)) : (rLotB R d a b K sh ih).1 f i = R.1 f i := by
  rw [rLotB_n, if_neg (fun q => by omega), if_neg (fun q => by omega), if_neg (fun q => by omega), if_neg (fun q => by omega), if_neg (fun q => by omega)]
theorem rLotB_7 (R : AR) (d a b : Nat) (K : List PT) (sh : Nat → Int) (ih : Nat → Bool) : (rLotB R d a b K sh ih).1 7 0 = R.1 7 0 + 1 := by
  rw [rLotB_n, if_neg (fun q => by omega), if_neg (fun q => by omega), if_neg (fun q => by omega), if_neg (fun q => by omega), if_pos ⟨rfl, rfl⟩]
theorem sp_B_rpl119 {post : Int → CS → Prop} (hq : qs.Nodup) (hl : qs.length = 30) {sa ta d a b va : Nat} {sh : Nat → Int} {ih : Nat → Bool} {v6 : Int} {Ks : List (List PT)} (hKs : Ks.length ≤ 2) :
    ∀ (n i mc ms : Nat) (ad : Nat → Nat → Nat) (T : CS) (R : AR), Ks.length - i < n → i ≤ Ks.length → BK qs ad T R → e20 T → ringsAt T va Ks → (tg T sa = 11 ∧ ln T sa = 100 ∧ (∀ p, p < 100 → fi T sa p = sh p) ∧ sa ∉ qs ∧ sa ≠ ad 9 0) → (tg T ta = 12 ∧ ln T ta ≤ 300 ∧ (∀ i, b01 (fi T ta i)) ∧ ∀ e, 1 ≤ e → e ≤ R.1 25 0 → (e < ln T ta ∧ fi T ta e ≠ 0 ↔ ih e = true)) → (∀ e, 1 ≤ e → e ≤ R.1 25 0 → R.1 28 e ≤ R.1 7 0) → R.1 7 0 + (Ks.length - i) ≤ 300 → 4 * (Ks.length - i) ≤ mc → 1100 * (Ks.length - i) ≤ ms →
    (∀ T' ad', BK qs ad' T' (rLots d a b sh ih (Ks.drop i) R) → Tt T T' → n20 T T' → ad' 9 = ad 9 → (∀ l, l ≤ R.1 7 0 → ad' 7 l = ad 7 l) → (∀ l, R.1 7 0 < l → l ≤ R.1 7 0 + (Ks.length - i) → ad' 7 l = ta) → post v6 T') → wp_BRg_replaceLots_119 post n mc ms (qa qs 22) d sa ta v6 va (Ks.length : Int) (i : Int) T := by
  intro n
  induction n with
  | zero => intro i mc ms ad T R hm; omega
  | succ n ihn =>
    intro i mc ms ad T R hm hi h he hr hs ht hov h300 hmc hms hp
    unfold wp_BRg_replaceLots_119
    refine ⟨by unfold inR; omega, by unfold inR; omega, fun c => ?_, fun c => ?_⟩
    · have ei : i = Ks.length := by omega
      refine hp T ad ?_ (Ty_refl _ _ _) (n20_refl T) rfl (fun l _ => rfl) (fun l a b => by omega)
      rw [ei, List.drop_length]; exact h
    · have hi' : i < Ks.length := by omega
      obtain ⟨pa, pb, cap, r1, r2, r3⟩ := hr.2.2 i hi'
      refine ⟨hr.1, ⟨by omega, by rw [hr.2.1]; omega⟩, pa, by rw [Int.toNat_natCast]; exact r1, h.1.tag (by omega) rfl, qa qs 24, h.1.ref (i := 22) (j := 1) (z := 24) (by omega) rfl (by omega), mc - 1, ms - 5, ⟨by omega, by omega⟩, fun q3 T4 h3 y4 => ⟨2, 62, mc - 1 - 2, ms - 5 - 62, ⟨by omega, by omega⟩, ?_⟩⟩
      refine sp_B_onelot (post := fun mc' ms' T' => wp_BRg_replaceLots_119 post n mc' ms' (qa qs 22) d sa ta v6 va (Ks.length : Int) ((i : Int) + 1) T') hq hl h he r2 r3 hs ht hov (by omega) (by omega) (by omega) (by omega) (by omega) h3 y4 (a := a) (b := b) (fun T' ad' k1 k2 k3 k4 k5 => ?_)
      have t24 : tg T (qa qs 24) = 7 := h.1.tag (by omega) rfl
      have us := k2 sa (by omega)
      have ut := k2 ta (by omega)
      have ns : sa ≠ qa qs 24 := fun f => by rw [f] at hs; omega
      have nt : ta ≠ qa qs 24 := fun f => by rw [f] at ht; omega
      have e25 := rLotB_o R d a b (Ks.getD i []) sh ih (f := 25) 0 (by omega)
      have e7 := rLotB_7 R d a b (Ks.getD i []) sh ih
      rw [show (i : Int) + 1 = ((i + 1 : Nat) : Int) by omega]
      refine ihn (i + 1) _ _ ad' T' _ (by omega) (by omega) k1 (he.n k3) (hr.ty k2 ?_ ?_ ?_) ?_ ?_ ?_ ?_ (by omega) (by omega) ?_
      · intro x hx
        exact ⟨fun f => by rw [f] at hx; omega, fun f => by rcases f with f | f; rw [f] at hx; omega; omega⟩
      · intro x hx f; rcases f with f | f
        · rw [f] at hx; omega
        · omega
      · intro x _ hx f; rw [f] at hx; omega
      · exact ⟨by rw [us.1]; exact hs.1, by rw [us.2.1]; exact hs.2.1, fun p hp => by rw [us.2.2.2 ns]; exact hs.2.2.1 p hp, hs.2.2.2.1, by rw [k4 9 (by omega)]; exact hs.2.2.2.2⟩
      · refine ⟨by rw [ut.1]; exact ht.1, by rw [ut.2.1]; exact ht.2.1, fun i => by rw [ut.2.2.2 nt]; exact ht.2.2.1 i, fun e e1 e2 => ?_⟩
        rw [ut.2.1, ut.2.2.2 nt]; exact ht.2.2.2 e e1 (by rw [e25] at e2; exact e2)
      · intro e e1 e2
        rw [e25] at e2
        rw [rLotB_o R d a b (Ks.getD i []) sh ih (f := 28) e (by omega), e7]
        have := hov e e1 e2
        omega
      · rw [e7]; omega
      · intro T2 ad2 j1 j2 j3 j4 j5 j6
        rw [e7] at j5 j6
        refine hp T2 ad2 ?_ (Ty_trans k2.tt j2) (n20_trans k3 j3) (by rw [j4, k4 9 (by omega)]) (fun l a => ?_) (fun l a b => ?_)
        · rw [List.drop_eq_getElem_cons hi']
          rw [show Ks.getD i [] = Ks[i] by simp [hi']] at j1
          exact j1
        · rw [j5 l (by omega), k5 l, if_neg (by omega)]
        · by_cases cl : l = R.1 7 0 + 1
          · rw [j5 l (by omega), k5 l, if_pos cl]
          · exact j6 l (by omega) (by omega)
theorem sp_B_rpl67 {post : Int → CS → Prop} {sa ta va na v mc ms : Nat} {ns : List Nat} {Pi : Nat → Prop}  (hP : ∀ x ∈ ns, Pi (ad 1 x)) :
    ∀ (n i : Nat) (T : CS) (R : AR), ns.length - i < n → i ≤ ns.length → BK qs ad T R → nsAt T na ns → (∀ x ∈ ns, 1 ≤ x ∧ x ≤ R.1 7 0) →
    (∀ T', BK qs ad T' (rEnds v (ns.drop i) R) → Ty Pi (fun _ => False) T T' → n20 T T' → tg T' va = 14 ∧ ∃ nn, wp_BRg_replaceLots_119 post nn mc ms (qa qs 22) v sa ta ((R.1 7 0 : Int) + 1) va (ln T' va : Int) 0 T') → wp_BRg_replaceLots_67 post n mc ms (qa qs 22) va v sa ta na (ns.length : Int) (i : Int) T := by
  intro n
  induction n with
  | zero => intro i T R hm; omega
  | succ n ihn =>
    intro i T R hm hi h hn hns hp
    have nl := hn.2.2.1
    unfold wp_BRg_replaceLots_67
    refine ⟨by unfold inR; omega, by unfold inR; omega, fun c => ?_, fun c => ?_⟩
    · have ei : i = ns.length := by omega
      obtain ⟨k1, k2⟩ := hp T (by rw [ei, List.drop_length]; exact h) (Ty_refl _ _ _) (n20_refl T)
      have A := h.2.2.2.1.2.1
      refine ⟨h.1.tag (by omega) rfl, qa qs 24, h.1.ref (i := 22) (j := 1) (z := 24) (by omega) rfl (by omega), A.1, A.1, ?_⟩
      rw [A.2.1]
      exact ⟨k1, fun v8 e8 => by rw [e8]; exact k2⟩
    · have hi' : i < ns.length := by omega
      refine ⟨hn.1, ⟨by omega, by rw [hn.2.1]; omega⟩, fun v9 e9 => ⟨h.1.tag (by omega) rfl, ?_⟩⟩
      have ex : ns.getD i 0 = ns[i] := by simp [hi']
      rw [Int.toNat_natCast, hn.2.2.2.2 i hi', ex] at e9
      have hx := hns _ (List.getElem_mem hi')
      have t9 := h.2.2.2.1.2.1.2.2.2.2.1 ns[i] hx.1 hx.2
      rw [e9]
      refine sp_B_lot h hx.1 hx.2 ⟨t9, fun T8 y8 => ?_⟩
      have g8 : Ty Pi (fun _ => False) T T8 := by rw [y8]; exact Ty_i (hP _ (List.getElem_mem hi'))
      have w8 : Tw (fun a => a = ad 1 ns[i]) T T8 := by rw [y8]; exact Tw_i rfl
      have n8 : n20 T T8 := n20_tw w8
      have nna : na ≠ ad 1 ns[i] := fun f => by have := hn.1; rw [f] at this; omega
      rw [show (i : Int) + 1 = ((i + 1 : Nat) : Int) by omega]
      refine ihn (i + 1) T8 (rN R [(12, ns[i], v)]) (by omega) (by omega) (by rw [y8]; exact h.end hx.1 hx.2) (hn.tx w8.tx nna) hns (fun T2 j1 j2 j3 => ?_)
      have := hp T2 (by rw [List.drop_eq_getElem_cons hi']; exact j1) (Ty_trans g8 j2) (n20_trans n8 j3)
      exact this
/-- the lots that the newest deed names end, others begin -/
theorem sp_B_replace {post : Int → CS → Prop} (hq : qs.Nodup) (hl : qs.length = 30) (h : BK qs ad T R) (w : WR R) (wn : WNl R) (wt : WT R) (he : e20 T) {va mc ms a b : Nat} {Ks : List (List PT)} {ns : List Nat} {ih : Nat → Bool} (hD : 1 ≤ R.1 15 0) (hns : aNm R (R.1 15 0) = ns) (hn0 : ns ≠ []) (hr : ringsAt T va Ks) (hKs : Ks.length ≤ 2) (h300 : R.1 7 0 + Ks.length ≤ 300) (hih : ∀ e, 1 ≤ e → e ≤ R.1 25 0 → (ih e = true ↔ ∃ x, x ∈ ns ∧ aS R e (R.1 17 (R.1 15 0) : Int) ((R.1 15 0 : Int) - 1) ∧ aIh R e x = true)) (hmc : 20 ≤ mc) (hms : 3000 ≤ ms)
    (hp : ∀ T' ad', BK qs ad' T' (rLots (R.1 15 0) a b (fun p => aShare R (ns.headD 0) p (R.1 17 (R.1 15 0) : Int) ((R.1 15 0 : Int) - 1)) ih Ks (rEnds (R.1 15 0) ns R)) → Tt T T' → n20 T T' → ad' 9 = ad 9 → (∀ l, l ≤ R.1 7 0 → ad' 7 l = ad 7 l) → (∀ l, R.1 7 0 < l → l ≤ R.1 7 0 + Ks.length → ln T' (ad' 7 l) = R.1 25 0 + 1) → post ((R.1 7 0 + 1 : Nat) : Int) T') : wp_BRg_replaceLots post mc ms (qa qs 22) va T := by
  have t22 : ∀ {T'}, BK qs ad T' R → tg T' (qa qs 22) = 5 := fun h => h.1.tag (by omega) rfl
  have wD := w.1.2.1
  have wE := w.1.2.2.1
  have hday := (w.2.2.2.1 _ hD (Nat.le_refl _)).2.1
  have dA := h.2.2.2.2.2.1 _ hD (Nat.le_refl _)
  have nA := h.names w wn hD (Nat.le_refl _)
  rw [hns] at nA
  have d8 := h.2.2.2.1.1.2.2.2.2.1 _ hD (Nat.le_refl _)
  have nslots : ∀ x ∈ ns, 1 ≤ x ∧ x ≤ R.1 7 0 := by
    have := (wn _ hD (Nat.le_refl _)).2.1; rw [hns] at this; exact this
  have hlen : 0 < ns.length := List.length_pos_iff.mpr hn0
  have hh0 : ns.getD 0 0 = ns.headD 0 := by cases ns <;> rfl
  have hn1 := nslots (ns.headD 0) (by rw [← hh0]; simp [hlen])
  unfold wp_BRg_replaceLots
  refine ⟨t22 h, sp_B_lastEntry h ⟨t22 h, sp_B_deed h hD (Nat.le_refl _) ⟨by omega, mc - 1, ms - 100, ⟨by omega, by omega⟩, fun q5 T6 h5 y6 => ?_⟩⟩⟩
  have x6 : Tx (fun _ => False) T T6 := by rw [y6]; exact Tx_new _ h5
  have n6 : n20 T T6 := by rw [y6]; exact n20_new (by decide)
  have t5 : tg T6 q5 = 11 := by rw [y6]; exact new_tg _ _ _ _
  have l5 : ln T6 q5 = 100 := by rw [y6]; exact new_ln _ _ _ _
  have h6 := h.tx hq hl (Tx_mono x6 (fun a f => f.elim))
  have dA6 := h6.2.2.2.2.2.1 _ hD (Nat.le_refl _)
  have nA6 := nA.tx x6 (fun f => f)
  have d86 := h6.2.2.2.1.1.2.2.2.2.1 _ hD (Nat.le_refl _)
  refine ⟨d86, ad 3 (R.1 15 0), dA6.2.2.2.1, dA6.2.2.2.2.1, ⟨by omega, by rw [nA6.2.1]; omega⟩, d86, t22 h6, ?_⟩
  rw [nA6.2.2.2.2 0 hlen, dA6.2.1, hh0]
  have q5ne : ∀ x, tg T x ≠ 0 → x ≠ q5 := fun x hx f => by rw [f] at hx; exact hx h5
  refine sp_B_tellShares h6 w wn wt hn1.1 hn1.2 (by unfold inR; omega) (by unfold inR; omega) t5 l5 ?_ (fun T' g => h.tx hq hl (Tx_mono (Tx_fresh x6 h5 g) (fun a f => f.elim))) (fun T10 g10 s10 => ?_)
  · have q := (h.2.2.2.2.2.2.1 _ hn1.1 hn1.2).2.2.2.2.1.2.1
    exact q5ne _ (by omega)
  have x10 : Tx (fun _ => False) T T10 := Tx_fresh x6 h5 g10
  have h10 := h.tx hq hl (Tx_mono x10 (fun a f => f.elim))
  have n10 : n20 T T10 := n20_trans n6 (n20_tw g10)
  have dA10 := h10.2.2.2.2.2.1 _ hD (Nat.le_refl _)
  have nA10 := nA.tx x10 (fun f => f)
  have d810 := h10.2.2.2.1.1.2.2.2.2.1 _ hD (Nat.le_refl _)
  refine ⟨d810, ad 3 (R.1 15 0), dA10.2.2.2.1, d810, 1, 201, mc - 2, ms - 301, ⟨by omega, by omega⟩, t22 h10, ?_⟩
  rw [dA10.2.1]
  refine sp_B_burdensOf hq hl h10 w nA10 nslots (by unfold inR; omega) (by unfold inR; omega) (by omega) (by omega) (fun T13 q hq0 x13 n13 t13 l13 b13 I13 => ?_)
  have x013 : Tx (fun _ => False) T T13 := Tx_trans x10 x13
  have h13 := h.tx hq hl (Tx_mono x013 (fun a f => f.elim))
  have dA13 := h13.2.2.2.2.2.1 _ hD (Nat.le_refl _)
  have nA13 := nA.tx x013 (fun f => f)
  have d813 := h13.2.2.2.1.1.2.2.2.2.1 _ hD (Nat.le_refl _)
  have n013 : n20 T T13 := n20_trans n10 n13
  have u5 := x13 q5 (by rw [g10.1]; omega)
  refine ⟨d813, ad 3 (R.1 15 0), dA13.2.2.2.1, dA13.2.2.2.2.1, fun v7 e7 => ⟨ns.length + 1, ?_⟩⟩
  rw [e7, nA13.2.1]
  refine sp_B_rpl67 (Pi := fun x => ∃ l, 1 ≤ l ∧ l ≤ R.1 7 0 ∧ x = ad 1 l) (fun x hx => ⟨x, (nslots x hx).1, (nslots x hx).2, rfl⟩) (ns.length + 1) 0 T13 R (by omega) (by omega) h13 nA13 nslots (fun T16 k1 k2 k3 => ?_)
  have tP : ∀ x, (∃ l, 1 ≤ l ∧ l ≤ R.1 7 0 ∧ x = ad 1 l) → tg T13 x = 9 := by
    rintro x ⟨l, l1, l2, e⟩
    rw [e]; exact h13.2.2.2.1.2.1.2.2.2.2.1 l l1 l2
  have hr16 : ringsAt T16 va Ks := (hr.ty (Po := fun _ => False) x013.ty (fun a _ => ⟨fun f => f, fun f => f⟩) (fun a _ f => f) (fun a _ _ f => f)).ty k2 (fun a ha => ⟨fun f => by have := tP a f; omega, fun f => f⟩) (fun a _ f => f) (fun a _ ha f => by have := tP a f; omega)
  refine ⟨hr16.1, Ks.length + 1, ?_⟩
  rw [hr16.2.1, show ((0 : Int)) = ((0 : Nat) : Int) by rfl]
  have t513 : tg T13 q5 = 11 := by rw [u5.1, g10.1]; exact t5
  have v5 := k2 q5 (by omega)
  have vt := k2 q (by omega)
  have n5P : ¬ ∃ l, 1 ≤ l ∧ l ≤ R.1 7 0 ∧ q5 = ad 1 l := fun f => by have := tP q5 f; omega
  have ntP : ¬ ∃ l, 1 ≤ l ∧ l ≤ R.1 7 0 ∧ q = ad 1 l := fun f => by have := tP q f; omega
  have e7' : (rEnds (R.1 15 0) ns R).1 7 0 = R.1 7 0 := rEnds_o _ _ _ _ _ (Or.inl (by omega))
  have e25 : (rEnds (R.1 15 0) ns R).1 25 0 = R.1 25 0 := rEnds_o _ _ _ _ _ (Or.inl (by omega))
  refine sp_B_rpl119 (a := a) (b := b) (ih := ih) (sh := fun p => aShare R (ns.headD 0) p (R.1 17 (R.1 15 0) : Int) ((R.1 15 0 : Int) - 1)) hq hl hKs (Ks.length + 1) 0 (mc - 2) (ms - 301) ad T16 _ (by omega) (by omega) (by rw [List.drop_zero] at k1; exact k1) (he.n (n20_trans n013 k3)) hr16 ?_ ?_ ?_ (by rw [e7']; omega) (by omega) (by omega) (fun T' ad' j1 j2 j3 j4 j5 j6 => ?_)
  · refine ⟨by rw [v5.1]; exact t513, by rw [v5.2.1, u5.2.1, g10.2.1]; exact l5, fun p hp => by rw [v5.2.2.2 n5P, u5.2.2.2 (fun f => f)]; exact s10 p hp, not_qs hl h.1 (Or.inl h5), fun f => ?_⟩
    have := h.2.2.2.2.2.2.2.2.2.2.2.1
    rw [← f] at this; omega
  · refine ⟨by rw [vt.1]; exact t13, by rw [vt.2.1, l13]; omega, fun i => by rw [vt.2.2.2 ntP]; exact b13 i, fun e e1 e2 => ?_⟩
    rw [e25] at e2
    rw [vt.2.1, vt.2.2.2 ntP, l13, I13 e e1 e2, hih e e1 e2]
    exact ⟨fun r => r.2, fun r => ⟨by omega, r⟩⟩
  · intro e e1 e2
    rw [e25] at e2
    rw [e7', rEnds_o _ _ _ _ _ (Or.inl (by omega))]
    exact (w.2.2.2.2.1 e e1 e2).2.2.2
  · rw [e7'] at j5 j6
    have := hp T' ad' (by rw [List.drop_zero] at j1; exact j1) (Ty_trans (x013.ty (Po := fun _ => False)).tt (Ty_trans k2.tt j2)) (n20_trans n013 (n20_trans k3 j3)) j4 j5 (fun l a b => by
      have uu := j2 q (by rw [vt.1]; omega)
      rw [j6 l a (by omega), uu.2.1, vt.2.1, l13])
    rw [e7'] at *
    exact this
end RPM
