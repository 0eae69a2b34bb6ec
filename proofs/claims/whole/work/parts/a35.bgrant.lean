/-! a grant, a release, the district; deeds made; fullness; the row taken -/
section GRT
variable {qs : List Nat} {ad : Nat → Nat → Nat} {T T' T1 : CS} {R : AR}
theorem rEas_n (R : AR) (g o f i : Nat) : (rEas R g o).1 f i = if f = 28 ∧ i = R.1 25 0 + 1 then o else if f = 27 ∧ i = R.1 25 0 + 1 then 0 else if f = 26 ∧ i = R.1 25 0 + 1 then g else if f = 25 ∧ i = 0 then R.1 25 0 + 1 else R.1 f i := rfl
theorem rEas_o (R : AR) (g o : Nat) {f : Nat} (i : Nat) (hf : f < 25 ∨ 28 < f) : (rEas R g o).1 f i = R.1 f i := by
  rw [rEas_n, if_neg (fun q => by omega), if_neg (fun q => by omega), if_neg (fun q => by omega), if_neg (fun q => by omega)]
theorem rEas_25 (R : AR) (g o : Nat) : (rEas R g o).1 25 0 = R.1 25 0 + 1 := by
  rw [rEas_n, if_neg (fun q => by omega), if_neg (fun q => by omega), if_neg (fun q => by omega), if_pos ⟨rfl, rfl⟩]
theorem sp_B_grant {post : Int → CS → Prop} (hq : qs.Nodup) (hl : qs.length = 30) (h : BK qs ad T R) (he : e20 T) {ov mc ms : Nat} (hbt : ∀ l, 1 ≤ l → l ≤ R.1 7 0 → ln T (ad 7 l) ≤ R.1 25 0 + 1) (hn : R.1 25 0 < 600) (hmc : 2 ≤ mc) (hms : 1003 ≤ ms)
    (hp : ∀ T' ad', BK qs ad' T' (rEas R (R.1 15 0) ov) → Tt T T' → n20 T T' → ad' 9 = ad 9 → ad' 7 = ad 7 → post ((R.1 25 0 + 1 : Nat) : Int) T') : wp_BRg_grant post mc ms (qa qs 22) ov T := by
  have t22 : ∀ {T' R' ad'}, BK qs ad' T' R' → tg T' (qa qs 22) = 5 := fun h => h.1.tag (by omega) rfl
  have r22 : ∀ {T' R' ad'}, BK qs ad' T' R' → fo T' (qa qs 22) 2 = some (qa qs 25) := fun h => h.1.ref (i := 22) (j := 2) (z := 25) (by omega) rfl (by omega)
  unfold wp_BRg_grant
  refine ⟨t22 h, qa qs 25, r22 h, mc - 1, ms - 3, ⟨by omega, by omega⟩, fun q2 T3 h2 y3 => ?_⟩
  have x3 : Tx (fun _ => False) T T3 := by rw [y3]; exact Tx_new _ h2
  have n3 : n20 T T3 := by rw [y3]; exact n20_new (by decide)
  have t3 : tg T3 q2 = 10 := by rw [y3]; exact new_tg _ _ _ _
  have h3 := h.tx hq hl (Tx_mono x3 (fun a f => f.elim))
  refine ⟨t22 h3, sp_B_lastEntry h3 ?_⟩
  unfold wp_BEa_init
  refine ⟨t3, fun T6 y6 => ⟨by rw [y6]; exact t3, fun T8 y8 => ⟨1, 1000, mc - 2, ms - 1003, ⟨by omega, by omega⟩, ?_⟩⟩⟩
  have w8 : Tw (fun a => a = q2) T3 T8 := by rw [y8, y6]; exact Tw_trans (Tw_i rfl) (Tw_i rfl)
  have x8 : Tx (fun _ => False) T T8 := Tx_fresh x3 h2 w8
  have h8 := h.tx hq hl (Tx_mono x8 (fun a f => f.elim))
  have n8 : n20 T T8 := n20_trans n3 (n20_tw w8)
  refine ⟨h8.2.2.2.1.2.2.1, sp_B_addeas (g := R.1 15 0) (ov := ov) hq hl h8 (he.n n8) ⟨by rw [w8.1]; exact t3, ?_, ?_, ?_⟩ ?_ ?_ hn (by omega) (by omega) (fun T' ad' k1 k2 k3 k4 => ?_)⟩
  · rw [y8, cs_i_fi, if_neg (by omega), y6, cs_i_fi, if_pos ⟨rfl, rfl⟩]
  · rw [y8, cs_i_fi, if_pos ⟨rfl, rfl⟩]
  · rw [y8, cs_i_fi, if_neg (by omega), y6, cs_i_fi, if_neg (by omega), y3]; exact new_fi _ _ _ _ _
  · intro e e1 e2 f
    have := h.2.2.2.1.2.2.2.2.2.2.1 e e1 e2
    rw [f, h2] at this; omega
  · intro l l1 l2
    rw [(x8 (ad 7 l) (by rw [h.t7 l1 l2]; omega)).2.1]; exact hbt l l1 l2
  · refine ⟨t22 k1, qa qs 25, r22 k1, k1.2.2.2.1.2.2.1, k1.2.2.2.1.2.2.1, ?_⟩
    rw [k1.2.2.2.1.2.2.2.1, rEas_25]
    exact hp T' ad' k1 (Ty_trans (x8.ty (Po := fun _ => False)).tt k2.tt) (n20_trans n8 k3) (k4 9 (by omega) (by omega)) (k4 7 (by omega) (by omega))
theorem sp_B_endEas {post : Int → CS → Prop} (h : BK qs ad T R) {e : Nat} (e1 : 1 ≤ e) (e2 : e ≤ R.1 25 0) (hp : ∀ T', Tw (fun a => a = ad 2 e) T T' → BK qs ad T' (rN R [(27, e, R.1 15 0)]) → post (R.1 15 0 : Int) T') : wp_BRg_endEasement post (qa qs 22) e T := by
  have t22 : ∀ {T' R'}, BK qs ad T' R' → tg T' (qa qs 22) = 5 := fun h => h.1.tag (by omega) rfl
  unfold wp_BRg_endEasement
  refine ⟨t22 h, sp_B_easement h e1 e2 ⟨t22 h, sp_B_lastEntry h ⟨h.2.2.2.1.2.2.2.2.2.2.1 e e1 e2, fun T5 y5 => ?_⟩⟩⟩
  have h5 : BK qs ad T5 (rN R [(27, e, R.1 15 0)]) := by rw [y5]; exact h.rel e1 e2
  exact ⟨t22 h5, sp_B_lastEntry h5 (hp T5 (by rw [y5]; exact Tw_i rfl) h5)⟩
theorem sp_B_found {post : CS → Prop} (hq : qs.Nodup) (hl : qs.length = 30) (h : BK qs ad T R) (he : e20 T) {va vb cap mc ms : Nat} {K : List PT} {ih : Nat → Bool} (hr : ptsAt T va vb K cap) (hK : K.length ≤ 60) (h0 : R.1 7 0 = 0) (h25 : R.1 25 0 = 0) (hmc : 10 ≤ mc) (hms : 2000 ≤ ms)
    (hp : ∀ T' ad', BK qs ad' T' (rLotB R 0 0 0 K (fun p => if p = 0 then 5040 else 0) ih) → Tt T T' → n20 T T' → ad' 9 = ad 9 → ln T' (ad' 7 1) = 0 → post T') : wp_BRg_found post mc ms (qa qs 22) va T := by
  have t22 : ∀ {T' R' ad'}, BK qs ad' T' R' → tg T' (qa qs 22) = 5 := fun h => h.1.tag (by omega) rfl
  have r22 : ∀ {T' R' ad'}, BK qs ad' T' R' → fo T' (qa qs 22) 1 = some (qa qs 24) := fun h => h.1.ref (i := 22) (j := 1) (z := 24) (by omega) rfl (by omega)
  unfold wp_BRg_found
  refine ⟨by omega, mc - 1, ms - 100, ⟨by omega, by omega⟩, fun q1 T2 h1 y2 => ?_⟩
  have x2 : Tx (fun _ => False) T T2 := by rw [y2]; exact Tx_new _ h1
  have n2 : n20 T T2 := by rw [y2]; exact n20_new (by decide)
  have t1 : tg T2 q1 = 11 := by rw [y2]; exact new_tg _ _ _ _
  have l1 : ln T2 q1 = 100 := by rw [y2]; exact new_ln _ _ _ _
  refine ⟨t1, ⟨by omega, by rw [l1]; omega⟩, fun T5 y5 => ?_⟩
  have w5 : Tw (fun a => a = q1) T2 T5 := by rw [y5]; exact Tw_i rfl
  have x5 : Tx (fun _ => False) T T5 := Tx_fresh x2 h1 w5
  have n5 : n20 T T5 := n20_trans n2 (n20_tw w5)
  have h5 := h.tx hq hl (Tx_mono x5 (fun a f => f.elim))
  have s5 : ∀ p, fi T5 q1 p = if p = 0 then 5040 else 0 := by
    intro p
    rw [y5, cs_i_fi]
    by_cases c : p = 0
    · rw [if_pos ⟨rfl, c⟩, if_pos c]
    · rw [if_neg (fun f => c f.2), if_neg c, y2]; exact new_fi _ _ _ _ _
  refine ⟨t22 h5, qa qs 24, r22 h5, mc - 2, ms - 105, ⟨by omega, by omega⟩, fun q7 T8 h7 y8 => ⟨2, 62, mc - 4, ms - 167, ⟨by omega, by omega⟩, ?_⟩⟩
  have x8 : Tx (fun _ => False) T5 T8 := by rw [y8]; exact Tx_new _ h7
  have n8 : n20 T5 T8 := by rw [y8]; exact n20_new (by decide)
  have t7 : tg T8 q7 = 9 := by rw [y8]; exact new_tg _ _ _ _
  have z7 : fi T8 q7 4 = 0 := by rw [y8]; exact new_fi _ _ _ _ _
  have x08 := Tx_trans x5 x8
  have hr8 := hr.tx x08 (fun f => f) (fun f => f)
  refine ⟨hr8.1, sp_B_copy hr8 (by omega) (by omega) (by omega) (fun T11 c dd hc hdd x11 n11 p11 => ⟨by omega, mc - 5, ms - 167, ⟨by omega, by omega⟩, fun q17 T18 h17 y18 => ?_⟩)⟩
  have x18 : Tx (fun _ => False) T11 T18 := by rw [y18]; exact Tx_new _ h17
  have n18 : n20 T11 T18 := by rw [y18]; exact n20_new (by decide)
  have t17 : tg T18 q17 = 12 := by rw [y18]; exact new_tg _ _ _ _
  have l17 : ln T18 q17 = 0 := by rw [y18]; exact new_ln _ _ _ _
  have z17 : ∀ i, fi T18 q17 i = 0 := fun i => by rw [y18]; exact new_fi _ _ _ _ _
  have x818 := Tx_trans x11 x18
  have u7 := x818 q7 (by omega)
  have fr : ∀ x, tg T8 x = 0 → tg T x = 0 ∧ x ≠ q7 := fun x hx => ⟨Classical.byContradiction fun f => f (by rw [← (x08 x f).1]; exact hx), fun f => by rw [f, t7] at hx; omega⟩
  have c0 := fr c hc
  have dd0 := fr dd hdd
  have q17n : q17 ≠ q7 := fun f => by
    have := x11 q7 (by omega)
    rw [f] at h17; rw [h17, t7] at this; omega
  have p18 := p11.tx x18 (fun f => f) (fun f => f)
  refine sp_B_loinit (by rw [u7.1]; exact t7) (fun T21 g21 n21 t21 o0 i1 i4 o2 o3 => ⟨1, 1000, mc - 6, ms - 1167, ⟨by omega, by omega⟩, ?_⟩)
  have q7T : tg T q7 = 0 := Classical.byContradiction fun f => f (by rw [← (x5 q7 f).1]; exact h7)
  have x21 : Tx (fun _ => False) T T21 := by
    intro a ha
    obtain ⟨v1, v2, v3, v4⟩ := x08 a ha
    obtain ⟨w1, w2, w3, w4⟩ := x818 a (by rw [v1]; exact ha)
    have hne : a ≠ q7 := fun f => by rw [f] at ha; exact ha q7T
    obtain ⟨z1, z2, z3, z4⟩ := g21 a (by rw [w1, v1]; exact ha)
    exact ⟨by rw [z1, w1, v1], by rw [z2, w2, v2], by rw [z3 hne, w3, v3], fun f => by rw [z4 hne, w4 f, v4 f]⟩
  have h21 := h.tx hq hl (Tx_mono x21 (fun a f => f.elim))
  have n021 : n20 T T21 := n20_trans n5 (n20_trans n8 (n20_trans n11 (n20_trans n18 n21)))
  have p21 : ptsAt T21 c dd K K.length := p18.ty g21 c0.2 dd0.2 c0.2
  have q1n : q1 ≠ q7 := fun f => by rw [← f, w5.1, t1] at h7; omega
  have us : tg T21 q1 = 11 ∧ ln T21 q1 = 100 ∧ ∀ p, fi T21 q1 p = fi T5 q1 p := by
    have a1 := x8 q1 (by rw [w5.1]; omega)
    have a2 := x818 q1 (by rw [a1.1, w5.1]; omega)
    have a3 := g21 q1 (by rw [a2.1, a1.1, w5.1]; omega)
    exact ⟨by rw [a3.1, a2.1, a1.1, w5.1]; exact t1, by rw [a3.2.1, a2.2.1, a1.2.1, w5.2.1]; exact l1, fun p => by rw [a3.2.2.2 q1n, a2.2.2.2 (fun f => f), a1.2.2.2 (fun f => f)]⟩
  have ut := g21 q17 (by omega)
  refine ⟨(h21.2.2.2.1.2.1).1, sp_B_addlot (a := 0) (b := 0) (sh := fun p => if p = 0 then 5040 else 0) (ih := ih) (K := K) (d := 0) hq hl h21 (he.n n021) (ta := q17) (sa := q1) (pa := c) (pb := dd) ⟨t21, o0, p21, i1, by rw [i4, u7.2.2.2 (fun f => f)]; exact z7, ⟨o2, us.1, us.2.1, fun p _ => by rw [us.2.2]; exact s5 p⟩, ⟨o3, by rw [ut.1]; exact t17, by rw [ut.2.1, l17]; omega, fun i => by rw [ut.2.2.2 q17n, z17]; exact b01_0, fun e e1 e2 => by omega⟩, ⟨not_qs hl h.1 (Or.inl c0.1), not_qs hl h.1 (Or.inl dd0.1), not_qs hl h.1 (Or.inl h1)⟩, ?_, ?_⟩ ?_ (fun e e1 e2 => by omega) (by omega) (by omega) (by omega) (fun T' ad' k1 k2 k3 k4 k5 => hp T' ad' k1 (Ty_trans (x21.ty (Po := fun _ => False)).tt k2.tt) (n20_trans n021 k3) (k4 9 (by omega)) ?_)⟩
  · intro f; have q := dd0.1; rw [f] at q; have := h.2.2.2.2.2.2.2.2.2.2.2.1; omega
  · intro f; have q := h1; rw [f] at q; have := h.2.2.2.2.2.2.2.2.2.2.2.1; omega
  · intro l l1 l2 f; omega
  · rw [k5 1, if_pos (by omega), (k2 q17 (by rw [ut.1]; omega)).2.1, ut.2.1]; exact l17
/-- a deed made -/
theorem sp_B_deinit {post : CS → Prop} {o na kd dy b c p : Nat} (h : tg T o = 8) (hp : ∀ T', Ty (fun a => a = o) (fun a => a = o) T T' → n20 T T' → deedIs T' o na kd dy b c p → post T') : wp_BDe_init6 post o kd dy na b c p T := by
  unfold wp_BDe_init6
  refine ⟨h, fun T1 y1 => ⟨by rw [y1]; exact h, fun T2 y2 => ⟨by rw [y2, y1]; exact h, fun T3 y3 => ⟨by rw [y3, y2, y1]; exact h, fun T4 y4 => ⟨by rw [y4, y3, y2, y1]; exact h, fun T5 y5 => ⟨by rw [y5, y4, y3, y2, y1]; exact h, fun T6 y6 => ?_⟩⟩⟩⟩⟩⟩
  refine hp T6 ?_ ?_ ⟨by rw [y6, y5, y4, y3, y2, y1]; exact h, ?_, ?_, ?_, ?_, ?_, ?_⟩
  · rw [y6, y5, y4, y3, y2, y1]
    exact Ty_trans (Ty_trans (Ty_trans (Ty_trans (Ty_trans (Ty_i rfl) (Ty_i rfl)) (Ty_o rfl)) (Ty_i rfl)) (Ty_i rfl)) (Ty_i rfl)
  · rw [y6, y5, y4, y3, y2, y1]; exact n20_tg rfl
  · rw [y6, cs_i_fi, if_neg (by omega), y5, cs_i_fi, if_neg (by omega), y4, cs_i_fi, if_neg (by omega), y3]
    show fi T2 o 0 = _
    rw [y2, cs_i_fi, if_neg (by omega), y1, cs_i_fi, if_pos ⟨rfl, rfl⟩]
  · rw [y6, cs_i_fi, if_neg (by omega), y5, cs_i_fi, if_neg (by omega), y4, cs_i_fi, if_neg (by omega), y3]
    show fi T2 o 1 = _
    rw [y2, cs_i_fi, if_pos ⟨rfl, rfl⟩]
  · rw [y6, y5, y4]
    show fo T3 o 2 = _
    rw [y3, cs_o_fo, if_pos ⟨rfl, rfl⟩]
  · rw [y6, cs_i_fi, if_neg (by omega), y5, cs_i_fi, if_neg (by omega), y4, cs_i_fi, if_pos ⟨rfl, rfl⟩]
  · rw [y6, cs_i_fi, if_neg (by omega), y5, cs_i_fi, if_pos ⟨rfl, rfl⟩]
  · rw [y6, cs_i_fi, if_pos ⟨rfl, rfl⟩]
theorem sp_B_isFull {post : Int → CS → Prop} (h : BK qs ad T R) (w : WR R) {ta ml me kd n : Nat} (ht : tg T ta = 11) (hln : ln T ta + 4 = rsz kd n) (hb : ml ≤ 2 ∧ me ≤ 2 ∧ ln T ta ≤ 100) (p1 : aMuch R ml me kd n → post 1 T) (p0 : ¬ aMuch R ml me kd n → post 0 T) : wp_BLB_isFull post (qa qs 0) ml me ta T := by
  have t0 : tg T (qa qs 0) = 1 := h.1.tag (by omega) rfl
  have r4 : fo T (qa qs 0) 4 = some (qa qs 22) := h.1.ref (i := 0) (j := 4) (z := 22) (by omega) rfl (by omega)
  have r5 : fo T (qa qs 0) 5 = some (qa qs 28) := h.1.ref (i := 0) (j := 5) (z := 28) (by omega) rfl (by omega)
  have t22 : tg T (qa qs 22) = 5 := h.1.tag (by omega) rfl
  have t28 : tg T (qa qs 28) = 6 := h.1.tag (by omega) rfl
  have W := w.1
  unfold wp_BLB_isFull
  unfold aMuch at p1 p0
  refine ⟨t0, qa qs 22, r4, t22, sp_B_lastEntry h ⟨by unfold inR; omega, fun c => p1 (Or.inl (by omega)), fun c => ⟨t0, qa qs 22, r4, t22, sp_B_lotCount h ⟨by unfold inR; omega, fun c2 => p1 (Or.inr (Or.inl (by omega))), fun c2 => ⟨t0, qa qs 22, r4, t22, sp_B_easementCount h ⟨by unfold inR; omega, fun c3 => p1 (Or.inr (Or.inr (Or.inl (by omega)))), fun c3 => ⟨t0, qa qs 28, r5, t28, ?_⟩⟩⟩⟩⟩⟩⟩
  unfold wp_BLg_lengthOf
  rw [h.2.2.2.2.2.2.2.2.1]
  exact ⟨ht, by unfold inR; omega, fun c4 => p0 (by omega), fun c4 => p1 (Or.inr (Or.inr (Or.inr (by omega))))⟩
def ringsB (T : CS) (va : Nat) (Ks : List (List PT)) : Prop := tg T va = 14 ∧ ln T va = Ks.length ∧ ∀ i, i < Ks.length → ∃ a b cap, fo T va i = some a ∧ ptsAt T a b (Ks.getD i []) cap
theorem sp_B_tooMany {post : Int → CS → Prop} {va : Nat} {Ks : List (List PT)} (h : ringsB T va Ks) (h2 : Ks.length ≤ 2) (p1 : (∃ K, K ∈ Ks ∧ 60 < K.length) → post 1 T) (p0 : (∀ K, K ∈ Ks → K.length ≤ 60) → post 0 T) : wp_BLB_haveTooManyCorners post va T := by
  unfold wp_BLB_haveTooManyCorners
  refine ⟨h.1, fun v2 e2 => ⟨Ks.length + 1, ?_⟩⟩
  rw [e2, h.2.1]
  have lp : ∀ (n i : Nat), Ks.length - i < n → i ≤ Ks.length → (∀ j, j < i → (Ks.getD j []).length ≤ 60) → wp_BLB_haveTooManyCorners_7 post n va (Ks.length : Int) (i : Int) T := by
    intro n
    induction n with
    | zero => intro i hm; omega
    | succ n ih =>
      intro i hm hi I
      unfold wp_BLB_haveTooManyCorners_7
      refine ⟨by unfold inR; omega, by unfold inR; omega, fun c => p0 (fun K hK => ?_), fun c => ?_⟩
      · obtain ⟨j, hj, e⟩ := List.mem_iff_getElem.mp hK
        have := I j (by omega)
        rw [← e]; simpa [hj] using this
      · have hi' : i < Ks.length := by omega
        obtain ⟨a, b, cap, r1, r2⟩ := h.2.2 i hi'
        have cp := r2.2.2.2.2.2.1
        refine ⟨h.1, ⟨by omega, by rw [h.2.1]; omega⟩, a, by rw [Int.toNat_natCast]; exact r1, r2.1, ?_⟩
        rw [r2.sz]
        refine ⟨by unfold inR; omega, fun c2 => ?_, fun c2 => p1 ⟨Ks.getD i [], by simp [hi'], by omega⟩⟩
        rw [show (i : Int) + 1 = ((i + 1 : Nat) : Int) by omega]
        refine ih (i + 1) (by omega) (by omega) (fun j hj => ?_)
        by_cases cj : j = i
        · rw [cj]; omega
        · exact I j (by omega)
  exact lp _ 0 (by omega) (by omega) (fun j hj => by omega)
theorem sp_B_takeRow {post : CS → Prop} (hq : qs.Nodup) (hl : qs.length = 30) (h : BK qs ad T R) (hp : ∀ T', Tw (fun a => a = qa qs 1 ∨ a = qa qs 2 ∨ a = qa qs 3 ∨ a = qa qs 4) T T' → BK qs ad T' (rRow R []) → ptsAt T' (qa qs 3) (qa qs 4) (aRow R) 32 → post T') : wp_BLB_takeRow post (qa qs 0) T := by
  have t0 : ∀ {T'}, fixed qs T' → tg T' (qa qs 0) = 1 := fun h => h.tag (by omega) rfl
  have r1 : ∀ {T'}, fixed qs T' → fo T' (qa qs 0) 1 = some (qa qs 3) := fun h => h.ref (i := 0) (j := 1) (z := 3) (by omega) rfl (by omega)
  have r0 : ∀ {T'}, fixed qs T' → fo T' (qa qs 0) 0 = some (qa qs 1) := fun h => h.ref (i := 0) (j := 0) (z := 1) (by omega) rfl (by omega)
  have s3 : spt T (qa qs 3) (qa qs 4) 32 := ⟨h.1.tag (by omega) rfl, h.1.ref (i := 3) (j := 0) (z := 4) (by omega) rfl (by omega), h.1.tag (by omega) rfl, h.1.len (by omega) rfl, by omega⟩
  have ne : ∀ i j, i < 30 → j < 30 → i ≠ j → qa qs i ≠ qa qs j := fun i j hi hj hn f => hn (qa_inj hq hl hi hj f)
  have nsc : ∀ {a}, pab (qa qs 3) (qa qs 4) a → scr qs a := by
    intro a f
    rcases f with f | f
    · exact ⟨3, by omega, f⟩
    · exact ⟨4, by omega, f⟩
  have w32 := h.2.2.1.2.2.2.2.2.1
  unfold wp_BLB_takeRow
  refine ⟨t0 h.1, qa qs 3, r1 h.1, s3.1, sp_clear s3 (fun T2 g2 p2 => ⟨(aRow R).length + 1, ?_⟩)⟩
  have lp : ∀ (n k : Nat) (T3 : CS), (aRow R).length - k < n → k ≤ (aRow R).length → Tw (pab (qa qs 3) (qa qs 4)) T T3 → ptsAt T3 (qa qs 3) (qa qs 4) ((aRow R).take k) 32 → wp_BLB_takeRow_9 post n (qa qs 0) (k : Int) T3 := by
    intro n
    induction n with
    | zero => intro k T3 hm; omega
    | succ n ih =>
      intro k T3 hm hk g3 p3
      have h3 := h.tx hq hl (Tx_mono g3.tx (fun a f => nsc f))
      have R3 := h3.2.2.1
      unfold wp_BLB_takeRow_9
      refine ⟨t0 h3.1, qa qs 1, r0 h3.1, R3.1, ?_⟩
      rw [R3.sz]
      refine ⟨by unfold inR; omega, by unfold inR; omega, fun c => ⟨t0 h3.1, qa qs 1, r0 h3.1, R3.1, sp_clear R3.spt (fun T4 g4 p4 => ?_)⟩, fun c => ⟨t0 h3.1, qa qs 3, r1 h3.1, t0 h3.1, qa qs 1, r0 h3.1, R3.1, sp_at_nat R3 (fun f => by rw [f] at c; simp at c) (by omega) ⟨p3.1, ?_⟩⟩⟩
      · have ek : k = (aRow R).length := by omega
        rw [ek, List.take_length] at p3
        refine hp T4 (Tw_trans (Tw_mono g3 (fun a f => ?_)) (Tw_mono g4 (fun a f => ?_))) (h3.row hq hl g4 p4) (p3.tw g4 ?_ ?_)
        · rcases f with f | f
          · exact Or.inr (Or.inr (Or.inl f))
          · exact Or.inr (Or.inr (Or.inr f))
        · rcases f with f | f
          · exact Or.inl f
          · exact Or.inr (Or.inl f)
        · rintro (f | f)
          · exact ne 3 1 (by omega) (by omega) (by omega) f
          · exact ne 3 2 (by omega) (by omega) (by omega) f
        · rintro (f | f)
          · exact ne 4 1 (by omega) (by omega) (by omega) f
          · exact ne 4 2 (by omega) (by omega) (by omega) f
      · have hk' : k < (aRow R).length := by omega
        refine sp_add p3 (by rw [List.length_take]; omega) (fun T5 g5 p5 => ?_)
        rw [show (k : Int) + 1 = ((k + 1 : Nat) : Int) by omega]
        refine ih (k + 1) T5 (by omega) (by omega) (Tw_trans g3 g5) ?_
        rw [ig_at_getD hk', show (aRow R).getD k (0, 0) = (aRow R)[k] by simp [hk'], ← List.take_succ_eq_append_getElem hk'] at p5
        exact p5
  exact lp _ 0 T2 (by omega) (by omega) g2 (by rw [List.take_zero]; exact p2)
end GRT
