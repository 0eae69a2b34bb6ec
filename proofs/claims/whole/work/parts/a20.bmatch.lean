/-! Joiner -/
section JOI
variable {T : CS}
theorem sp_B_nearest {post : Int → CS → Prop} {a b cap : Nat} {O : List PT} (h : ptsAt T a b O cap) (h0 : O ≠ []) (hO : ∀ p ∈ O, ig_ok p) {x y : PT} (ox : ig_ok x) (oy : ig_ok y) (hp : post (ig_pk (ig_near O x y)) T) : wp_BJo_nearest post a (ig_pk x) (ig_pk y) T := by
  have ok := ig_at_ok hO h0
  have q1 := h.2.2.2.2.2.1
  have okn : ∀ k, k ≤ O.length → ig_ok (ig_nearK O x y k) := by
    intro k
    induction k with
    | zero => intro _; exact oy
    | succ k ih =>
      intro hk
      rw [ig_nearK_succ (by omega)]
      split
      · exact ok k
      · exact ih (by omega)
  have loop : ∀ (n k : Nat), O.length - k < n → k ≤ O.length → wp_BJo_nearest_5 post n a (ig_pk x) (ig_pk (ig_nearK O x y k)) k T := by
    intro n
    induction n with
    | zero => intro k hn; omega
    | succ n ih =>
      intro k hn hk
      have e1 : (k : Int) + 1 = ((k + 1 : Nat) : Int) := by omega
      unfold wp_BJo_nearest_5 wp_BJo_nearest_41
      rw [h.sz, e1]
      refine ⟨h.1, by unfold inR; omega, by unfold inR; omega, fun c => ?_, fun c => ?_⟩
      · have ek : k = O.length := by omega
        subst ek
        rw [ig_nearK_all]; exact hp
      · have nx := ih (k + 1) (by omega) (by omega)
        have hsucc := ig_nearK_succ (x := x) (b := y) (show k < O.length by omega)
        have on := okn k hk
        refine ⟨h.1, sp_at_nat h h0 (by omega) ⟨pkd_R (ok _), pkd_R ox, fun d => ?_, fun d => sp_BPl_lies (ok _) ox on ⟨bI_in _, fun d2 => ?_, fun d2 => ?_⟩⟩⟩
        · rw [hsucc, if_neg (fun f => f.1 ((pkd_inj (ok _) ox).mp d))] at nx; exact nx
        · rw [hsucc, if_neg (fun f => by have := f.2; rw [← ic_lies_eq (ok _) ox on, bI_0.mp d2] at this; cases this)] at nx; exact nx
        · rw [hsucc, if_pos ⟨fun f => d (by rw [f]), by rw [← ic_lies_eq (ok _) ox on]; exact bI_ne.mp d2⟩] at nx; exact nx
  exact ⟨O.length + 1, loop _ 0 (by omega) (by omega)⟩
theorem ig_near_ok {O : List PT} (hO : ∀ p ∈ O, ig_ok p) {x y : PT} (oy : ig_ok y) : ig_ok (ig_near O x y) := by
  have : ∀ (L : List PT) (c : PT), (∀ p ∈ L, ig_ok p) → ig_ok c → ig_ok (L.foldl (fun nr c => if c ≠ x ∧ im_on x nr c = true then c else nr) c) := by
    intro L
    induction L with
    | nil => intro c _ hc; exact hc
    | cons d L ih =>
      intro c hL hc
      rw [List.foldl_cons]
      refine ih _ (fun p hp => hL p (by simp [hp])) ?_
      split
      · exact hL d (by simp)
      · exact hc
  exact this O y hO oy
theorem sp_B_refine {post : CS → Prop} {a b cap oa ob capO ta tb : Nat} {l O : List PT} (h : ptsAt T a b l cap) (g : ptsAt T oa ob O capO) (t : spt T ta tb 120) (n1 : a ≠ ta) (n2 : b ≠ tb) (n3 : oa ≠ ta) (n4 : ob ≠ tb) (h0 : l ≠ []) (o0 : O ≠ []) (hl : ∀ p ∈ l, ig_ok p) (hO : ∀ p ∈ O, ig_ok p) (hlen : (ig_refine l O).length ≤ 120) (h60 : O.length ≤ 60)
    (hp : ∀ T', Tw (pab ta tb) T T' → ptsAt T' ta tb (ig_refine l O) 120 → post T') : wp_BJo_refine post a oa ta T := by
  have okl := ig_at_ok hl h0
  have q1 := h.2.2.2.2.2.1
  have q2 := g.2.2.2.2.2.1
  have ho := pts_out h t n1 n2
  have go := pts_out g t n3 n4
  -- one side
  have l33 : ∀ (k6 : Nat → Nat → Nat → Int → CS → Prop) (i : Nat) (L0 : List PT), (∀ T2, Tw (pab ta tb) T T2 → ptsAt T2 ta tb (L0 ++ ig_rs O (O.length + 1) (ig_at l i) (ig_at l (i + 1))) 120 → k6 a oa ta ((i : Int) + 1) T2) → (L0 ++ ig_rs O (O.length + 1) (ig_at l i) (ig_at l (i + 1))).length ≤ 120 →
      ∀ (n k : Nat) (x : PT) (L1 : List PT) (T1 : CS), O.length + 2 - k < n → k ≤ O.length + 1 → ig_ok x → Tw (pab ta tb) T T1 → ptsAt T1 ta tb L1 120 → L1 ++ ig_rs O (O.length + 1 - k) x (ig_at l (i + 1)) = L0 ++ ig_rs O (O.length + 1) (ig_at l i) (ig_at l (i + 1)) → wp_BJo_refine_33 post k6 n a oa ta i (ig_pk (ig_at l (i + 1))) (ig_pk x) k T1 := by
    intro k6 i L0 hk6 hL n
    induction n with
    | zero => intro k x L1 T1 hn; omega
    | succ n ih =>
      intro k x L1 T1 hn hk ox f1 g1 heq
      have e1 : (k : Int) + 1 = ((k + 1 : Nat) : Int) := by omega
      have gO := g.tw f1 go.1 go.2
      have fin : ig_rs O (O.length + 1 - k) x (ig_at l (i + 1)) = [] → wp_BJo_refine_71 post k6 a oa ta i T1 := by
        intro q
        unfold wp_BJo_refine_71
        rw [q, List.append_nil] at heq
        exact hk6 T1 f1 (by rw [← heq]; exact g1)
      unfold wp_BJo_refine_33
      rw [gO.sz, e1]
      refine ⟨gO.1, by unfold inR; omega, by unfold inR; omega, fun c => fin ?_, fun c => ⟨pkd_R ox, pkd_R (okl _), fun d => fin ?_, fun d => ?_⟩⟩
      · rw [show O.length + 1 - k = 0 by omega]; rfl
      · rw [(pkd_inj ox (okl _)).mp d]; exact ig_rs_nil _ _ _
      · have hne : x ≠ ig_at l (i + 1) := fun f => d (by rw [f])
        obtain ⟨m, hm⟩ : ∃ m, O.length + 1 - k = m + 1 := ⟨O.length - k, by omega⟩
        rw [hm, ig_rs, if_neg hne] at heq
        have hl1 : L1.length < 120 := by
          have := congrArg List.length heq
          simp only [List.length_append, List.length_cons] at this
          simp only [List.length_append] at hL
          omega
        refine ⟨g1.1, sp_add g1 hl1 (fun T2 f2 g2 => ?_)⟩
        have f12 := Tw_trans f1 f2
        refine sp_B_nearest (g.tw f12 go.1 go.2) o0 hO ox (okl _) (ih (k + 1) _ (L1 ++ [x]) T2 (by omega) (by omega) (ig_near_ok hO (okl _)) f12 g2 ?_)
        rw [show O.length + 1 - (k + 1) = m by omega, List.append_assoc, List.singleton_append]
        exact heq
  have l6 : ∀ (n k : Nat) (T1 : CS), l.length - k < n → k ≤ l.length → Tw (pab ta tb) T T1 → ptsAt T1 ta tb ((List.range k).flatMap (fun i => ig_rs O (O.length + 1) (ig_at l i) (ig_at l (i + 1)))) 120 → wp_BJo_refine_6 post n a oa ta k T1 := by
    intro n
    induction n with
    | zero => intro k T1 hn; omega
    | succ n ih =>
      intro k T1 hn hk f1 g1
      have hh := h.tw f1 ho.1 ho.2
      have e1 : (k : Int) + 1 = ((k + 1 : Nat) : Int) := by omega
      unfold wp_BJo_refine_6
      rw [hh.sz, e1]
      refine ⟨hh.1, by unfold inR; omega, by unfold inR; omega, fun c => ?_, fun c => ?_⟩
      · have ek : k = l.length := by omega
        subst ek
        exact hp T1 f1 g1
      · have ef : (List.range (k + 1)).flatMap (fun i => ig_rs O (O.length + 1) (ig_at l i) (ig_at l (i + 1))) = (List.range k).flatMap (fun i => ig_rs O (O.length + 1) (ig_at l i) (ig_at l (i + 1))) ++ ig_rs O (O.length + 1) (ig_at l k) (ig_at l (k + 1)) := by
          rw [List.range_succ, List.flatMap_append, List.flatMap_singleton]
        refine ⟨hh.1, sp_at_nat hh h0 (by omega) ⟨hh.1, sp_at_nat hh h0 (by omega) ⟨O.length + 3, l33 _ k _ (fun T2 f2 g2 => ?_) ?_ _ 0 (ig_at l k) _ T1 (by omega) (by omega) (okl k) f1 g1 rfl⟩⟩⟩
        · rw [e1]
          exact ih (k + 1) T2 (by omega) (by omega) f2 (by rw [ef]; exact g2)
        · rw [← ef]
          refine Nat.le_trans ?_ hlen
          unfold ig_refine
          have e9 : List.range l.length = List.range (k + 1) ++ (List.range (l.length - (k + 1))).map (fun x => (k + 1) + x) := by
            rw [← List.range_add]; congr 1; omega
          rw [e9, List.flatMap_append, List.length_append]
          omega
  unfold wp_BJo_refine
  refine ⟨t.1, sp_clear t (fun T1 f1 g1 => ⟨l.length + 1, l6 _ 0 T1 (by omega) (by omega) f1 g1⟩)⟩
def joAt (T : CS) (jo la lb ra rb ma oa ob za zb : Nat) : Prop := tg T jo = 4 ∧ fo T jo 0 = some la ∧ fo T jo 1 = some ra ∧ fo T jo 2 = some ma ∧ fo T jo 3 = some oa ∧ fo T jo 4 = some za ∧ spt T la lb 120 ∧ spt T ra rb 120 ∧ (tg T ma = 11 ∧ ln T ma = 120) ∧ spt T oa ob 240 ∧ spt T za zb 240
theorem joAt.tw {P : Nat → Prop} {T T' : CS} {jo la lb ra rb ma oa ob za zb : Nat} (h : joAt T jo la lb ra rb ma oa ob za zb) (g : Tw P T T') : joAt T' jo la lb ra rb ma oa ob za zb := by
  obtain ⟨h1, h2, h3, h4, h5, h6, h7, h8, h9, h10, h11⟩ := h
  exact ⟨by rw [g.1]; exact h1, by rw [g.2.2.1]; exact h2, by rw [g.2.2.1]; exact h3, by rw [g.2.2.1]; exact h4, by rw [g.2.2.1]; exact h5, by rw [g.2.2.1]; exact h6, h7.tw g, h8.tw g, ⟨by rw [g.1]; exact h9.1, by rw [g.2.1]; exact h9.2⟩, h10.tw g, h11.tw g⟩
/-- where a corner of L is found in R -/
def mtc (R : List PT) (p : PT) (v : Int) : Prop := (∃ j : Nat, j < R.length ∧ ig_at R j = p ∧ v = j) ∨ (p ∉ R ∧ v = -1)
theorem mtc_in {R : List PT} {p : PT} {v : Int} (h : mtc R p v) (hl : R.length ≤ 1000) : inR v := by
  rcases h with ⟨j, a, _, e⟩ | ⟨_, e⟩
  · rw [e]; unfold inR; omega
  · rw [e]; exact ⟨by decide, by decide⟩
variable {jo la lb ra rb ma oa ob za zb : Nat} {L R : List PT}
theorem sp_B_match {post : Int → CS → Prop} (h : joAt T jo la lb ra rb ma oa ob za zb) (hL : ptsAt T la lb L 120) (hR : ptsAt T ra rb R 120) (nl : ma ≠ lb) (nr : ma ≠ rb) (l0 : L ≠ []) (r0 : R ≠ []) (okL : ∀ p ∈ L, ig_ok p) (okR : ∀ p ∈ R, ig_ok p) (hp : ∀ T', Tw (fun a => a = ma) T T' → (∀ i, i < L.length → mtc R (ig_at L i) (fi T' ma i)) → post (cntN (mg_cp L R) L.length : Nat) T') : wp_BJo_matchCorners post jo T := by
  have oL := ig_at_ok okL l0
  have oR := ig_at_ok okR r0
  have c1 := hL.2.2.2.2.2.1
  have c2 := hR.2.2.2.2.2.1
  have out : ∀ T1, Tw (fun a => a = ma) T T1 → ptsAt T1 la lb L 120 ∧ ptsAt T1 ra rb R 120 ∧ joAt T1 jo la lb ra rb ma oa ob za zb := by
    intro T1 f
    have e1 : ∀ x, tg T x = 2 → ¬ (x = ma) := fun x hx q => by rw [q] at hx; have := h.2.2.2.2.2.2.2.2.1.1; omega
    exact ⟨hL.tw f (e1 la hL.1) (Ne.symm nl), hR.tw f (e1 ra hR.1) (Ne.symm nr), h.tw f⟩
  have inner : ∀ (k4 : Nat → Int → Int → CS → Prop) (i : Nat) (v : Int), i < L.length → (∀ T2, Tw (fun a => a = ma) T T2 → (∀ i', i' ≤ i → mtc R (ig_at L i') (fi T2 ma i')) → (ig_at L i ∈ R → k4 jo (v + 1) ((i : Int) + 1) T2) ∧ (ig_at L i ∉ R → k4 jo v ((i : Int) + 1) T2)) →
      ∀ (n j : Nat) (T1 : CS), R.length - j < n → j ≤ R.length → Tw (fun a => a = ma) T T1 → (∀ i', i' < i → mtc R (ig_at L i') (fi T1 ma i')) → ((∃ j' : Nat, j' < j ∧ ig_at R j' = ig_at L i ∧ fi T1 ma i = j') ∨ ((∀ j', j' < j → ig_at R j' ≠ ig_at L i) ∧ fi T1 ma i = -1)) → wp_BJo_matchCorners_24 post k4 n jo v i j T1 := by
    intro k4 i v hi hk n
    induction n with
    | zero => intro j T1 hn; omega
    | succ n ih =>
      intro j T1 hn hj f1 hpre hcur
      have hnn : ¬ (R.length : Int) ≤ (j : Int) → R.length - (j + 1) < n ∧ j + 1 ≤ R.length := by clear hcur; omega
      obtain ⟨tL, tR, tJ⟩ := out T1 f1
      have e1 : (j : Int) + 1 = ((j + 1 : Nat) : Int) := by omega
      unfold wp_BJo_matchCorners_24
      refine ⟨tJ.1, ra, tJ.2.2.1, tR.1, ?_⟩
      rw [tR.sz]
      refine ⟨by unfold inR; clear hcur; omega, by unfold inR; clear hcur; omega, fun c => ⟨tJ.1, ma, tJ.2.2.2.1, tJ.2.2.2.2.2.2.2.2.1.1, ?_⟩, fun c => ⟨tJ.1, la, tJ.2.1, tL.1, ?_⟩⟩
      · rw [tJ.2.2.2.2.2.2.2.2.1.2, Int.toNat_natCast]
        have hm : mtc R (ig_at L i) (fi T1 ma i) := by
          rcases hcur with ⟨j', a, b, d⟩ | ⟨a, d⟩
          · exact Or.inl ⟨j', by omega, b, d⟩
          · refine Or.inr ⟨fun q => ?_, d⟩
            obtain ⟨x, hx, ex⟩ := ig_mem_at q
            exact a x (by omega) ex
        have hall : ∀ i', i' ≤ i → mtc R (ig_at L i') (fi T1 ma i') := by
          intro i' hi'
          by_cases q : i' = i
          · rw [q]; exact hm
          · exact hpre i' (by omega)
        obtain ⟨k1, k2⟩ := hk T1 f1 hall
        unfold wp_BJo_matchCorners_79
        clear hcur
        refine ⟨⟨by omega, by omega⟩, mtc_in hm (by omega), fun d => k2 (fun q => ?_), fun d => k1 ?_⟩
        · rcases hm with ⟨x, _, _, ex⟩ | ⟨f, _⟩
          · omega
          · exact f q
        · rcases hm with ⟨x, hx, ex, _⟩ | ⟨_, ex⟩
          · rw [← ex]; exact ig_at_mem r0 x
          · omega
      · have hnn := hnn c
        refine sp_at_nat tL l0 (by clear hcur; omega) ⟨tJ.1, ra, tJ.2.2.1, tR.1, sp_at_nat tR r0 (by clear hcur; omega) ⟨pkd_R (oL _), pkd_R (oR _), fun d => ?_, fun d => ⟨tJ.1, ma, tJ.2.2.2.1, tJ.2.2.2.2.2.2.2.2.1.1, ?_⟩⟩⟩
        · unfold wp_BJo_matchCorners_61
          rw [e1]
          refine ih (j + 1) T1 hnn.1 hnn.2 f1 hpre ?_
          rcases hcur with ⟨j', a, b, q⟩ | ⟨a, q⟩
          · exact Or.inl ⟨j', Nat.lt_succ_of_lt a, b, q⟩
          · refine Or.inr ⟨fun j' hj' => ?_, q⟩
            by_cases r : j' = j
            · rw [r]; exact fun f => d (by rw [f])
            · exact a j' (Nat.lt_of_le_of_ne (Nat.le_of_lt_succ hj') r)
        · rw [tJ.2.2.2.2.2.2.2.2.1.2, Int.toNat_natCast]
          refine ⟨⟨by omega, by clear hcur; omega⟩, fun T2 y2 => ?_⟩
          have f2 : Tw (fun a => a = ma) T1 T2 := by rw [y2]; exact Tw_i rfl
          have z : ∀ t, fi T2 ma t = if t = i then (j : Int) else fi T1 ma t := by
            intro t; rw [y2]
            show (if ma = ma ∧ t = i then (j : Int) else fi T1 ma t) = _
            simp
          unfold wp_BJo_matchCorners_61
          rw [e1]
          refine ih (j + 1) T2 hnn.1 hnn.2 (Tw_trans f1 f2) (fun i' hi' => ?_) (Or.inl ⟨j, Nat.lt_succ_self j, ((pkd_inj (oL _) (oR _)).mp d).symm, by rw [z, if_pos rfl]⟩)
          rw [z, if_neg (Nat.ne_of_lt hi')]; exact hpre i' hi'
  have loop : ∀ (n k : Nat) (T1 : CS), L.length - k < n → k ≤ L.length → Tw (fun a => a = ma) T T1 → (∀ i', i' < k → mtc R (ig_at L i') (fi T1 ma i')) → wp_BJo_matchCorners_4 post n jo (cntN (mg_cp L R) k : Nat) k T1 := by
    intro n
    induction n with
    | zero => intro k T1 hn; omega
    | succ n ih =>
      intro k T1 hn hk f1 hpre
      obtain ⟨tL, tR, tJ⟩ := out T1 f1
      have e1 : (k : Int) + 1 = ((k + 1 : Nat) : Int) := by omega
      unfold wp_BJo_matchCorners_4
      refine ⟨tJ.1, la, tJ.2.1, tL.1, ?_⟩
      rw [tL.sz]
      refine ⟨by unfold inR; omega, by unfold inR; omega, fun c => ?_, fun c => ⟨tJ.1, ma, tJ.2.2.2.1, tJ.2.2.2.2.2.2.2.2.1.1, ?_⟩⟩
      · have ek : k = L.length := by omega
        subst ek
        exact hp T1 f1 hpre
      · rw [tJ.2.2.2.2.2.2.2.2.1.2, Int.toNat_natCast]
        refine ⟨⟨by omega, by omega⟩, fun T2 y2 => ⟨R.length + 1, ?_⟩⟩
        have f2 : Tw (fun a => a = ma) T1 T2 := by rw [y2]; exact Tw_i rfl
        have z : ∀ t, fi T2 ma t = if t = k then -1 else fi T1 ma t := by
          intro t; rw [y2]
          show (if ma = ma ∧ t = k then -1 else fi T1 ma t) = _
          simp
        refine inner _ k _ (by omega) (fun T3 f3 hall => ⟨fun q => ?_, fun q => ?_⟩) _ 0 T2 (by omega) (by omega) (Tw_trans f1 f2) (fun i' hi' => by rw [z, if_neg (by omega)]; exact hpre i' hi') (Or.inr ⟨fun j' hj' => by omega, by rw [z, if_pos rfl]⟩)
        · have e5 : cntN (mg_cp L R) (k + 1) = cntN (mg_cp L R) k + 1 := by
            have : mg_cp L R k = true := by unfold mg_cp; exact decide_eq_true q
            rw [cntN, if_pos this]
          rw [e1]
          have := ih (k + 1) T3 (by omega) (by omega) f3 (fun i' hi' => hall i' (by omega))
          rw [e5] at this; exact this
        · have e5 : cntN (mg_cp L R) (k + 1) = cntN (mg_cp L R) k := by
            have : mg_cp L R k = false := by unfold mg_cp; exact decide_eq_false q
            rw [cntN, if_neg (by rw [this]; decide), Nat.add_zero]
          rw [e1]
          have := ih (k + 1) T3 (by omega) (by omega) f3 (fun i' hi' => hall i' (by omega))
          rw [e5] at this; exact this
  exact ⟨L.length + 1, loop _ 0 T (by omega) (by omega) (Tw_refl _ _) (fun i' hi' => by omega)⟩
theorem sp_B_common {post : Int → CS → Prop} (h : joAt T jo la lb ra rb ma oa ob za zb) (hL : ptsAt T la lb L 120) (hR : ptsAt T ra rb R 120) (l0 : L ≠ []) (r0 : R ≠ []) (nR : R.Nodup) (hm : ∀ i, i < L.length → mtc R (ig_at L i) (fi T ma i)) {s : Int} {i : Nat} (hs : inR s ∧ inR (s + 1)) (hsi : s % (L.length : Int) = ((i % L.length : Nat) : Int)) (hsi1 : (s + 1) % (L.length : Int) = (((i + 1) % L.length : Nat) : Int)) (p1 : mg_cs L R i = true → post 1 T) (p0 : mg_cs L R i = false → post 0 T) : wp_BJo_isCommon post jo s T := by
  have c1 := hL.2.2.2.2.2.1
  have c2 := hR.2.2.2.2.2.1
  have hnL : 0 < L.length := List.length_pos_iff.mpr l0
  have hnR : 0 < R.length := List.length_pos_iff.mpr r0
  have x1 : i % L.length < L.length := Nat.mod_lt _ hnL
  have x2 : (i + 1) % L.length < L.length := Nat.mod_lt _ hnL
  have m1 := hm _ x1
  have m2 := hm _ x2
  rw [ig_at_mod] at m1 m2
  have no : (¬ ∃ j, j < R.length ∧ ig_at R j = ig_at L (i + 1) ∧ ig_at R (j + 1) = ig_at L i) → post 0 T := by
    intro f
    refine p0 ?_
    cases e : mg_cs L R i with
    | false => rfl
    | true => exact absurd (mg_cs_iff.mp e) f
  unfold wp_BJo_isCommon
  refine ⟨h.1, ma, h.2.2.2.1, h.1, la, h.2.1, hL.1, ?_⟩
  rw [hL.sz]
  refine sp_BMa_fmod hs.1 (by omega) ⟨h.2.2.2.2.2.2.2.2.1.1, ?_⟩
  rw [hsi, h.2.2.2.2.2.2.2.2.1.2, Int.toNat_natCast]
  refine ⟨⟨by omega, by omega⟩, fun v2 e2 => ⟨h.1, ma, h.2.2.2.1, h.1, la, h.2.1, hL.1, ?_⟩⟩
  rw [hL.sz]
  refine sp_BMa_fmod hs.2 (by omega) ⟨h.2.2.2.2.2.2.2.2.1.1, ?_⟩
  rw [hsi1, h.2.2.2.2.2.2.2.2.1.2, Int.toNat_natCast]
  refine ⟨⟨by omega, by omega⟩, fun v3 e3 => ?_⟩
  rw [← e2] at m1
  rw [← e3] at m2
  refine ⟨mtc_in m1 (by omega), fun d => no (fun ⟨j, a, b, c⟩ => ?_), fun d => ⟨mtc_in m2 (by omega), fun d2 => no (fun ⟨j, a, b, c⟩ => ?_), fun d2 => ⟨h.1, ra, h.2.2.1, hR.1, ?_⟩⟩⟩
  · rcases m1 with ⟨x, _, _, ex⟩ | ⟨f, _⟩
    · omega
    · exact f (by rw [← c]; exact ig_at_mem r0 _)
  · rcases m2 with ⟨x, _, _, ex⟩ | ⟨f, _⟩
    · omega
    · exact f (by rw [← b]; exact ig_at_mem r0 _)
  · rw [hR.sz]
    have i1 := mtc_in m1 (by omega)
    rcases m1 with ⟨x, hx, ex, vx⟩ | ⟨_, vx⟩
    · rcases m2 with ⟨y, hy, ey, vy⟩ | ⟨_, vy⟩
      · have e5 : (v3 + 1) % (R.length : Int) = (((y + 1) % R.length : Nat) : Int) := by rw [vy]; rfl
        have y1 : (y + 1) % R.length < R.length := Nat.mod_lt _ hnR
        rw [e5]
        have uq : ∀ j, j < R.length → ig_at R j = ig_at L (i + 1) → j = y := by
          intro j hj ej
          have := ig_at_inj nR r0 (ej.trans ey.symm)
          rw [Nat.mod_eq_of_lt hj, Nat.mod_eq_of_lt hy] at this; exact this
        refine ⟨⟨by omega, by omega⟩, i1, by unfold inR; omega, fun d3 => no (fun ⟨j, a, b, c⟩ => d3 ?_), fun d3 => p1 (mg_cs_iff.mpr ⟨y, hy, ey, ?_⟩)⟩
        · rw [uq j a b] at c
          have := ig_at_inj nR r0 (c.trans ex.symm)
          rw [Nat.mod_eq_of_lt hx] at this
          rw [vx, this]
        · rw [← ig_at_mod, ← ex]; congr 1; omega
      · omega
    · omega
end JOI
