/-! Cutter.walk, Cutter.cut -/
theorem ig_up {a b p q : PT} {t u : Rat} (oa : ig_ok a) (ob : ig_ok b) (op : ig_ok p) (oq : ig_ok q) (hab : a ≠ b) (hne : p ≠ q) (et : gx_at (ig_c a) (ig_c b) t = ig_c p) (eu : gx_at (ig_c a) (ig_c b) u = ig_c q) : ((ig_pk a < ig_pk b) ↔ (ig_pk p < ig_pk q)) ↔ t < u := by
  rw [← ig_lt_c oa ob, ← ig_lt_c op oq, ← et, ← eu]
  have htu : t ≠ u := by intro f; rw [f] at et; exact hne (ig_c_inj.mp (et.symm.trans eu))
  rcases gx_lt_tri (ig_c a) (ig_c b) with c | c | c
  · rw [gx_lt_at c]
    exact ⟨fun f => f.mp c, fun f => ⟨fun _ => f, fun _ => c⟩⟩
  · exact absurd (ig_c_inj.mp c) hab
  · have hn : ¬ gx_lt (ig_c a) (ig_c b) := fun f => gx_lt_irr (gx_lt_trans f c)
    have e1 : ∀ x, gx_at (ig_c a) (ig_c b) x = gx_at (ig_c b) (ig_c a) (1 - x) := fun x => by rw [gx_at_rev]
    rw [e1 t, e1 u, gx_lt_at c]
    constructor
    · intro f
      have : ¬ (1 - t < 1 - u) := fun g => hn (f.mpr g)
      grind
    · intro f
      refine ⟨fun g => absurd g hn, fun g => ?_⟩
      exfalso; grind
theorem rng_succ {α : Type} (f : Nat → α) (k : Nat) : (List.range (k + 1)).map f = (List.range k).map f ++ [f k] := by
  rw [List.range_succ, List.map_append]; rfl
theorem ig_int_st (K : List PT) (e : Nat) {k : Nat} (h1 : 1 ≤ k) : (List.range (k + 1 - 1)).map (fun k => ig_at K (if true then k + 1 else e - 1 - k)) = (List.range (k - 1)).map (fun k => ig_at K (if true then k + 1 else e - 1 - k)) ++ [ig_at K k] := by
  obtain ⟨k', hk'⟩ : ∃ k', k = k' + 1 := ⟨k - 1, by omega⟩
  subst hk'
  exact rng_succ _ _
theorem ig_int_sf (K : List PT) {e k : Nat} (h1 : 1 ≤ k) (h2 : k ≤ e - 1) : (List.range (e - 1 - (k - 1))).map (fun k => ig_at K (if false then k + 1 else e - 1 - k)) = (List.range (e - 1 - k)).map (fun k => ig_at K (if false then k + 1 else e - 1 - k)) ++ [ig_at K k] := by
  rw [show e - 1 - (k - 1) = (e - 1 - k) + 1 by omega, rng_succ]
  have : e - 1 - (e - 1 - k) = k := by omega
  simp only [this]
  rfl
theorem nd5 {a b c d e : Nat} (h : [a, b, c, d, e].Nodup) : (a ≠ b ∧ a ≠ c ∧ a ≠ d ∧ a ≠ e) ∧ (b ≠ c ∧ b ≠ d ∧ b ≠ e) ∧ (c ≠ d ∧ c ≠ e) ∧ d ≠ e := by
  simp only [List.nodup_cons, List.mem_cons, List.not_mem_nil, or_false, not_or, not_false_eq_true, List.nodup_nil, and_true] at h
  exact h
section WLK
variable {T : CS} {cu pa pb fa fb ga gb ra rb capR ca cb : Nat} {l K : List PT}
def cutAt (T : CS) (cu pa pb fa fb ga gb : Nat) : Prop := tg T cu = 3 ∧ fo T cu 0 = some pa ∧ fo T cu 1 = some fa ∧ fo T cu 2 = some ga ∧ spt T pa pb 92 ∧ spt T fa fb 92 ∧ spt T ga gb 92
theorem cutAt.tw {P : Nat → Prop} {T T' : CS} (h : cutAt T cu pa pb fa fb ga gb) (g : Tw P T T') : cutAt T' cu pa pb fa fb ga gb := by
  obtain ⟨h1, h2, h3, h4, h5, h6, h7⟩ := h
  exact ⟨by rw [g.1]; exact h1, by rw [g.2.2.1]; exact h2, by rw [g.2.2.1]; exact h3, by rw [g.2.2.1]; exact h4, h5.tw g, h6.tw g, h7.tw g⟩
theorem pts_out {a b cap a' b' cap' : Nat} {m : List PT} (h : ptsAt T a b m cap) (g : spt T a' b' cap') (h1 : a ≠ a') (h2 : b ≠ b') : ¬ pab a' b' a ∧ ¬ pab a' b' b := by
  constructor
  · rintro (f | f)
    · exact h1 f
    · have := h.1; rw [f] at this; have := g.2.2.1; omega
  · rintro (f | f)
    · have := h.2.2.1; rw [f] at this; have := g.1; omega
    · exact h2 f
theorem sp_B_walk {post : CS → Prop} (hcu : cutAt T cu pa pb fa fb ga gb) (hr : ptsAt T ra rb l capR) (n1 : ra ≠ pa) (n2 : rb ≠ pb) (h0 : l ≠ []) (hl : ∀ p ∈ l, ig_ok p) (hs : gx_simple (rgn l)) (h60 : l.length ≤ 60) {p q : PT} (op : ig_ok p) (oq : ig_ok q) (hne : p ≠ q) {i j : Nat} (hi : i < l.length) (hj : j < l.length) (hp : ig_half l i p) (hq : ig_half l j q)
    (hpost : ∀ T', Tw (pab pa pb) T T' → ptsAt T' pa pb (p :: (ig_seg l i (ig_m l i j p q)).filter (fun x => decide (x ≠ q)) ++ [q]) 92 → post T') : wp_BCu_walk post cu ra (ig_pk p) (ig_pk q) T := by
  have ok := ig_at_ok hl h0
  have huq := @ig_half_uniq l hs
  have hmle := ig_steps_le (ig_m_steps hs h0 hi hj hp hq hne)
  have hout := pts_out hr hcu.2.2.2.2.1 n1 n2
  have hpo := hcu.2.1
  have q1 := hr.2.2.2.2.2.1
  -- the loop
  have loop : ∀ (n k : Nat) (T1 : CS), ig_m l i j p q + 2 - k < n → 1 ≤ k → k ≤ ig_m l i j p q + 1 → Tw (pab pa pb) T T1 → ptsAt T1 pa pb (p :: (ig_seg l i (k - 1)).filter (fun x => decide (x ≠ q))) 92 → wp_BCu_walk_93 post n cu ra (ig_pk q) i (ig_m l i j p q : Nat) k T1 := by
    intro n
    induction n with
    | zero => intro k T1 hn; omega
    | succ n ih =>
      intro k T1 hn k1 k2 f1 g1
      have hr1 := hr.tw f1 hout.1 hout.2
      have hcu1 := hcu.tw f1
      have e1 : (k : Int) + 1 = ((k + 1 : Nat) : Int) := by omega
      have e2 : (i : Int) + (k : Int) = ((i + k : Nat) : Int) := by omega
      have hlen : (p :: (ig_seg l i (k - 1)).filter (fun x => decide (x ≠ q))).length ≤ k := by
        have := List.length_filter_le (fun x => decide (x ≠ q)) (ig_seg l i (k - 1))
        rw [ig_seg_len] at this
        simp only [List.length_cons]; omega
      unfold wp_BCu_walk_93
      rw [e2]
      refine ⟨by unfold inR; omega, by unfold inR; omega, fun c => ⟨hcu1.1, pa, hcu1.2.1, g1.1, ?_⟩, fun c => ?_⟩
      · have ek : k - 1 = ig_m l i j p q := by omega
        refine sp_add g1 (Nat.lt_of_le_of_lt hlen (by omega)) (fun T2 f2 g2 => hpost T2 (Tw_trans f1 f2) ?_)
        rw [ek] at g2; exact g2
      · have nx : ∀ T2, Tw (pab pa pb) T T2 → ptsAt T2 pa pb (p :: (ig_seg l i k).filter (fun x => decide (x ≠ q))) 92 → wp_BCu_walk_129 post (wp_BCu_walk_93 post n) cu ra (ig_pk q) i (ig_m l i j p q : Nat) k T2 := by
          intro T2 f2 g2
          unfold wp_BCu_walk_129
          rw [e1]
          exact ih (k + 1) T2 (by omega) (by omega) (by omega) f2 (by rw [Nat.add_sub_cancel]; exact g2)
        have eseg : ig_seg l i k = ig_seg l i (k - 1) ++ [ig_at l (i + k)] := by
          obtain ⟨k', hk'⟩ : ∃ k', k = k' + 1 := ⟨k - 1, by omega⟩
          subst hk'
          rw [ig_seg_add, Nat.add_sub_cancel]
          simp [ig_seg, Nat.add_assoc]
        refine ⟨hr1.1, sp_at_nat hr1 h0 (by omega) ⟨pkd_R (ok _), pkd_R oq, fun d => nx T1 f1 ?_, fun d => ⟨hcu1.1, pa, hcu1.2.1, hr1.1, sp_at_nat hr1 h0 (by omega) ⟨g1.1, sp_add g1 (Nat.lt_of_le_of_lt hlen (by omega)) (fun T2 f2 g2 => nx T2 (Tw_trans f1 f2) ?_)⟩⟩⟩⟩
        · have eq := (pkd_inj (ok _) oq).mp d
          rw [eseg, List.filter_append, List.filter_cons_of_neg (by simp [eq])]
          simpa using g1
        · have eq : ig_at l (i + k) ≠ q := fun f => d (by rw [f])
          rw [eseg, List.filter_append, List.filter_cons_of_pos (by simp [eq])]
          simpa using g2
  have k75 : ∀ v5 : Int, v5 = ((ig_m l i j p q : Nat) : Int) → wp_BCu_walk_75 post cu ra (ig_pk p) (ig_pk q) i v5 T := by
    intro v5 e5
    rw [e5]
    unfold wp_BCu_walk_75
    refine ⟨hcu.1, pa, hcu.2.1, hcu.2.2.2.2.1.1, sp_clear hcu.2.2.2.2.1 (fun T1 f1 g1 => ?_)⟩
    have hcu1 := hcu.tw f1
    refine ⟨hcu1.1, pa, hcu1.2.1, g1.1, sp_add g1 (by simp) (fun T2 f2 g2 => ⟨ig_m l i j p q + 2, loop _ 1 T2 (by omega) (by omega) (by omega) (Tw_trans f1 f2) ?_⟩)⟩
    simpa [ig_seg] using g2
  unfold wp_BCu_walk
  refine sp_B_sideOf hr h0 hl op (fun i' hi' g => ?_) (fun g => absurd hp (g i hi))
  have ei := huq hi' hi g hp
  subst ei
  refine sp_B_sideOf hr h0 hl oq (fun j' hj' g => ?_) (fun g => absurd hq (g j hj))
  have ej := huq hj' hj g hq
  subst ej
  intro v5 e5
  have e2 : (i' : Int) + 1 = ((i' + 1 : Nat) : Int) := by omega
  rw [e2]
  have k66 : v5 + (l.length : Int) = ((ig_m l i' j' p q : Nat) : Int) → wp_BCu_walk_66 post cu ra (ig_pk p) (ig_pk q) i' v5 T := by
    intro q1
    unfold wp_BCu_walk_66
    rw [hr.sz]
    exact ⟨hr.1, fun w ew => k75 w (by rw [ew]; exact q1)⟩
  have k39 : ∀ b : Bool, (b = true ↔ ig_pk (ig_at l i') < ig_pk (ig_at l (i' + 1))) → wp_BCu_walk_39 post cu ra (ig_pk p) (ig_pk q) i' v5 (bI b) T := by
    intro b hb
    have hm : ig_m l i' j' p q = if i' ≠ j' then (j' + l.length - i') % l.length else if ig_d2 (ig_at l i') q < ig_d2 (ig_at l i') p then l.length else 0 := rfl
    unfold wp_BCu_walk_39
    refine ⟨by unfold inR; omega, fun c => k66 ?_, fun c => ⟨by unfold inR; omega, fun d => k75 v5 ?_, fun d => ⟨pkd_R op, pkd_R oq, ?_⟩⟩⟩
    · rw [if_pos (by omega)] at hm
      have : (j' + l.length - i') % l.length = j' + l.length - i' := Nat.mod_eq_of_lt (by omega)
      omega
    · rw [if_pos (by omega)] at hm
      have : (j' + l.length - i') % l.length = j' - i' := by
        rw [show j' + l.length - i' = (j' - i') + l.length by omega, Nat.add_mod_right, Nat.mod_eq_of_lt (by omega)]
      omega
    · have eij : i' = j' := by omega
      subst eij
      rw [if_neg (by simp)] at hm
      obtain ⟨t, t0, t1, et⟩ := ig_half_t hp
      obtain ⟨u, u0, u1, eu⟩ := ig_half_t hq
      have hab := rgn_ne hs h0 i'
      have hd := ig_d2_lt hab t0 u0 et eu
      have hup := ig_up (ok i') (ok (i' + 1)) op oq hab hne et eu
      have htu : t ≠ u := by intro f; rw [f] at et; exact hne (ig_c_inj.mp (et.symm.trans eu))
      have hpq : ig_pk p ≠ ig_pk q := fun f => hne ((ig_pk_inj op oq).mp f)
      have k63 : ∀ c : Bool, (c = true ↔ ig_pk p < ig_pk q) → wp_BCu_walk_63 post cu ra (ig_pk p) (ig_pk q) i' v5 (bI c) (bI b) T := by
        intro c hc
        unfold wp_BCu_walk_63
        refine ⟨bI_in _, bI_in _, fun d2 => k75 v5 ?_, fun d2 => k66 ?_⟩
        · have : t < u := hup.mp (by rw [← hb, ← hc]; cases b <;> cases c <;> simp [bI] at d2 ⊢)
          rw [if_neg (fun f => by have := hd.mp f; grind)] at hm
          omega
        · have : ¬ t < u := by
            intro f
            have := hup.mpr f
            rw [← hb, ← hc] at this
            apply d2
            cases b <;> cases c <;> simp [bI] at this ⊢
          rw [if_pos (hd.mpr (by grind))] at hm
          omega
      exact ⟨fun d2 => k63 false ⟨fun f => absurd f (by decide), fun f => by omega⟩, fun d2 => k63 true ⟨fun _ => by omega, fun _ => rfl⟩⟩
  refine ⟨hr.1, sp_at_nat hr h0 (by omega) ⟨hr.1, sp_at_nat hr h0 (by omega) ⟨pkd_R (ok _), pkd_R (ok _), fun d => k39 false ⟨fun f => absurd f (by decide), fun f => by omega⟩, fun d => k39 true ⟨fun _ => by omega, fun _ => rfl⟩⟩⟩⟩
theorem ig_int_len (K : List PT) (e : Nat) (b : Bool) : (ig_int K e b).length = e - 1 := by simp [ig_int]
theorem sp_B_cut {post : Int → CS → Prop} (hcu : cutAt T cu pa pb fa fb ga gb) (hr : ptsAt T ra rb l capR) (hc : ptsAt T ca cb K 32) (nd1 : [ra, ca, pa, fa, ga].Nodup) (nd2 : [rb, cb, pb, fb, gb].Nodup) (hl : ∀ p ∈ l, ig_ok p) (hK : ∀ p ∈ K, ig_ok p) (hs : gx_simple (rgn l)) (hw : ∀ z, 0 ≤ gx_wn (rgn l) z) (h0 : l ≠ []) (h60 : l.length ≤ 60)
    (ps : K.length < 2 → post 0 T) (p0 : ∀ e, K.length = e + 1 → 0 < e → ¬ ch_ok l K e → post 0 T)
    (p1 : ∀ e i j T' K1 K2, K.length = e + 1 → 0 < e → ch_ok l K e → i < l.length → j < l.length → ig_half l i (ig_at K 0) → ig_half l j (ig_at K e) → Tw (fun a => pab pa pb a ∨ pab fa fb a ∨ pab ga gb a) T T' → ptsAt T' fa fb K1 92 → ptsAt T' ga gb K2 92 → ig_kept (ig_pc l K e i j false) K1 → ig_kept (ig_pc l K e i j true) K2 → post 1 T') : wp_BCu_cut post cu ra ca T := by
  have h32 := hc.2.2.2.2.2.1
  have okl := ig_at_ok hl h0
  unfold wp_BCu_cut
  refine sp_B_fits hr hc h0 hl hK h60 (fun f => ⟨inR_lit0, fun q => absurd rfl q, fun _ => ps f⟩) (fun e he he0 hok => ?_) (fun e he he0 hno => ⟨inR_lit0, fun q => absurd rfl q, fun _ => p0 e he he0 hno⟩)
  have k0 : K ≠ [] := by intro f; rw [f] at he; simp at he
  have okK := ig_at_ok hK k0
  obtain ⟨i, hi, hp⟩ := hok.1.2.1
  obtain ⟨j, hj, hq⟩ := hok.1.2.2
  have hne := hok.1.1
  obtain ⟨⟨sf, _⟩, ⟨st, _⟩, _⟩ := ig_pieces hl hK hs hw h0 he he0 hok hi hj hp hq
  have m1 := ig_steps_le (ig_m_steps hs h0 hi hj hp hq hne)
  have m2 := ig_steps_le (ig_m_steps hs h0 hj hi hq hp (Ne.symm hne))
  have fpc : ig_pc l K e i j false = ig_at K 0 :: (ig_seg l i (ig_m l i j (ig_at K 0) (ig_at K e))).filter (fun x => decide (x ≠ ig_at K e)) ++ ig_at K e :: ig_int K e false := by
    unfold ig_pc; simp only [Bool.false_eq_true, if_false]
  have tpc : ig_pc l K e i j true = ig_at K e :: (ig_seg l j (ig_m l j i (ig_at K e) (ig_at K 0))).filter (fun x => decide (x ≠ ig_at K 0)) ++ ig_at K 0 :: ig_int K e true := by
    unfold ig_pc; simp only [if_true]
  have okpc : ∀ b, ∀ x ∈ ig_pc l K e i j b, ig_ok x := by
    intro b x hx
    have okm : ∀ (q : PT → Bool) (i m : Nat), x ∈ (ig_seg l i m).filter q → ig_ok x := by
      intro q i m f
      obtain ⟨k, _, e⟩ := ig_seg_mem.mp (List.mem_filter.mp f).1
      rw [← e]; exact okl _
    have oki : x ∈ ig_int K e b → ig_ok x := by
      intro f
      unfold ig_int at f
      obtain ⟨k, _, e⟩ := List.mem_map.mp f
      rw [← e]; exact okK _
    cases b with
    | false =>
      rw [fpc] at hx
      rcases List.mem_append.mp hx with f | f
      · rcases List.mem_cons.mp f with f | f
        · rw [f]; exact okK _
        · exact okm _ _ _ f
      · rcases List.mem_cons.mp f with f | f
        · rw [f]; exact okK _
        · exact oki f
    | true =>
      rw [tpc] at hx
      rcases List.mem_append.mp hx with f | f
      · rcases List.mem_cons.mp f with f | f
        · rw [f]; exact okK _
        · exact okm _ _ _ f
      · rcases List.mem_cons.mp f with f | f
        · rw [f]; exact okK _
        · exact oki f
  have lenf : ∀ (f : PT → Bool) (i m : Nat), m ≤ 60 → ((ig_seg l i m).filter f).length ≤ 60 := by
    intro f i m hm
    have := List.length_filter_le f (ig_seg l i m)
    rw [ig_seg_len] at this; omega
  have lenx : ∀ (x y : PT) (X : List PT) (b : Bool), X.length ≤ 60 → (x :: X ++ y :: ig_int K e b).length ≤ 92 := by
    intro x y X b hX
    simp only [List.length_append, List.length_cons, ig_int_len]; omega
  have leny : ∀ (x y : PT) (X Y : List PT), X.length ≤ 60 → Y.length < 30 → (x :: X ++ y :: Y).length < 92 := by
    intro x y X Y hX hY
    simp only [List.length_append, List.length_cons]; omega
  have lenpc : ∀ b, (ig_pc l K e i j b).length ≤ 92 := by
    intro b
    cases b with
    | false => rw [fpc]; exact lenx _ _ _ _ (lenf _ _ _ (by omega))
    | true => rw [tpc]; exact lenx _ _ _ _ (lenf _ _ _ (by omega))
  have nepc : ∀ b, ig_pc l K e i j b ≠ [] := by
    intro b
    cases b with
    | false => rw [fpc]; simp
    | true => rw [tpc]; simp
  have wide : ∀ {X Y : CS}, Tw (pab pa pb) X Y → Tw (fun a => pab pa pb a ∨ pab fa fb a ∨ pab ga gb a) X Y := fun q => Tw_mono q (fun a r => Or.inl r)
  have hro := pts_out hr hcu.2.2.2.2.1 (nd5 nd1).1.2.1 (nd5 nd2).1.2.1
  have hrf := pts_out hr hcu.2.2.2.2.2.1 (nd5 nd1).1.2.2.1 (nd5 nd2).1.2.2.1
  have hco := pts_out hc hcu.2.2.2.2.1 (nd5 nd1).2.1.1 (nd5 nd2).2.1.1
  have hcf := pts_out hc hcu.2.2.2.2.2.1 (nd5 nd1).2.1.2.1 (nd5 nd2).2.1.2.1
  have ring : ∀ T1, Tw (fun a => pab pa pb a ∨ pab fa fb a) T T1 → ptsAt T1 ra rb l capR ∧ ptsAt T1 ca cb K 32 := by
    intro T1 f
    exact ⟨hr.tw f (fun g => g.elim hro.1 hrf.1) (fun g => g.elim hro.2 hrf.2), hc.tw f (fun g => g.elim hco.1 hcf.1) (fun g => g.elim hco.2 hcf.2)⟩
  refine ⟨inR_lit1, fun _ => ?_, fun q => absurd q (by decide)⟩
  rw [hc.sz, he]
  refine ⟨hc.1, fun v3 e3 => ?_⟩
  have ev : v3 = (e : Int) := by omega
  rw [ev]
  -- the second piece
  have second : ∀ (T2 : CS) (K1 : List PT), Tw (fun a => pab pa pb a ∨ pab fa fb a) T T2 → ptsAt T2 fa fb K1 92 → ig_kept (ig_pc l K e i j false) K1 → tg T2 ca = 2 ∧ wp_BPt_at (fun r_6 T_5 => tg T_5 ca = 2 ∧ wp_BPt_at (fun r_8 T_7 => tg T_7 cu = 3 ∧ wp_BCu_walk (fun T_9 => ∃ nn : Nat, wp_BCu_cut_90 post nn cu ca e 1 T_9) cu ra r_6 r_8 T_7) ca 0 T_5) ca e T2 := by
    intro T2 K1 f2 g2 hk1
    obtain ⟨hr2, hc2⟩ := ring T2 f2
    have hcu2 := hcu.tw f2
    refine ⟨hc2.1, sp_at_nat hc2 k0 (by omega) ⟨hc2.1, sp_at_nat (i := 0) hc2 k0 (by omega) ⟨hcu2.1, sp_B_walk hcu2 hr2 (nd5 nd1).1.2.1 (nd5 nd2).1.2.1 h0 hl hs h60 (okK e) (okK 0) (Ne.symm hne) hj hi hq hp (fun T3 f3 g3 => ⟨e + 1, ?_⟩)⟩⟩⟩
    have kf : ¬ pab pa pb fa ∧ ¬ pab pa pb fb := pts_out g2 hcu2.2.2.2.2.1 (Ne.symm (nd5 nd1).2.2.1.1) (Ne.symm (nd5 nd2).2.2.1.1)
    have loop : ∀ (n k : Nat) (T4 : CS), e - k < n → 1 ≤ k → k ≤ e → Tw (pab pa pb) T2 T4 → ptsAt T4 pa pb (ig_at K e :: (ig_seg l j (ig_m l j i (ig_at K e) (ig_at K 0))).filter (fun x => decide (x ≠ ig_at K 0)) ++ ig_at K 0 :: (List.range (k - 1)).map (fun k => ig_at K (if true then k + 1 else e - 1 - k))) 92 → wp_BCu_cut_90 post n cu ca e k T4 := by
      intro n
      induction n with
      | zero => intro k T4 hn; omega
      | succ n ih =>
        intro k T4 hn k1 ke f4 g4
        have e1 : (k : Int) + 1 = ((k + 1 : Nat) : Int) := by omega
        have hcu4 := hcu2.tw f4
        have f24 : Tw (fun a => pab pa pb a ∨ pab fa fb a) T T4 := Tw_trans f2 (Tw_mono f4 (fun a r => Or.inl r))
        obtain ⟨hr4, hc4⟩ := ring T4 f24
        unfold wp_BCu_cut_90
        rw [e1]
        refine ⟨by unfold inR; omega, by unfold inR; omega, fun c => ⟨hcu4.1, pa, hcu4.2.1, hcu4.1, ga, hcu4.2.2.2.1, ?_⟩, fun c => ⟨hcu4.1, pa, hcu4.2.1, hc4.1, sp_at_nat hc4 k0 (by omega) ⟨g4.1, ?_⟩⟩⟩
        · have ek : k = e := by omega
          subst ek
          have g4' : ptsAt T4 pa pb (ig_pc l K k i j true) 92 := by rw [tpc]; exact g4
          refine sp_B_keep g4' hcu4.2.2.2.2.2.2 (nd5 nd1).2.2.1.2 (nd5 nd2).2.2.1.2 (nepc true) (okpc true) st (lenpc true) (by have := lenpc true; omega) (fun T5 K2 f5 g5 hk2 => ?_)
          have gf : ptsAt T4 fa fb K1 92 := g2.tw f4 kf.1 kf.2
          have kg := pts_out gf hcu4.2.2.2.2.2.2 (nd5 nd1).2.2.2 (nd5 nd2).2.2.2
          exact p1 k i j T5 K1 K2 he he0 hok hi hj hp hq (Tw_trans (Tw_mono f24 (fun a r => r.elim Or.inl (fun r => Or.inr (Or.inl r)))) (Tw_mono f5 (fun a r => Or.inr (Or.inr r)))) (gf.tw f5 kg.1 kg.2) g5 hk1 hk2
        · have hl4 : (ig_at K e :: (ig_seg l j (ig_m l j i (ig_at K e) (ig_at K 0))).filter (fun x => decide (x ≠ ig_at K 0)) ++ ig_at K 0 :: (List.range (k - 1)).map (fun k => ig_at K (if true then k + 1 else e - 1 - k))).length < 92 := leny _ _ _ _ (lenf _ _ _ (by omega)) (by simp; omega)
          refine sp_add g4 hl4 (fun T5 f5 g5 => ih (k + 1) T5 (by omega) (by omega) (by omega) (Tw_trans f4 f5) ?_)
          rw [ig_int_st K e k1, ← List.cons_append, ← List.append_assoc]
          exact g5
    refine loop (e + 1) 1 T3 (by omega) (by omega) (by omega) f3 ?_
    simpa using g3
  -- the first
  refine ⟨hc.1, sp_at_nat (i := 0) hc k0 (by omega) ⟨hc.1, sp_at_nat hc k0 (by omega) ⟨hcu.1, sp_B_walk hcu hr (nd5 nd1).1.2.1 (nd5 nd2).1.2.1 h0 hl hs h60 (okK 0) (okK e) hne hi hj hp hq (fun T1 f1 g1 => ⟨e + 1, ?_⟩)⟩⟩⟩
  have loop : ∀ (n k : Nat) (T4 : CS), k < n → k ≤ e - 1 → Tw (pab pa pb) T T4 → ptsAt T4 pa pb (ig_at K 0 :: (ig_seg l i (ig_m l i j (ig_at K 0) (ig_at K e))).filter (fun x => decide (x ≠ ig_at K e)) ++ ig_at K e :: (List.range (e - 1 - k)).map (fun k => ig_at K (if false then k + 1 else e - 1 - k))) 92 → wp_BCu_cut_37 post n cu ra ca e k T4 := by
    intro n
    induction n with
    | zero => intro k T4 hn; omega
    | succ n ih =>
      intro k T4 hn ke f4 g4
      have hcu4 := hcu.tw f4
      have f24 : Tw (fun a => pab pa pb a ∨ pab fa fb a) T T4 := Tw_mono f4 (fun a r => Or.inl r)
      obtain ⟨hr4, hc4⟩ := ring T4 f24
      unfold wp_BCu_cut_37
      refine ⟨by unfold inR; omega, fun c => ⟨hcu4.1, pa, hcu4.2.1, hcu4.1, fa, hcu4.2.2.1, ?_⟩, fun c => ⟨hcu4.1, pa, hcu4.2.1, hc4.1, sp_at_nat hc4 k0 (by omega) ⟨g4.1, ?_⟩⟩⟩
      · have ek : k = 0 := by omega
        subst ek
        have g4' : ptsAt T4 pa pb (ig_pc l K e i j false) 92 := by rw [fpc]; exact g4
        refine sp_B_keep g4' hcu4.2.2.2.2.2.1 (nd5 nd1).2.2.1.1 (nd5 nd2).2.2.1.1 (nepc false) (okpc false) sf (lenpc false) (by have := lenpc false; omega) (fun T5 K1 f5 g5 hk1 => ?_)
        exact second T5 K1 (Tw_trans f24 (Tw_mono f5 (fun a r => Or.inr r))) g5 hk1
      · have hl4 : (ig_at K 0 :: (ig_seg l i (ig_m l i j (ig_at K 0) (ig_at K e))).filter (fun x => decide (x ≠ ig_at K e)) ++ ig_at K e :: (List.range (e - 1 - k)).map (fun k => ig_at K (if false then k + 1 else e - 1 - k))).length < 92 := leny _ _ _ _ (lenf _ _ _ (by omega)) (by simp; omega)
        refine sp_add g4 hl4 (fun T5 f5 g5 => ?_)
        have e5 : (k : Int) + (-1) = ((k - 1 : Nat) : Int) := by omega
        rw [e5]
        refine ih (k - 1) T5 (by omega) (by omega) (Tw_trans f4 f5) ?_
        rw [ig_int_sf K (by omega) ke, ← List.cons_append, ← List.append_assoc]
        exact g5
  have e6 : (e : Int) - 1 = ((e - 1 : Nat) : Int) := by omega
  rw [e6]
  refine loop (e + 1) (e - 1) T1 (by omega) (by omega) f1 ?_
  rw [Nat.sub_self]
  simpa using g1
end WLK
