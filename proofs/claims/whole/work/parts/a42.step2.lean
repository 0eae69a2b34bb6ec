/-! a deed accepted: shares, land, easements, log, counts -/
section STQ
variable {R R' : AR} {kd dy m pa pb rel g o : Nat} {ns : List Nat} {body : List Int}
theorem st_oT (h : WF R) (s : DStp R R' kd dy ns m pa pb rel g o body) (c : DCnd R R' kd dy ns m pa pb rel g o body) {l p d : Nat} {y e : Int} (hd : d ≤ R.1 15 0) : oT R' l p y e d = oT R l p y e d := by
  have q := (s.2.1 d hd).1
  unfold oT aF
  rw [q 16 (by omega) (by omega), q 17 (by omega) (by omega), q 18 (by omega) (by omega), q 19 (by omega) (by omega), q 20 (by omega) (by omega), q 21 (by omega) (by omega)]
theorem st_oN (h : WF R) (s : DStp R R' kd dy ns m pa pb rel g o body) (c : DCnd R R' kd dy ns m pa pb rel g o body) {l p : Nat} {y e : Int} : oN R' l p y e (R'.1 15 0) = oN R l p y e (R.1 15 0) + oT R' l p y e (R.1 15 0 + 1) := by
  rw [s.1.1]
  show oN R' l p y e (R.1 15 0) + oT R' l p y e (R.1 15 0 + 1) = _
  rw [oN_congr (R' := R) (l' := l) (y' := y) (e' := e) (fun d d1 d2 => st_oT h s c d2)]
theorem st_WSh (h : WF R) (s : DStp R R' kd dy ns m pa pb rel g o body) (c : DCnd R R' kd dy ns m pa pb rel g o body) : WSh R' := by
  have hs := s
  obtain ⟨s1, s2, s3, s4, s5, s6, s7, s8⟩ := s
  have hc := c
  obtain ⟨c1, c2, c3, c4, c5, c6, c7, c8, c9, c10⟩ := c
  intro l l1 l2
  by_cases kl : l ≤ R.1 7 0
  · obtain ⟨_, q1, q3, q4, _⟩ := s4 l kl
    have dl := h.dl l1 kl
    obtain ⟨t0, t1, t2, t3⟩ := h.sh l l1 kl
    have ef : aSh R' l = aSh R l := funext q4
    rw [q1.1, q1.2.1, ef]
    refine ⟨t0, fun f p hp => ?_, t2, fun p day ent hp => ?_⟩
    · have e13 : aSh R' (R.1 13 l) p = aSh R (R.1 13 l) p := (s4 (R.1 13 l) (by omega)).2.2.2.1 p
      rw [t1 f p hp, e13, st_oN h hs hc, st_17 h hs hc dl.1, oT_not (R := R') (d := R.1 15 0 + 1) (fun q => by have := q.2.2.2; omega)]
      omega
    · unfold aShare
      rw [ef, st_oN h hs hc]
      by_cases k : R'.1 16 (R.1 15 0 + 1) = 3 ∧ R'.1 18 (R.1 15 0 + 1) = l ∧ aF R' (R.1 15 0 + 1) day ent
      · have k3 : kd = 3 := by rw [← s3.1]; exact k.1
        obtain ⟨v1, v2, v3⟩ := c6 k3
        have hn : l ∈ ns := by rw [c5.1 (Or.inr k3), k.2.1]; exact List.mem_singleton.mpr rfl
        have fk : (dy : Int) ≤ day ∧ ((R.1 15 0 + 1 : Nat) : Int) ≤ ent := by
          have := k.2.2; unfold aF at this; rw [s3.2.1] at this; exact this
        have e1 : oN R l p day ent (R.1 15 0) = oN R l p dy (R.1 15 0) (R.1 15 0) := oN_congr (fun d d1 d2 => oT_force (fun k1 k2 => by
          have nm := h.trn d1 d2 k1
          rw [k2] at nm
          have := st_late h hs hc hn d1 d2 nm
          exact ⟨fun _ => ⟨by omega, by omega⟩, fun _ => ⟨by omega, by omega⟩⟩))
        rw [e1]
        have b1 := t3 p dy (R.1 15 0) hp
        unfold aShare at b1
        rw [k.2.1] at v3
        unfold aShare at v3
        unfold oT
        rw [if_pos k]
        by_cases cf : R'.1 19 (R.1 15 0 + 1) = p
        · rw [if_pos cf]
          rw [cf] at v3
          split <;> omega
        · rw [if_neg cf]
          split <;> omega
      · rw [oT_not k]
        have := t3 p day ent hp
        unfold aShare at this
        omega
  · have m0 : m ≠ 0 := by omega
    obtain ⟨q0, q1, q2, _⟩ := s5 l (by omega) (by omega)
    obtain ⟨p1, p2, p3, _⟩ := c4 m0
    have pam := (c2.2 pa ((p3 pa).mpr (Or.inl rfl))).1
    have k3 : ¬ kd = 3 := fun f => by have := c3.1.mp m0; omega
    rw [q0.1, q0.2.2.1]
    refine ⟨fun f => by omega, fun _ p hp => ?_, ?_, fun p day ent hp => ?_⟩
    · have epa : aSh R' pa p = aSh R pa p := (s4 pa pam.2).2.2.2.1 p
      rw [q2 p hp, epa, st_oN h hs hc, s3.2.1, oT_not (R := R') (d := R.1 15 0 + 1) (fun q => k3 (by rw [← s3.1]; exact q.1))]
      unfold aShare
      rw [oN_congr (R' := R) (l' := pa) (y' := dy) (e' := ((R.1 15 0 + 1 : Nat) : Int)) (fun d d1 d2 => oT_force (fun k1 k2 => ⟨fun f => ⟨f.1, by omega⟩, fun f => ⟨f.1, by omega⟩⟩))]
      omega
    · rw [gx_S_congr (g := fun p => aShare R pa p dy (R.1 15 0)) (fun p hp => q2 p hp)]
      exact aShare_sum h pam.1 pam.2
    · unfold aShare
      rw [q2 p hp, oN_zero]
      · have := (h.sh pa pam.1 pam.2).2.2.2 p dy (R.1 15 0) hp
        omega
      · intro d d1 d2
        refine oT_not (fun q => ?_)
        by_cases kd' : d ≤ R.1 15 0
        · have qq := (s2 d kd').1
          rw [qq 16 (by omega) (by omega), qq 18 (by omega) (by omega)] at q
          have nm := h.trn d1 kd' q.1
          have := ((h.nl d d1 kd').2.1 _ nm).2
          omega
        · rw [show d = R.1 15 0 + 1 by omega, s3.1] at q
          exact k3 q.1
theorem st_aB3 (h : WF R) (s : DStp R R' kd dy ns m pa pb rel g o body) (c : DCnd R R' kd dy ns m pa pb rel g o body) {x : Nat} {day : Int} (hx : x ∈ ns) (hd : (dy : Int) ≤ day) : aB R x day (R.1 15 0) := by
  have z := st_12 h s c hx
  refine ⟨?_, fun f => f.1 z⟩
  rcases st_beg h s c hx with q | q
  · exact Or.inl q
  · exact Or.inr ⟨by omega, by omega⟩
theorem st_WX (h : WF R) (s : DStp R R' kd dy ns m pa pb rel g o body) (c : DCnd R R' kd dy ns m pa pb rel g o body) : WX R' := by
  have hs := s
  obtain ⟨s1, s2, s3, s4, s5, s6, s7, s8⟩ := s
  have hc := c
  obtain ⟨c1, c2, c3, c4, c5, c6, c7, c8, c9, c10⟩ := c
  -- an old lot and a new one
  have on : ∀ l l' day ent, 1 ≤ l → l ≤ R.1 7 0 → R.1 7 0 < l' → l' ≤ R.1 7 0 + m → aB R' l day ent → aB R' l' day ent → ∀ z, gx_wn (rgn (aRing R' l)) z + gx_wn (rgn (aRing R' l')) z ≤ 1 := by
    intro l l' day ent a1 a2 b1 b2 hb hb' z
    have m0 : m ≠ 0 := by omega
    obtain ⟨p1, p2, p3, p4, _⟩ := c4 m0
    have nw := st_new h hs hc b1 b2 hb'
    have lns : l ∉ ns := by
      intro f
      have q := (s4 l a2).2.2.1
      rw [if_pos ⟨m0, f⟩] at q
      refine hb.2 ?_
      rw [q]
      refine ⟨by omega, ?_⟩
      unfold aF
      rw [s3.2.1]; exact nw
    have hbR := st_aB2 h hs hc a1 a2 hb
    have dl := h.dl a1 a2
    have hbD : aB R l day (R.1 15 0) := by
      refine ⟨hbR.1.imp (fun q => q) (fun q => ⟨q.1, by omega⟩), fun f => hbR.2 ⟨f.1, f.2.1, ?_⟩⟩
      omega
    rw [(s4 l a2).1]
    have w := p4 l' z b1 b2
    have na : pa ∈ ns := (p3 pa).mpr (Or.inl rfl)
    have ba := st_aB3 h hs hc na nw.1
    have pam := (c2.2 pa na).1
    have la : l ≠ pa := fun f => lns (by rw [f]; exact na)
    have xa := h.x l pa day _ a1 a2 pam.1 pam.2 la hbD ba z
    have ra := h.r.rg pam.1 pam.2
    have rl := h.r.rg a1 a2
    have wa := ra.2.2.2 z
    have wl := rl.2.2.2 z
    by_cases z0 : pb = 0
    · rw [if_pos z0] at w; omega
    · rw [if_neg z0] at w
      have nb : pb ∈ ns := (p3 pb).mpr (Or.inr ⟨z0, rfl⟩)
      have bb := st_aB3 h hs hc nb nw.1
      have pbm := (c2.2 pb nb).1
      have lb : l ≠ pb := fun f => lns (by rw [f]; exact nb)
      have xb := h.x l pb day _ a1 a2 pbm.1 pbm.2 lb hbD bb z
      have xab := h.x pa pb day _ pam.1 pam.2 pbm.1 pbm.2 (by have := p2 z0; omega) ba bb z
      have rb := h.r.rg pbm.1 pbm.2
      have wb := rb.2.2.2 z
      have ua := rgn_le1 ra.2.2.1 ra.2.2.2 ra.ne z
      have ub := rgn_le1 rb.2.2.1 rb.2.2.2 rb.ne z
      have ul := rgn_le1 rl.2.2.1 rl.2.2.2 rl.ne z
      omega
  intro l l' day ent a1 a2 b1 b2 hne hb hb' z
  by_cases kl : l ≤ R.1 7 0
  · by_cases kl' : l' ≤ R.1 7 0
    · rw [(s4 l kl).1, (s4 l' kl').1]
      exact h.x l l' day ent a1 kl b1 kl' hne (st_aB2 h hs hc a1 kl hb) (st_aB2 h hs hc b1 kl' hb') z
    · exact on l l' day ent a1 kl (by omega) (by omega) hb hb' z
  · by_cases kl' : l' ≤ R.1 7 0
    · have := on l' l day ent b1 kl' (by omega) (by omega) hb' hb z
      omega
    · obtain ⟨_, _, _, _, p5⟩ := c4 (by omega)
      exact p5 l l' z (by omega) (by omega) (by omega) (by omega) hne
theorem st_WE (h : WF R) (s : DStp R R' kd dy ns m pa pb rel g o body) (c : DCnd R R' kd dy ns m pa pb rel g o body) : WE R' := by
  have hs := s
  obtain ⟨s1, s2, s3, s4, s5, s6, s7, s8⟩ := s
  have hc := c
  obtain ⟨c1, c2, c3, c4, c5, c6, c7, c8, c9, c10⟩ := c
  intro e e1 e2 hne l l1 l2 hi
  by_cases ke : e ≤ R.1 25 0
  · obtain ⟨q1, q2, q3⟩ := s6 e ke
    have we := h.r.2.2.2.2.1 e e1 ke
    rw [q3] at hne ⊢
    by_cases kr : rel ≠ 0 ∧ e = rel
    · rw [if_pos kr]
      have k5 := c3.2.1.mp kr.1
      obtain ⟨v1, v2, v3, v4⟩ := c7 k5
      have m0 : m = 0 := Classical.byContradiction fun f => by have := c3.1.mp f; omega
      have kl : l ≤ R.1 7 0 := by omega
      obtain ⟨_, _, t3, _, t5⟩ := s4 l kl
      rw [t5 e ke] at hi
      rw [← kr.2] at v3 v4
      rw [t3, if_neg (fun f => f.1 m0), s3.2.2.2.2.2, s3.2.1]
      have dl := h.dl l1 kl
      rcases h.reach e1 ke v3 (fun x x1 x2 hb => (c2.2 x ((v4 x).mpr ⟨⟨x1, x2⟩, hb⟩)).2.2) _ l (Nat.lt_succ_self _) l1 kl hi with k | k
      · exact Or.inl ((v4 l).mpr ⟨⟨l1, kl⟩, hi, v3, k⟩)
      · refine Or.inr ⟨k.1, by omega, ?_⟩
        rw [st_17 h hs hc dl.2.1]; omega
    · rw [if_neg kr] at hne ⊢
      rw [(s2 _ we.2.1).2, st_17 h hs hc we.2.1]
      by_cases kl : l ≤ R.1 7 0
      · obtain ⟨_, _, t3, _, t5⟩ := s4 l kl
        rw [t5 e ke] at hi
        have dl := h.dl l1 kl
        rcases h.e e e1 ke hne l l1 kl hi with k | k
        · exact Or.inl k
        · right
          have nn : ¬ (m ≠ 0 ∧ l ∈ ns) := fun f => k.1 (st_12 h hs hc f.2)
          rw [t3, if_neg nn, st_17 h hs hc dl.2.1]
          exact k
      · exfalso
        obtain ⟨x, x1, x2, x3⟩ := ((s5 l (by omega) (by omega)).2.2.2 e e1 ke).mp hi
        obtain ⟨⟨y1, y2⟩, y3, y4⟩ := c2.2 x x1
        have hlt : ¬ (R.1 17 (R.1 27 e) : Int) ≤ dy := fun f => x2.2 ⟨hne, f, by omega⟩
        rcases h.e e e1 ke hne x y1 y2 x3 with k | k
        · exact y4 ⟨R.1 27 e, by omega, we.2.1, by omega, k⟩
        · exact k.1 (st_12 h hs hc x1)
  · have g1 : g = 1 := by omega
    have ee : e = R.1 25 0 + 1 := by omega
    subst ee
    exact absurd (s7 g1).2.1 hne
theorem st_WL (h : WF R) (s : DStp R R' kd dy ns m pa pb rel g o body) (c : DCnd R R' kd dy ns m pa pb rel g o body) : WL R' := by
  obtain ⟨s1, s2, s3, s4, s5, s6, s7, s8⟩ := s
  obtain ⟨c1, c2, c3, c4, c5, c6, c7, c8, c9, c10⟩ := c
  obtain ⟨⟨bd, hb⟩, l2, l3⟩ := h.l
  have eW := l3 c1.2.1
  have we : ∀ d, d ≤ R.1 15 0 → wEnd R' d = wEnd R d := by
    intro d hd
    unfold wEnd
    rw [(s2 d hd).1 24 (by omega) (by omega)]
  have wk : wEnd R' (R.1 15 0 + 1) = R.1 30 0 + (wrec body).length := by
    unfold wEnd
    rw [if_neg (by omega)]; exact s3.2.2.2.2.1
  have mono : ∀ d, d ≤ R.1 15 0 → ∀ d', d' ≤ d → wEnd R d' ≤ wEnd R d := by
    intro d
    induction d with
    | zero => intro _ d' hd'; rw [Nat.le_zero.mp hd']; exact Nat.le_refl _
    | succ d ih =>
      intro hd d' hd'
      by_cases k : d' = d + 1
      · rw [k]; exact Nat.le_refl _
      · have a := ih (by omega) d' (by omega)
        have b := (hb (d + 1) (by omega) hd).2.2.2.1
        have : wEnd R (d + 1) = R.1 24 (d + 1) := by unfold wEnd; rw [if_neg (by omega)]
        rw [this, b, show d + 1 - 1 = d by omega]; omega
  refine ⟨⟨updN bd (R.1 15 0 + 1) body, fun d d1 d2 => ?_⟩, ?_, fun _ => ?_⟩
  · by_cases k : d ≤ R.1 15 0
    · rw [updN_n _ _ _ (by omega)]
      obtain ⟨a1, a2, a3, a4, a5⟩ := hb d d1 k
      refine ⟨a1, a2, a3, ?_, fun i hi => ?_⟩
      · rw [we (d - 1) (by omega), (s2 d k).1 24 (by omega) (by omega)]; exact a4
      · rw [we (d - 1) (by omega), s8]
        have : wEnd R (d - 1) + i < R.1 30 0 := by
          rw [eW]
          have e1 : wEnd R d = R.1 24 d := by unfold wEnd; rw [if_neg (by omega)]
          have := mono (R.1 15 0) (Nat.le_refl _) d k
          omega
        unfold lgapp
        rw [if_neg (by omega)]; exact a5 i hi
    · have ed : d = R.1 15 0 + 1 := by omega
      subst ed
      rw [updN_s]
      refine ⟨c9.1, c9.2.1, c9.2.2, ?_, fun i hi => ?_⟩
      · rw [show R.1 15 0 + 1 - 1 = R.1 15 0 by omega, we _ (Nat.le_refl _), s3.2.2.2.2.1, wrec_len, eW]; omega
      · rw [show R.1 15 0 + 1 - 1 = R.1 15 0 by omega, we _ (Nat.le_refl _), s8, ← eW]
        unfold lgapp
        rw [if_pos ⟨by omega, by rw [wrec_len]; omega⟩, show R.1 30 0 + i - R.1 30 0 = i by omega]
  · rw [s1.1, wk, s1.2.2.2.1]; exact Nat.le_refl _
  · rw [s1.1, wk, s1.2.2.2.1]
theorem st_WC (h : WF R) (s : DStp R R' kd dy ns m pa pb rel g o body) (c : DCnd R R' kd dy ns m pa pb rel g o body) : WC R' := by
  obtain ⟨s1, s2, s3, s4, s5, s6, s7, s8⟩ := s
  obtain ⟨c1, c2, c3, c4, c5, c6, c7, c8, c9, c10⟩ := c
  refine ⟨fun f => by omega, fun _ d hd => ?_⟩
  have C := h.c.2 c1.1
  by_cases k : d ≤ R.1 15 0
  · obtain ⟨C1, C2, C3⟩ := C d k
    have n1 : nlt R' d = nlt R d := by unfold nlt; rw [(s2 d k).1 22 (by omega) (by omega)]
    have n2 : net R' d = net R d := by unfold net; rw [(s2 d k).1 23 (by omega) (by omega)]
    rw [n1, n2]
    refine ⟨by omega, fun l l1 l2 => ?_, fun e e1 e2 => ?_⟩
    · by_cases kl : l ≤ R.1 7 0
      · rw [(s4 l kl).2.1.1]; exact C2 l l1 kl
      · rw [(s5 l (by omega) (by omega)).1.1]; omega
    · by_cases ke : e ≤ R.1 25 0
      · rw [(s6 e ke).1]; exact C3 e e1 ke
      · have g1 : g = 1 := by omega
        have ee : e = R.1 25 0 + 1 := by omega
        subst ee
        rw [(s7 g1).1]; omega
  · have ed : d = R.1 15 0 + 1 := by omega
    have n1 : nlt R' d = R.1 7 0 + m := by unfold nlt; rw [if_neg (by omega), ed]; exact s3.2.2.1
    have n2 : net R' d = R.1 25 0 + g := by unfold net; rw [if_neg (by omega), ed]; exact s3.2.2.2.1
    rw [n1, n2]
    refine ⟨by omega, fun l l1 l2 => ?_, fun e e1 e2 => ?_⟩
    · by_cases kl : l ≤ R.1 7 0
      · rw [(s4 l kl).2.1.1]; have := h.dl l1 kl; omega
      · rw [(s5 l (by omega) (by omega)).1.1]; omega
    · by_cases ke : e ≤ R.1 25 0
      · rw [(s6 e ke).1]; have := h.r.2.2.2.2.1 e e1 ke; omega
      · have g1 : g = 1 := by omega
        have ee : e = R.1 25 0 + 1 := by omega
        subst ee
        rw [(s7 g1).1]; omega
theorem WF_step (h : WF R) (s : DStp R R' kd dy ns m pa pb rel g o body) (c : DCnd R R' kd dy ns m pa pb rel g o body) : WF R' := ⟨st_WR h s c, st_WI h s c, st_WN h s c, st_WNl h s c, st_WT h s c, st_WP h s c, st_WO h s c, st_WQ h s c, st_WSh h s c, st_WX h s c, st_WE h s c, st_WL h s c, st_WC h s c⟩
end STQ
