/-! who is burdened -/
section BOF
variable {qs : List Nat} {ad : Nat → Nat → Nat} {T T' T1 : CS} {R : AR}
theorem Tx_fresh {P : Nat → Prop} {T T1 T' : CS} {q : Nat} (h : Tx P T T1) (hq : tg T q = 0) (g : Tw (fun a => a = q) T1 T') : Tx P T T' := by
  intro a ha
  obtain ⟨h1, h2, h3, h4⟩ := h a ha
  have hne : a ≠ q := fun r => by rw [r] at ha; exact ha hq
  exact ⟨by rw [g.1]; exact h1, by rw [g.2.1]; exact h2, by rw [g.2.2.1]; exact h3, fun r => by rw [g.2.2.2 a hne]; exact h4 r⟩
theorem nsAt.tx {P : Nat → Prop} {na : Nat} {ns : List Nat} (h : nsAt T na ns) (g : Tx P T T') (hn : ¬ P na) : nsAt T' na ns := by
  obtain ⟨a, b, c, d, e⟩ := h
  have u := g na (by omega)
  exact ⟨by rw [u.1]; exact a, by rw [u.2.1]; exact b, c, d, fun i hi => by rw [u.2.2.2 hn]; exact e i hi⟩
theorem sp_B_burdensOf {post : Nat → CS → Prop} (hq : qs.Nodup) (hl : qs.length = 30) (h : BK qs ad T R) (w : WR R) {na mc ms : Nat} {ns : List Nat} {day ent : Int} (hn : nsAt T na ns) (hns : ∀ x ∈ ns, 1 ≤ x ∧ x ≤ R.1 7 0) (hd : inR day) (he : inR ent) (hmc : 1 ≤ mc) (hms : R.1 25 0 + 1 ≤ ms)
    (hp : ∀ T' q, tg T q = 0 → Tx (fun _ => False) T T' → n20 T T' → tg T' q = 12 → ln T' q = R.1 25 0 + 1 → (∀ i, b01 (fi T' q i)) → (∀ e, 1 ≤ e → e ≤ R.1 25 0 → (fi T' q e ≠ 0 ↔ ∃ x, x ∈ ns ∧ aS R e day ent ∧ aIh R e x = true)) → post q T') : wp_BRg_burdensOf post mc ms (qa qs 22) na day ent T := by
  have t22 := h.1.tag (i := 22) (t := 5) (by omega) rfl
  have f22 := h.1.ref (i := 22) (j := 2) (z := 25) (by omega) rfl (by omega)
  have wE := w.1.2.2.1
  have wL := w.1.1
  have A := h.2.2.2.1.2.2
  unfold wp_BRg_burdensOf
  refine ⟨t22, qa qs 25, f22, A.1, A.1, ?_⟩
  rw [A.2.1]
  dsimp only
  rw [show (R.1 25 0 : Int) + 1 = ((R.1 25 0 + 1 : Nat) : Int) by omega, Int.toNat_natCast]
  refine ⟨⟨by omega, by omega⟩, mc - 1, ms - (R.1 25 0 + 1), ⟨by omega, by omega⟩, fun q T5 hq0 y5 => ⟨R.1 25 0 + 2, ?_⟩⟩
  have x5 : Tx (fun _ => False) T T5 := by rw [y5]; exact Tx_new _ hq0
  have n5 : n20 T T5 := by rw [y5]; exact n20_new (by decide)
  have tq : tg T5 q = 12 := by rw [y5]; exact new_tg _ _ _ _
  have lq : ln T5 q = R.1 25 0 + 1 := by rw [y5]; exact new_ln _ _ _ _
  have zq : ∀ i, fi T5 q i = 0 := fun i => by rw [y5]; exact new_fi _ _ _ _ _
  have sc : ∀ {T6}, Tw (fun a => a = q) T5 T6 → Tx (scr qs) T T6 := fun g => Tx_mono (Tx_fresh x5 hq0 g) (fun a f => f.elim)
  have out : ∀ (n e : Nat) (T6 : CS), R.1 25 0 + 1 - e < n → 1 ≤ e → e ≤ R.1 25 0 + 1 → Tw (fun a => a = q) T5 T6 → (∀ i, (fi T6 q i = 0 ∨ fi T6 q i = 1) ∧ (fi T6 q i ≠ 0 ↔ 1 ≤ i ∧ i < e ∧ ∃ x, x ∈ ns ∧ aS R i day ent ∧ aIh R i x = true)) → wp_BRg_burdensOf_16 post n (mc - 1) (ms - (R.1 25 0 + 1)) (qa qs 22) na day ent q e T6 := by
    intro n
    induction n with
    | zero => intro e T6 hm; omega
    | succ n ih =>
      intro e T6 hm e1 e2 g6 I6
      have h6 := h.tx hq hl (sc g6)
      have A6 := h6.2.2.2.1.2.2
      unfold wp_BRg_burdensOf_16
      refine ⟨h6.1.tag (by omega) rfl, qa qs 25, h6.1.ref (i := 22) (by omega) rfl (by omega), A6.1, A6.1, ?_⟩
      rw [A6.2.1]
      refine ⟨by unfold inR; omega, by unfold inR; omega, fun c => ?_, fun c => ?_⟩
      · have ee : e = R.1 25 0 + 1 := by omega
        refine hp T6 q hq0 (Tx_fresh x5 hq0 g6) (n20_trans n5 (n20_tw g6)) (by rw [g6.1]; exact tq) (by rw [g6.2.1]; exact lq) (fun i => (I6 i).1) (fun e' a b => ?_)
        rw [(I6 e').2]
        exact ⟨fun r => r.2.2, fun r => ⟨a, by omega, r⟩⟩
      · have hn6 : nsAt T6 na ns := hn.tx (Tx_fresh x5 hq0 g6) (fun r => r)
        refine ⟨hn6.1, fun v7 e7 => ⟨ns.length + 1, ?_⟩⟩
        rw [e7, hn6.2.1]
        have inn : ∀ (m j : Nat) (T7 : CS), ns.length - j < m → j ≤ ns.length → Tw (fun a => a = q) T5 T7 → (∀ i, (fi T7 q i = 0 ∨ fi T7 q i = 1) ∧ (fi T7 q i ≠ 0 ↔ (1 ≤ i ∧ i < e ∧ ∃ x, x ∈ ns ∧ aS R i day ent ∧ aIh R i x = true) ∨ (i = e ∧ ∃ x, x ∈ ns.take j ∧ aS R i day ent ∧ aIh R i x = true))) → wp_BRg_burdensOf_39 post (wp_BRg_burdensOf_16 post n) m (mc - 1) (ms - (R.1 25 0 + 1)) (qa qs 22) na day ent q e na (ns.length : Int) (j : Int) T7 := by
          intro m
          induction m with
          | zero => intro j T7 hm2; omega
          | succ m ih2 =>
            intro j T7 hm2 j1 g7 I7
            have h7 := h.tx hq hl (sc g7)
            have hn7 : nsAt T7 na ns := hn.tx (Tx_fresh x5 hq0 g7) (fun r => r)
            have nl := hn7.2.2.1
            unfold wp_BRg_burdensOf_39
            refine ⟨by unfold inR; omega, by unfold inR; omega, fun c2 => ?_, fun c2 => ⟨hn7.1, ⟨by omega, by rw [hn7.2.1]; omega⟩, fun v9 e9 => ⟨h7.1.tag (by omega) rfl, ?_⟩⟩⟩
            · have ej : j = ns.length := by omega
              subst ej
              rw [List.take_length] at I7
              have := ih (e + 1) T7 (by omega) (by omega) (by omega) g7 (fun i => ⟨(I7 i).1, by
                rw [(I7 i).2]
                constructor
                · rintro (r | r)
                  · exact ⟨r.1, by omega, r.2.2⟩
                  · exact ⟨by omega, by omega, r.2⟩
                · intro r
                  by_cases ci : i = e
                  · exact Or.inr ⟨ci, r.2.2⟩
                  · exact Or.inl ⟨r.1, by omega, r.2.2⟩⟩)
              rw [show (e : Int) + 1 = ((e + 1 : Nat) : Int) by omega]
              exact this
            · have hj : j < ns.length := by omega
              have ex : ns.getD j 0 = ns[j] := by simp [hj]
              have hx := hns _ (List.getElem_mem hj)
              rw [Int.toNat_natCast, hn7.2.2.2.2 j hj, ex] at e9
              rw [e9]
              have tk : ∀ x, x ∈ ns.take (j + 1) ↔ x ∈ ns.take j ∨ x = ns[j] := by
                intro x
                rw [List.take_succ_eq_append_getElem hj, List.mem_append, List.mem_singleton]
              have nxt : ∀ T8, Tw (fun a => a = q) T5 T8 → (∀ i, (fi T8 q i = 0 ∨ fi T8 q i = 1) ∧ (fi T8 q i ≠ 0 ↔ (1 ≤ i ∧ i < e ∧ ∃ x, x ∈ ns ∧ aS R i day ent ∧ aIh R i x = true) ∨ (i = e ∧ ∃ x, x ∈ ns.take (j + 1) ∧ aS R i day ent ∧ aIh R i x = true))) → wp_BRg_burdensOf_72 post (wp_BRg_burdensOf_16 post n) (wp_BRg_burdensOf_39 post (wp_BRg_burdensOf_16 post n) m) (mc - 1) (ms - (R.1 25 0 + 1)) (qa qs 22) na day ent q e na (ns.length : Int) (j : Int) T8 := by
                intro T8 g8 I8
                have := ih2 (j + 1) T8 (by omega) (by omega) g8 I8
                unfold wp_BRg_burdensOf_72
                rw [show (j : Int) + 1 = ((j + 1 : Nat) : Int) by omega]
                exact this
              refine sp_B_isBurdened h7 w hx.1 hx.2 e1 (by omega) hd he (fun s1 s2 => ⟨inR_lit1, fun f => absurd f (by decide), fun _ => ⟨by rw [g7.1]; exact tq, ⟨by omega, by rw [g7.2.1, lq]; omega⟩, Or.inr rfl, fun T8 y8 => nxt T8 (Tw_trans g7 (by rw [y8]; exact Tw_i rfl)) (fun i => ?_)⟩⟩) (fun s => ⟨inR_lit0, fun _ => nxt T7 g7 (fun i => ⟨(I7 i).1, ?_⟩), fun f => absurd rfl f⟩)
              · rw [y8, cs_i_fi, Int.toNat_natCast]
                by_cases ci : i = e
                · rw [if_pos ⟨rfl, ci⟩]
                  refine ⟨Or.inr rfl, ⟨fun _ => Or.inr ⟨ci, ns[j], (tk _).mpr (Or.inr rfl), by rw [ci]; exact s1, by rw [ci]; exact s2⟩, fun _ => by decide⟩⟩
                · rw [if_neg (fun r => ci r.2)]
                  refine ⟨(I7 i).1, ?_⟩
                  rw [(I7 i).2]
                  constructor
                  · rintro (r | r)
                    · exact Or.inl r
                    · exact absurd r.1 ci
                  · rintro (r | r)
                    · exact Or.inl r
                    · exact absurd r.1 ci
              · rw [(I7 i).2]
                constructor
                · rintro (r | ⟨r1, x, r2, r3⟩)
                  · exact Or.inl r
                  · exact Or.inr ⟨r1, x, (tk x).mpr (Or.inl r2), r3⟩
                · rintro (r | ⟨r1, x, r2, r3⟩)
                  · exact Or.inl r
                  · rcases (tk x).mp r2 with r4 | r4
                    · exact Or.inr ⟨r1, x, r4, r3⟩
                    · exfalso
                      rw [r1, r4] at r3
                      exact s r3
        refine inn _ 0 T6 (by omega) (by omega) g6 (fun i => ⟨(I6 i).1, ?_⟩)
        rw [(I6 i).2]
        constructor
        · exact Or.inl
        · rintro (r | ⟨_, x, r, _⟩)
          · exact r
          · rw [List.take_zero] at r; exact absurd r List.not_mem_nil
  exact out _ 1 T5 (by omega) (by omega) (by omega) (Tw_refl _ _) (fun i => ⟨Or.inl (zq i), by rw [zq]; exact ⟨fun f => absurd rfl f, fun r => by omega⟩⟩)
theorem sp_B_lotsBurdened {post : Nat → CS → Prop} (hq : qs.Nodup) (hl : qs.length = 30) (h : BK qs ad T R) (w : WR R) {e mc ms : Nat} {day : Int} (e1 : 1 ≤ e) (e2 : e ≤ R.1 25 0) (hd : inR day) (hmc : 2 ≤ mc) (hms : 2 * R.1 7 0 ≤ ms)
    (hp : ∀ T' q ns, tg T q = 0 → Tx (fun _ => False) T T' → n20 T T' → nsAt T' q ns → (∀ x, x ∈ ns ↔ 1 ≤ x ∧ x ≤ R.1 7 0 ∧ aBu R e x day (R.1 15 0)) → post q T') : wp_BRg_lotsBurdened post mc ms (qa qs 22) e day T := by
  have t22 := h.1.tag (i := 22) (t := 5) (by omega) rfl
  have f22 := h.1.ref (i := 22) (j := 1) (z := 24) (by omega) rfl (by omega)
  have wL := w.1.1
  have wD := w.1.2.1
  have A := h.2.2.2.1.2.1
  unfold wp_BRg_lotsBurdened
  refine ⟨t22, qa qs 24, f22, A.1, A.1, ?_⟩
  rw [A.2.1]
  dsimp only
  rw [Int.toNat_natCast]
  refine ⟨⟨by omega, by omega⟩, mc - 1, ms - R.1 7 0, ⟨by omega, by omega⟩, fun q T5 hq0 y5 => ⟨R.1 7 0 + 2, ?_⟩⟩
  have x5 : Tx (fun _ => False) T T5 := by rw [y5]; exact Tx_new _ hq0
  have n5 : n20 T T5 := by rw [y5]; exact n20_new (by decide)
  have tq : tg T5 q = 11 := by rw [y5]; exact new_tg _ _ _ _
  have lq : ln T5 q = R.1 7 0 := by rw [y5]; exact new_ln _ _ _ _
  have sc : ∀ {T6}, Tw (fun a => a = q) T5 T6 → Tx (scr qs) T T6 := fun g => Tx_mono (Tx_fresh x5 hq0 g) (fun a f => f.elim)
  have out : ∀ (n l : Nat) (ns : List Nat) (T6 : CS), R.1 7 0 + 1 - l < n → 1 ≤ l → l ≤ R.1 7 0 + 1 → ns.length < l → Tw (fun a => a = q) T5 T6 → (∀ i, i < ns.length → fi T6 q i = ((ns.getD i 0 : Nat) : Int)) → (∀ x, x ∈ ns ↔ 1 ≤ x ∧ x < l ∧ aBu R e x day (R.1 15 0)) → wp_BRg_lotsBurdened_16 post n (mc - 1) (ms - R.1 7 0) (qa qs 22) e day q (ns.length : Int) l T6 := by
    intro n
    induction n with
    | zero => intro l ns T6 hm; omega
    | succ n ih =>
      intro l ns T6 hm l1 l2 hnl g6 V6 M6
      have h6 := h.tx hq hl (sc g6)
      have A6 := h6.2.2.2.1.2.1
      have t6 : tg T6 q = 11 := by rw [g6.1]; exact tq
      have ln6 : ln T6 q = R.1 7 0 := by rw [g6.2.1]; exact lq
      unfold wp_BRg_lotsBurdened_16
      refine ⟨h6.1.tag (by omega) rfl, qa qs 24, h6.1.ref (i := 22) (by omega) rfl (by omega), A6.1, A6.1, ?_⟩
      rw [A6.2.1]
      refine ⟨by unfold inR; omega, by unfold inR; omega, fun c => ?_, fun c => ⟨h6.1.tag (by omega) rfl, ?_⟩⟩
      · have el : l = R.1 7 0 + 1 := by omega
        refine ⟨mc - 1, ms - R.1 7 0, 0, 0, ⟨by omega, by omega⟩, ?_⟩
        have x6 := Tx_fresh x5 hq0 g6
        have nn6 := n20_trans n5 (n20_tw g6)
        have bd : ∀ x ∈ ns, x ≤ 300 := fun x hx => by have := (M6 x).mp hx; omega
        have M7 : ∀ x, x ∈ ns ↔ 1 ≤ x ∧ x ≤ R.1 7 0 ∧ aBu R e x day (R.1 15 0) := fun x => by
          rw [M6 x, el]
          exact ⟨fun r => ⟨r.1, by omega, r.2.2⟩, fun r => ⟨r.1, by omega, r.2.2⟩⟩
        unfold wp_BAr_copyOfI
        refine ⟨t6, by unfold inR; omega, by unfold inR; omega, fun d => ?_, fun d => ⟨t6, mc - 1 - 1, ms - R.1 7 0 - ln T6 q, ⟨by omega, by omega⟩, fun r T8 hr y8 => ?_⟩⟩
        · rw [Int.toNat_natCast]
          refine ⟨⟨by omega, by omega⟩, mc - 1 - 1, ms - R.1 7 0 - ns.length, ⟨by omega, by omega⟩, fun r T8 hr y8 => ?_⟩
          have x8 : Tx (fun _ => False) T6 T8 := by rw [y8]; exact Tx_new _ hr
          have uq := x8 q (by omega)
          have tr : tg T8 r = 11 := by rw [y8]; exact new_tg _ _ _ _
          have lr : ln T8 r = ns.length := by rw [y8]; exact new_ln _ _ _ _
          refine ⟨by rw [uq.1]; exact t6, ?_⟩
          rw [uq.2.1, ln6]
          refine sp_BMa_min (by unfold inR; omega) (by unfold inR; omega) ?_
          rw [show min (R.1 7 0 : Int) (ns.length : Int) = (ns.length : Int) by omega, lr, Int.toNat_natCast]
          refine ⟨tr, by rw [uq.1]; exact t6, ⟨⟨by omega, by omega, by omega⟩, by omega, by omega⟩, fun T9 y9 => ?_⟩
          have hr0 : tg T r = 0 := Classical.byContradiction fun f => f (by rw [← (x6 r f).1]; exact hr)
          have g9 : Tw (fun a => a = r) T8 T9 := by
            refine ⟨fun a => by rw [y9]; rfl, fun a => by rw [y9]; rfl, fun a => by rw [y9]; rfl, fun a ha => ?_⟩
            rw [y9]; funext i
            show (if a = r then _ else fi T8 a i) = fi T8 a i
            rw [if_neg ha]
          refine hp T9 r ns hr0 (Tx_fresh (Tx_trans x6 x8) hr0 g9) (n20_trans nn6 (n20_trans (by rw [y8]; exact n20_new (by decide)) (n20_tw g9))) ⟨by rw [g9.1]; exact tr, by rw [g9.2.1]; exact lr, by omega, bd, fun i hi => ?_⟩ M7
          rw [y9]
          show (if r = r then va_cpy (fi T8 q) (fi T8 r) 0 0 ns.length i else fi T8 r i) = _
          rw [if_pos rfl, cpy_in hi, uq.2.2.2 (fun f => f)]; exact V6 i hi
        · have x8 : Tx (fun _ => False) T6 T8 := by rw [y8]; exact Tx_cl _ hr
          have hr0 : tg T r = 0 := Classical.byContradiction fun f => f (by rw [← (x6 r f).1]; exact hr)
          have tr : tg T8 r = 11 := by rw [y8]; exact if_pos rfl
          have lr : ln T8 r = ns.length := by rw [y8]; show (if r = r then ln T6 q else _) = _; rw [if_pos rfl]; omega
          refine ⟨tr, hp T8 r ns hr0 (Tx_trans x6 x8) (n20_trans nn6 ?_) ⟨tr, lr, by omega, bd, fun i hi => ?_⟩ M7⟩
          · intro a ha
            by_cases ca : a = r
            · rw [ca, tr] at ha; omega
            · rw [y8] at ha
              have : tg (cs_cl T6 r q) a = tg T6 a := if_neg ca
              rw [this] at ha; exact ha
          · rw [y8]; show (if r = r then fi T6 q i else _) = _; rw [if_pos rfl]; exact V6 i hi
      · have l3 : l ≤ R.1 7 0 := by omega
        have skip : ¬ aBu R e l day (R.1 15 0) → wp_BRg_lotsBurdened_66 post (wp_BRg_lotsBurdened_16 post n) (mc - 1) (ms - R.1 7 0) (qa qs 22) e day q (ns.length : Int) l T6 := by
          intro nb
          have := ih (l + 1) ns T6 (by omega) (by omega) (by omega) (by omega) g6 V6 (fun x => by
            rw [M6 x]
            constructor
            · exact fun r => ⟨r.1, by omega, r.2.2⟩
            · intro r
              have : x ≠ l := fun f => nb (by rw [← f]; exact r.2.2)
              exact ⟨r.1, by omega, r.2.2⟩)
          unfold wp_BRg_lotsBurdened_66
          rw [show (l : Int) + 1 = ((l + 1 : Nat) : Int) by omega]
          exact this
        refine sp_B_lastEntry h6 ⟨h6.1.tag (by omega) rfl, ?_⟩
        refine sp_B_isInBeing h6 w l1 l3 hd (by unfold inR; omega) (fun b1 => ⟨inR_lit1, fun f => absurd f (by decide), fun _ => ⟨h6.1.tag (by omega) rfl, ?_⟩⟩) (fun b0 => ⟨inR_lit0, fun _ => skip (fun f => b0 f.2.2), fun f => absurd rfl f⟩)
        refine sp_B_lastEntry h6 ⟨h6.1.tag (by omega) rfl, ?_⟩
        refine sp_B_isBurdened h6 w l1 l3 e1 e2 hd (by unfold inR; omega) (fun s1 s2 => ⟨inR_lit1, fun f => absurd f (by decide), fun _ => ⟨t6, ⟨by omega, by rw [ln6]; omega⟩, fun T8 y8 => ?_⟩⟩) (fun s => ⟨inR_lit0, fun _ => skip (fun f => s ⟨f.2.1, f.1⟩), fun f => absurd rfl f⟩)
        rw [Int.toNat_natCast] at y8
        have := ih (l + 1) (ns ++ [l]) T8 (by omega) (by omega) (by omega) (by simp; omega) (Tw_trans g6 (by rw [y8]; exact Tw_i rfl)) (fun i hi => by
            rw [y8, cs_i_fi]
            by_cases ci : i = ns.length
            · rw [if_pos ⟨rfl, ci⟩, ci]; simp [List.getD_eq_getElem?_getD]
            · rw [if_neg (fun r => ci r.2)]
              have hi2 : i < ns.length := by simp at hi; omega
              rw [V6 i hi2]
              simp [List.getD_eq_getElem?_getD, List.getElem?_append_left hi2]) (fun x => by
            rw [List.mem_append, List.mem_singleton, M6 x]
            constructor
            · rintro (r | r)
              · exact ⟨r.1, by omega, r.2.2⟩
              · rw [r]; exact ⟨l1, by omega, s2, s1, b1⟩
            · intro r
              by_cases cx : x = l
              · exact Or.inr cx
              · exact Or.inl ⟨r.1, by omega, r.2.2⟩)
        unfold wp_BRg_lotsBurdened_66
        rw [show (l : Int) + 1 = ((l + 1 : Nat) : Int) by omega, show (ns.length : Int) + 1 = ((ns ++ [l]).length : Int) by simp]
        exact this
  exact out _ 1 [] T5 (by omega) (by omega) (by omega) (by simp) (Tw_refl _ _) (fun i hi => absurd hi (Nat.not_lt_zero _)) (fun x => ⟨fun f => absurd f List.not_mem_nil, fun r => by omega⟩)
end BOF
