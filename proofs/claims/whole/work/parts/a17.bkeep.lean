/-! Rings.keep, where, sideOf, haveLineInCommon -/
theorem ig_turn_sym (a b d : PT) : ig_turn a b d = 0 ↔ ig_turn d b a = 0 := by
  have : ig_turn a b d = - ig_turn d b a := by unfold ig_turn; grind
  omega
theorem ig_least_not {C : List PT} (h : gx_simple (rgn C)) (h0 : C ≠ []) (hok : ∀ p ∈ C, ig_ok p) (hl : ∀ p ∈ C, ig_pk (ig_at C 0) ≤ ig_pk p) : ¬ ig_cst C 0 := by
  intro hs
  have h3 := rgn_three h h0
  have ok := ig_at_ok hok h0
  match C, h0 with
  | b :: r, _ =>
    have hr : r ≠ [] := by intro f; rw [f] at h3; simp at h3
    have e1 := lastD_at b r
    have e2 := headD_at b r
    have e0 : ig_at (b :: r) 0 = b := by simp [ig_at]
    have hs' : ig_turn (r.getLastD b) b (r.headD b) = 0 := by
      rw [e1, e2]
      have hs := hs
      unfold ig_cst at hs
      rw [e0] at hs
      rw [show 0 + (b :: r).length - 1 = r.length by simp] at hs
      exact hs
    obtain ⟨⟨t, t0, t1, hb⟩, _⟩ := rgn_drop h hr hs'
    have hon : gx_on (ig_c (r.getLastD b)) (ig_c (r.headD b)) (ig_c b) := ⟨t, Rat.le_of_lt t0, Rat.le_of_lt t1, hb.symm⟩
    have nd := rgn_nodup h
    rw [List.nodup_cons] at nd
    have lt : ∀ p ∈ r, gx_lt (ig_c b) (ig_c p) := by
      intro p hp
      have o1 : ig_ok b := hok b (by simp)
      have o2 : ig_ok p := hok p (by simp [hp])
      rw [ig_lt_c o1 o2]
      have := hl p (by simp [hp])
      rw [e0] at this
      have hne : ig_pk b ≠ ig_pk p := fun f => nd.1 (by rw [(ig_pk_inj o1 o2).mp f]; exact hp)
      omega
    refine (gx_lt_on hon).1 ⟨lt _ ?_, lt _ ?_⟩
    · rw [List.getLastD_eq_getLast?, List.getLast?_eq_some_getLast hr]; exact List.getLast_mem hr
    · cases r with
      | nil => exact absurd rfl hr
      | cons c r => simp
section KEP
variable {T : CS} {a b cap a' b' cap' : Nat} {l : List PT}
theorem sp_B_keep {post : CS → Prop} (h : ptsAt T a b l cap) (hk : spt T a' b' cap') (haa : a ≠ a') (hbb : b ≠ b') (h0 : l ≠ []) (hok : ∀ p ∈ l, ig_ok p) (hs : gx_simple (rgn l)) (hc : l.length ≤ cap') (hln : l.length ≤ 400) (hp : ∀ T' K, Tw (pab a' b') T T' → ptsAt T' a' b' K cap' → ig_kept l K → post T') : wp_BRi_keep post a a' T := by
  have ok := ig_at_ok hok h0
  have hn : 0 < l.length := List.length_pos_iff.mpr h0
  have hcc := h.2.2.2.2.2.1
  have bd := ig_area_bd hok h0 hln
  have na : ¬ pab a' b' a := by
    rintro (f | f)
    · exact haa f
    · have := h.1; rw [f] at this; have := hk.2.2.1; omega
  have nb : ¬ pab a' b' b := by
    rintro (f | f)
    · have := h.2.2.1; rw [f] at this; have := hk.1; omega
    · exact hbb f
  -- behind the least corner
  have k47 : ∀ (f : Nat) (up : Bool), f < l.length → (∀ k, k < l.length → ig_pk (ig_at l f) ≤ ig_pk (ig_at l k)) → (up = true ↔ 0 < ig_area l) → wp_BRi_keep_47 post a a' f (if up then 1 else -1) T := by
    intro f up hf hmin hup
    obtain ⟨C, c1, c2, c3, c4⟩ := ig_go_rote h0 f up
    have hor : ig_or l = if up then l else l.reverse := by
      unfold ig_or
      cases up with
      | true => rw [if_pos (hup.mp rfl)]; rfl
      | false => rw [if_neg (fun q => absurd (hup.mpr q) (by decide))]; rfl
    rw [← hor] at c1
    have cs : gx_simple (rgn C) := by
      refine rote_simple c1 ?_
      rw [hor]
      cases up with
      | true => exact hs
      | false => exact rgn_rev.1 hs
    have cm : ∀ p ∈ C, p ∈ l := fun p hp => (ig_or_mem p).mp ((rote_mem c1 p).mp hp)
    have C0 : C ≠ [] := by intro q; rw [q] at c2; simp at c2; omega
    have okC := ig_at_ok (fun p hp => hok p (cm p hp)) C0
    have e0 : ig_at C 0 = ig_at l f := by
      rw [c3 0 (by omega)]
      unfold ig_go; simp only [Int.natCast_zero, Int.zero_mul, Int.add_zero]
      exact ig_atI_nat l f
    have hleast : ∀ p ∈ C, ig_pk (ig_at C 0) ≤ ig_pk p := by
      intro p hp
      obtain ⟨i, hi, e⟩ := ig_mem_at (cm p hp)
      rw [e0, ← e]; exact hmin i hi
    have hns := ig_least_not cs C0 (fun p hp => hok p (cm p hp)) hleast
    have hflt := ig_flt_ix C
    have hrange : List.range C.length = List.range l.length := by rw [c2]
    rw [hrange] at hflt
    have hkept : ig_kept l (ig_flt C) := by
      refine ⟨rote_flt c1, fun p hp => ?_⟩
      have hh : ig_at (ig_flt C) 0 = ig_at C 0 := by
        obtain ⟨n', hn'⟩ : ∃ n', l.length = n' + 1 := ⟨l.length - 1, by omega⟩
        rw [hflt, hn', List.range_succ_eq_map, List.filterMap_cons, if_neg hns]
        simp [ig_at]
      rw [hh]
      exact hleast p ((ig_flt_sub C).subset hp)
    have loop : ∀ (n k : Nat) (T1 : CS), l.length - k < n → k ≤ l.length → Tw (pab a' b') T T1 → ptsAt T1 a' b' ((List.range k).filterMap (fun i => if ig_cst C i then none else some (ig_at C i))) cap' → wp_BRi_keep_55 post n a a' f (if up then 1 else -1) k T1 := by
      intro n
      induction n with
      | zero => intro k T1 hn; omega
      | succ n ih =>
        intro k T1 hm hkl f1 g1
        have h1 := h.tw f1 na nb
        have e1 : (k : Int) + 1 = ((k + 1 : Nat) : Int) := by omega
        unfold wp_BRi_keep_55
        rw [h1.sz]
        refine ⟨h1.1, by unfold inR; omega, by unfold inR; omega, fun c => ?_, fun c v5 e5 => ?_⟩
        · have ek : k = l.length := by omega
          subst ek
          rw [← hflt] at g1
          exact hp T1 _ f1 g1 hkept
        · have hkl' : k < l.length := by omega
          have x0 : ig_atI l v5 = ig_at C k := by rw [e5, c3 k (by omega)]; rfl
          have hin : inR v5 ∧ inR (v5 - 1) ∧ inR (v5 + 1) := by
            rw [e5]; cases up <;> simp [inR] <;> omega
          -- the neighbours
          have nbr : (ig_turn (ig_atI l (v5 - 1)) (ig_atI l v5) (ig_atI l (v5 + 1)) = 0 ↔ ig_cst C k) ∧ ig_ok (ig_atI l (v5 - 1)) ∧ ig_ok (ig_atI l (v5 + 1)) := by
            unfold ig_cst
            rw [c2, x0]
            have y1 := c4 k hkl'
            have y2 := c3 (k + 1) (by omega)
            unfold ig_go at y2
            cases up with
            | true =>
              have z1 : ig_atI l (v5 - 1) = ig_at C (k + l.length - 1) := by rw [y1, e5]; exact congrArg (ig_atI l) (by simp <;> omega)
              have z2 : ig_atI l (v5 + 1) = ig_at C (k + 1) := by rw [y2, e5]; exact congrArg (ig_atI l) (by simp <;> omega)
              rw [z1, z2]
              exact ⟨Iff.rfl, okC _, okC _⟩
            | false =>
              have z1 : ig_atI l (v5 - 1) = ig_at C (k + 1) := by rw [y2, e5]; exact congrArg (ig_atI l) (by simp <;> omega)
              have z2 : ig_atI l (v5 + 1) = ig_at C (k + l.length - 1) := by rw [y1, e5]; exact congrArg (ig_atI l) (by simp <;> omega)
              rw [z1, z2]
              exact ⟨ig_turn_sym _ _ _, okC _, okC _⟩
          have nx : ∀ (T2 : CS), Tw (pab a' b') T T2 → ptsAt T2 a' b' ((List.range (k + 1)).filterMap (fun i => if ig_cst C i then none else some (ig_at C i))) cap' → wp_BRi_keep_110 post (wp_BRi_keep_55 post n) a a' f (if up then 1 else -1) k T2 := by
            intro T2 f2 g2
            unfold wp_BRi_keep_110
            rw [e1]
            exact ih (k + 1) T2 (by omega) (by omega) f2 g2
          have okx : ig_ok (ig_atI l v5) := by rw [x0]; exact okC k
          refine ⟨h1.1, sp_BPt_at h1 h0 hin.2.1 ⟨h1.1, sp_BPt_at h1 h0 hin.1 ⟨h1.1, sp_BPt_at h1 h0 hin.2.2 (sp_BPl_turn nbr.2.1 okx nbr.2.2 ⟨sgI_in _, fun c1 => nx T1 f1 ?_, fun c1 => ⟨h1.1, sp_BPt_at h1 h0 hin.1 ⟨g1.1, ?_⟩⟩⟩)⟩⟩⟩
          · have hst := nbr.1.mp (sgI_0.mp c1)
            rw [List.range_succ, List.filterMap_append]
            simp only [List.filterMap_cons, List.filterMap_nil, if_pos hst, List.append_nil]
            exact g1
          · have hst : ¬ ig_cst C k := fun q => c1 (sgI_0.mpr (nbr.1.mpr q))
            have hlen : ((List.range k).filterMap (fun i => if ig_cst C i then none else some (ig_at C i))).length ≤ k := by
              have := List.length_filterMap_le (fun i => if ig_cst C i then none else some (ig_at C i)) (List.range k)
              simpa using this
            rw [x0]
            refine sp_add g1 (by omega) (fun T2 f2 g2 => nx T2 (Tw_trans f1 f2) ?_)
            rw [List.range_succ, List.filterMap_append]
            simp only [List.filterMap_cons, List.filterMap_nil, if_neg hst]
            exact g2
    unfold wp_BRi_keep_47
    refine ⟨hk.1, sp_clear hk (fun T1 f1 g1 => ⟨l.length + 1, loop _ 0 T1 (by omega) (by omega) f1 g1⟩)⟩
  have loop : ∀ (n k f : Nat), l.length - k < n → 1 ≤ k → k ≤ l.length → f < k → (∀ k', k' < k → ig_pk (ig_at l f) ≤ ig_pk (ig_at l k')) → wp_BRi_keep_4 post n a a' f k T := by
    intro n
    induction n with
    | zero => intro k f hm; omega
    | succ n ih =>
      intro k f hm k1 hkl hf hmin
      have e1 : (k : Int) + 1 = ((k + 1 : Nat) : Int) := by omega
      unfold wp_BRi_keep_4 wp_BRi_keep_27
      rw [h.sz, e1]
      refine ⟨h.1, by unfold inR; omega, by unfold inR; omega, fun c => ?_, fun c => ?_⟩
      · refine sp_B_twiceArea h h0 hok ⟨by unfold inL; omega, fun d => ?_, fun d => ?_⟩
        · exact k47 f false (by omega) (fun k' hk' => hmin k' (by omega)) ⟨fun q => absurd q (by decide), fun q => by omega⟩
        · exact k47 f true (by omega) (fun k' hk' => hmin k' (by omega)) ⟨fun _ => by omega, fun _ => rfl⟩
      · refine ⟨h.1, sp_at_nat h h0 (by omega) ⟨h.1, sp_at_nat h h0 (by omega) ⟨pkd_R (ok k), pkd_R (ok f), fun d => ih (k + 1) f (by omega) (by omega) (by omega) (by omega) (fun k' hk' => ?_), fun d => ih (k + 1) k (by omega) (by omega) (by omega) (by omega) (fun k' hk' => ?_)⟩⟩⟩
        · by_cases q : k' = k
          · rw [q]; exact d
          · exact hmin k' (by omega)
        · by_cases q : k' = k
          · rw [q]; omega
          · have := hmin k' (by omega); omega
  unfold wp_BRi_keep
  exact ⟨l.length + 1, loop _ 1 0 (by omega) (by omega) (by omega) (by omega) (fun k' hk' => by rw [show k' = 0 by omega]; omega)⟩
theorem sp_B_isBetween {post : Int → Prop} {x v y : Int} (hx : inR x) (hv : inR v) (hy : inR y) (p1 : min x y ≤ v ∧ v ≤ max x y → post 1) (p0 : ¬ (min x y ≤ v ∧ v ≤ max x y) → post 0) : wp_BRi_isBetween post x v y := by
  unfold wp_BRi_isBetween
  have h1 := hx
  have h2 := hy
  unfold inR at h1 h2
  refine sp_BMa_min hx hy ⟨hv, by unfold inR; omega, fun c => p0 (by omega), fun c => sp_BMa_max hx hy ⟨hv, by unfold inR; omega, fun c2 => p0 (by omega), fun c2 => p1 (by omega)⟩⟩
theorem sp_B_where {post : Int → CS → Prop} (h : ptsAt T a b l cap) (h0 : l ≠ []) (hok : ∀ p ∈ l, ig_ok p) {z : PT} (hz : (0 ≤ z.1 ∧ z.1 ≤ 40000) ∧ 0 ≤ z.2 ∧ z.2 ≤ 40000) (po : igd_onR l z → post 0 T) (pi : igd_in l z → post 1 T) (px : ¬ igd_onR l z → ¬ igd_in l z → post (-1) T) : wp_BRi_where post a z.1 z.2 T := by
  have ok := ig_at_ok hok h0
  have hcc := h.2.2.2.2.2.1
  have loop : ∀ (n k : Nat), l.length - k < n → k ≤ l.length → (∀ i, i < k → ¬ igd_on (ig_at l i) (ig_at l (i + 1)) z) → wp_BRi_where_5 post n a z.1 z.2 (bI (igd_par l z k)) k T := by
    intro n
    induction n with
    | zero => intro k hn; omega
    | succ n ih =>
      intro k hn hk hno
      have e1 : (k : Int) + 1 = ((k + 1 : Nat) : Int) := by omega
      unfold wp_BRi_where_5
      rw [h.sz, e1]
      refine ⟨h.1, by unfold inR; omega, by unfold inR; omega, fun c => ?_, fun c => ?_⟩
      · have ek : k = l.length := by omega
        subst ek
        have hon : ¬ igd_onR l z := fun ⟨i, a, b⟩ => hno i a b
        exact ⟨bI_in _, fun d => px hon (fun f => by have := f.2; rw [bI_0.mp d] at this; cases this), fun d => pi ⟨hon, bI_ne.mp d⟩⟩
      · have oa := ok k
        have ob := ok (k + 1)
        have hb := igd_bd oa ob hz
        refine ⟨h.1, sp_at_nat h h0 (by omega) (sp_BPl_xOf oa (fun v5 e5 => ⟨h.1, sp_at_nat h h0 (by omega) (sp_BPl_yOf oa (fun v6 e6 => ⟨h.1, sp_at_nat h h0 (by omega) (sp_BPl_xOf ob (fun v7 e7 => ⟨h.1, sp_at_nat h h0 (by omega) (sp_BPl_yOf ob (fun v8 e8 => ?_))⟩))⟩))⟩))⟩
        unfold ig_ok at oa ob
        refine ⟨by unfold inR; omega, by unfold inR; omega, by unfold inR; omega, by unfold inR; omega, fun v9 e9 => ?_⟩
        have e9' : v9 = igd_turn (ig_at l k) (ig_at l (k + 1)) z := by rw [e9, e5, e6, e7, e8]; rfl
        -- not on this side
        have go : ¬ igd_on (ig_at l k) (ig_at l (k + 1)) z → wp_BRi_where_128 post (wp_BRi_where_5 post n) a z.1 z.2 (bI (igd_par l z k)) k v6 v8 v9 T := by
          intro hon
          have nx := ih (k + 1) (by omega) (by omega) (fun i hi => by
            by_cases q : i = k
            · rw [q]; exact hon
            · exact hno i (by omega))
          have hcl := igd_cr_class hon
          rw [← e9'] at hcl
          have fin : ∀ c : Bool, (c = true ↔ (v8 ≤ z.2 ∧ z.2 < v6 ∧ v9 ≤ 0) ∨ (v6 ≤ z.2 ∧ z.2 < v8 ∧ 0 < v9)) → igd_cr (ig_at l k) (ig_at l (k + 1)) z = c := by
            intro c hc
            have : igd_cr (ig_at l k) (ig_at l (k + 1)) z = true ↔ c = true := by rw [hcl, hc, e6, e8]
            cases c with
            | true => exact this.mpr rfl
            | false =>
              cases q : igd_cr (ig_at l k) (ig_at l (k + 1)) z with
              | false => rfl
              | true => exact absurd (this.mp q) (by decide)
          have stay : ¬ ((v8 ≤ z.2 ∧ z.2 < v6 ∧ v9 ≤ 0) ∨ (v6 ≤ z.2 ∧ z.2 < v8 ∧ 0 < v9)) → wp_BRi_where_184 post (wp_BRi_where_5 post n) a z.1 z.2 (bI (igd_par l z k)) k T := by
            intro q
            have := fin false ⟨fun f => absurd f (by decide), fun f => absurd f q⟩
            unfold igd_par at nx
            rw [this, show (igd_par l z k != false) = igd_par l z k by cases igd_par l z k <;> rfl] at nx
            unfold wp_BRi_where_184
            rw [e1]; exact nx
          have flip : ((v8 ≤ z.2 ∧ z.2 < v6 ∧ v9 ≤ 0) ∨ (v6 ≤ z.2 ∧ z.2 < v8 ∧ 0 < v9)) → inR (bI (igd_par l z k)) ∧ (¬ (bI (igd_par l z k)) = 0 → wp_BRi_where_183 post (wp_BRi_where_5 post n) a z.1 z.2 k 0 T) ∧ ((bI (igd_par l z k)) = 0 → wp_BRi_where_183 post (wp_BRi_where_5 post n) a z.1 z.2 k 1 T) := by
            intro q
            have := fin true ⟨fun _ => q, fun _ => rfl⟩
            unfold igd_par at nx
            rw [this] at nx
            unfold wp_BRi_where_183 wp_BRi_where_184
            rw [e1]
            refine ⟨bI_in _, fun d => ?_, fun d => ?_⟩
            · rw [bI_ne.mp d] at nx; exact nx
            · rw [bI_0.mp d] at nx; exact nx
          have q6 : inR v6 := by unfold inR; omega
          have q8 : inR v8 := by unfold inR; omega
          have q2 : inR z.2 := by unfold inR; omega
          have q9 : inL v9 := by rw [e9']; unfold inL; omega
          unfold wp_BRi_where_128 wp_BRi_where_139 wp_BRi_where_154 wp_BRi_where_171
          refine ⟨q8, q2, fun d1 => ⟨q6, q2, fun d2 => ⟨inR_lit0, inR_lit0, fun _ => stay (by omega), fun q => absurd rfl q⟩, fun d2 => ⟨inR_lit0, inR_lit1, fun q => absurd q (by decide), fun _ => ⟨q9, fun d3 => ⟨inR_lit0, inR_lit0, fun q => absurd rfl q, fun _ => flip (by omega)⟩, fun d3 => ⟨inR_lit0, inR_lit1, fun _ => stay (by omega), fun q => absurd q (by decide)⟩⟩⟩⟩, fun d1 => ⟨q6, q2, fun d2 => ⟨inR_lit1, inR_lit0, fun q => absurd q (by decide), fun _ => ⟨q9, fun d3 => ⟨inR_lit1, inR_lit0, fun _ => stay (by omega), fun q => absurd q (by decide)⟩, fun d3 => ⟨inR_lit1, inR_lit1, fun q => absurd rfl q, fun _ => flip (by omega)⟩⟩⟩, fun d2 => ⟨inR_lit1, inR_lit1, fun _ => stay (by omega), fun q => absurd rfl q⟩⟩⟩
        refine ⟨by rw [e9']; unfold inL; omega, fun d => go (fun f => d (by rw [e9']; exact f.1)), fun d => ?_⟩
        refine sp_B_isBetween (by unfold inR; omega) (by unfold inR; omega) (by unfold inR; omega) (fun f1 => ⟨inR_lit1, fun q => absurd q (by decide), fun _ => sp_B_isBetween (by unfold inR; omega) (by unfold inR; omega) (by unfold inR; omega) (fun f2 => ⟨inR_lit1, fun q => absurd q (by decide), fun _ => po ⟨k, by omega, by rw [← e9']; exact d, ?_, ?_⟩⟩) (fun f2 => ⟨inR_lit0, fun _ => go (fun g => f2 ?_), fun q => absurd rfl q⟩)⟩) (fun f1 => ⟨inR_lit0, fun _ => go (fun g => f1 ?_), fun q => absurd rfl q⟩)
        · rw [← e5, ← e7]; exact f1
        · rw [← e6, ← e8]; exact f2
        · rw [e6, e8]; exact g.2.2
        · rw [e5, e7]; exact g.2.1
  exact ⟨l.length + 1, loop _ 0 (by omega) (by omega) (fun i hi => by omega)⟩
theorem sp_B_sideOf {post : Int → CS → Prop} (h : ptsAt T a b l cap) (h0 : l ≠ []) (hok : ∀ p ∈ l, ig_ok p) {p : PT} (hp : ig_ok p) (pf : ∀ i, i < l.length → ig_half l i p → post (i : Int) T) (pn : (∀ i, i < l.length → ¬ ig_half l i p) → post (-1) T) : wp_BRi_sideOf post a (ig_pk p) T := by
  have ok := ig_at_ok hok h0
  have hcc := h.2.2.2.2.2.1
  have loop : ∀ (n k : Nat), l.length - k < n → k ≤ l.length → (∀ i, i < k → ¬ ig_half l i p) → wp_BRi_sideOf_2 post n a (ig_pk p) k T := by
    intro n
    induction n with
    | zero => intro k hn; omega
    | succ n ih =>
      intro k hn hk hno
      have e1 : (k : Int) + 1 = ((k + 1 : Nat) : Int) := by omega
      have nx : ¬ ig_half l k p → k < l.length → wp_BRi_sideOf_42 post (wp_BRi_sideOf_2 post n) a (ig_pk p) k T := by
        intro q hkl
        unfold wp_BRi_sideOf_42
        rw [e1]
        refine ih (k + 1) (by omega) (by omega) (fun i hi => ?_)
        by_cases r : i = k
        · rw [r]; exact q
        · exact hno i (by omega)
      unfold wp_BRi_sideOf_2
      rw [h.sz, e1]
      refine ⟨h.1, by unfold inR; omega, by unfold inR; omega, fun c => pn (fun i hi => hno i (by omega)), fun c => ⟨h.1, sp_at_nat h h0 (by omega) ⟨pkd_R hp, pkd_R (ok _), fun d => nx (fun q => q.2 ((pkd_inj hp (ok _)).mp d)) (by omega), fun d => ⟨h.1, sp_at_nat h h0 (by omega) ⟨h.1, sp_at_nat h h0 (by omega) (sp_BPl_lies hp (ok _) (ok _) ⟨bI_in _, fun d2 => nx (fun q => ?_) (by omega), fun d2 => pf k (by omega) ⟨?_, fun q => d (by rw [q])⟩⟩)⟩⟩⟩⟩⟩
      · have := q.1
        rw [← ic_lies_eq hp (ok _) (ok _), bI_0.mp d2] at this
        cases this
      · rw [← ic_lies_eq hp (ok _) (ok _)]; exact bI_ne.mp d2
  exact ⟨l.length + 1, loop _ 0 (by omega) (by omega) (fun i hi => by omega)⟩
def ig_next (l m : List PT) : Prop := ∃ i j, i < l.length ∧ j < m.length ∧ ic_meeting (ig_at l i) (ig_at l (i + 1)) (ig_at m j) (ig_at m (j + 1)) = 2
theorem sp_B_haveLine {post : Int → CS → Prop} {m : List PT} (h : ptsAt T a b l cap) (g : ptsAt T a' b' m cap') (h0 : l ≠ []) (g0 : m ≠ []) (hl : ∀ p ∈ l, ig_ok p) (hm : ∀ p ∈ m, ig_ok p) (p1 : ig_next l m → post 1 T) (p0 : ¬ ig_next l m → post 0 T) : wp_BRi_haveLineInCommon post a a' T := by
  have okl := ig_at_ok hl h0
  have okm := ig_at_ok hm g0
  have c1 := h.2.2.2.2.2.1
  have c2 := g.2.2.2.2.2.1
  have inner : ∀ (k2 : Nat → Nat → Int → CS → Prop) (i : Nat), i < l.length → ((∀ j, j < m.length → ic_meeting (ig_at l i) (ig_at l (i + 1)) (ig_at m j) (ig_at m (j + 1)) ≠ 2) → k2 a a' ((i : Int) + 1) T) → ∀ (n j : Nat), m.length - j < n → j ≤ m.length → (∀ j', j' < j → ic_meeting (ig_at l i) (ig_at l (i + 1)) (ig_at m j') (ig_at m (j' + 1)) ≠ 2) → wp_BRi_haveLineInCommon_12 post k2 n a a' i j T := by
    intro k2 i hi hk n
    induction n with
    | zero => intro j hn; omega
    | succ n ih =>
      intro j hn hj hno
      have e1 : (j : Int) + 1 = ((j + 1 : Nat) : Int) := by omega
      have e2 : (i : Int) + 1 = ((i + 1 : Nat) : Int) := by omega
      unfold wp_BRi_haveLineInCommon_12
      rw [g.sz, e1, e2]
      rw [e2] at hk
      have m012 := ic_meeting_012 (ig_at l i) (ig_at l (i + 1)) (ig_at m j) (ig_at m (j + 1))
      refine ⟨g.1, by unfold inR; omega, by unfold inR; omega, fun c => hk (fun j' hj' => hno j' (by omega)), fun c => ⟨h.1, sp_at_nat h h0 (by omega) ⟨h.1, sp_at_nat h h0 (by omega) ⟨g.1, sp_at_nat g g0 (by omega) ⟨g.1, sp_at_nat g g0 (by omega) (sp_BPl_meeting (okl _) (okl _) (okm _) (okm _) ⟨by unfold inR; omega, fun d => ih (j + 1) (by omega) (by omega) (fun j' hj' => ?_), fun d => p1 ⟨i, j, hi, by omega, d⟩⟩)⟩⟩⟩⟩⟩
      by_cases q : j' = j
      · rw [q]; exact d
      · exact hno j' (by omega)
  have loop : ∀ (n i : Nat), l.length - i < n → i ≤ l.length → (∀ i' j, i' < i → j < m.length → ic_meeting (ig_at l i') (ig_at l (i' + 1)) (ig_at m j) (ig_at m (j + 1)) ≠ 2) → wp_BRi_haveLineInCommon_2 post n a a' i T := by
    intro n
    induction n with
    | zero => intro i hn; omega
    | succ n ih =>
      intro i hn hi hno
      have e2 : (i : Int) + 1 = ((i + 1 : Nat) : Int) := by omega
      unfold wp_BRi_haveLineInCommon_2
      rw [h.sz]
      refine ⟨h.1, by unfold inR; omega, by unfold inR; omega, fun c => p0 (fun ⟨i', j, q1, q2, q3⟩ => hno i' j (by omega) q2 q3), fun c => ⟨m.length + 1, inner _ i (by omega) (fun q => ?_) _ 0 (by omega) (by omega) (fun j' hj' => by omega)⟩⟩
      rw [e2]
      refine ih (i + 1) (by omega) (by omega) (fun i' j q1 q2 => ?_)
      by_cases r : i' = i
      · rw [r]; exact q j q2
      · exact hno i' j (by omega) q2
  exact ⟨l.length + 1, loop _ 0 (by omega) (by omega) (fun i' j q => by omega)⟩
end KEP
