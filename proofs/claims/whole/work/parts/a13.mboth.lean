/-! the reference: inB, isCommon, makeBoth -/
def mg_ok (L R : List PT) : Prop := cntN (fun k => mg_cs L R k && !mg_cs L R (k + L.length - 1)) L.length = 1 ∧ cntN (mg_cp L R) L.length = cntN (mg_cs L R) L.length + 1
section BOTH
variable {S : MS} {A B : List PT}
theorem sp_Mo_inB {post : Int → MS → Prop} (h : marB S B) (hn : B.Nodup) (hok : ∀ p ∈ B, ig_ok p) (hb : B.length ≤ 200) {p : PT} (hp : ig_ok p) (pf : ∀ i, i < B.length → ig_at B i = p → post (i : Int) S) (pn : p ∉ B → post (-1) S) : wp_Mo_inB post p.1 p.2 S := by
  have ip := ok_in hp
  have loop : ∀ (n k : Nat) (v : Int), B.length - k < n → k ≤ B.length → ((v = -1 ∧ ∀ k', k' < k → ig_at B k' ≠ p) ∨ ∃ i : Nat, i < k ∧ ig_at B i = p ∧ v = i) → wp_Mo_inB_5 post n p.1 p.2 v k S := by
    intro n
    induction n with
    | zero => intro k v hn; omega
    | succ n ih =>
      intro k v hm hk hv
      have e1 : (k : Int) + 1 = ((k + 1 : Nat) : Int) := by omega
      have hnn : ¬ (B.length : Int) ≤ (k : Int) → B.length - (k + 1) < n ∧ k + 1 ≤ B.length := by clear hv; omega
      unfold wp_Mo_inB_5
      rw [h.1]
      refine ⟨by unfold inR; clear hv; omega, by unfold inR; clear hv; omega, fun c => ?_, fun c => ?_⟩
      · rcases hv with ⟨f, g⟩ | ⟨i, f, g, e⟩
        · rw [f]
          refine pn (fun q => ?_)
          obtain ⟨i, hi, e⟩ := ig_mem_at q
          exact g i (by omega) e
        · rw [e]; exact pf i (by omega) g
      · have hnn := hnn c
        have x := h.2.2 k (by clear hv; omega)
        have h0 : B ≠ [] := by intro f; rw [f] at hnn; simp at hnn
        have ik := ok_in (ig_at_ok hok h0 k)
        have fin : ∀ v' : Int, ((ig_at B k = p ∧ v' = k) ∨ (ig_at B k ≠ p ∧ v' = v)) → wp_Mo_inB_42 post (wp_Mo_inB_5 post n) p.1 p.2 k v' S := by
          intro v' hv'
          unfold wp_Mo_inB_42
          rw [e1]
          refine ih (k + 1) v' hnn.1 hnn.2 ?_
          rcases hv' with ⟨f, g⟩ | ⟨f, g⟩
          · exact Or.inr ⟨k, Nat.lt_succ_self k, f, g⟩
          · rw [g]
            rcases hv with ⟨a, b⟩ | ⟨i, a, b, d⟩
            · refine Or.inl ⟨a, fun k' hk' => ?_⟩
              by_cases c2 : k' = k
              · rw [c2]; exact f
              · exact b k' (Nat.lt_of_le_of_ne (Nat.le_of_lt_succ hk') c2)
            · exact Or.inr ⟨i, Nat.lt_succ_of_lt a, b, d⟩
        rw [Int.toNat_natCast, x.1, x.2]
        clear hv
        refine ⟨⟨by omega, by omega⟩, ik.1, ip.1, fun c1 => fin v (Or.inr ⟨fun q => c1 (by rw [q]), rfl⟩), fun c1 => ⟨⟨by omega, by omega⟩, ik.2, ip.2, fun c2 => fin v (Or.inr ⟨fun q => c2 (by rw [q]), rfl⟩), fun c2 => fin k (Or.inl ⟨Prod.ext c1 c2, rfl⟩)⟩⟩
  unfold wp_Mo_inB
  exact ⟨B.length + 1, loop _ 0 (-1) (by omega) (by omega) (Or.inl ⟨rfl, fun k' hk' => by omega⟩)⟩
theorem sp_Mo_isCommon {post : Int → MS → Prop} (hA : marA S A) (hB : marB S B) (nB : B.Nodup) (okA : ∀ p ∈ A, ig_ok p) (okB : ∀ p ∈ B, ig_ok p) (lA : A.length ≤ 200) (lB : B.length ≤ 200) {k : Nat} (hk : k < A.length) (p1 : mg_cs A B k = true → post 1 S) (p0 : mg_cs A B k = false → post 0 S) : wp_Mo_isCommon post k S := by
  have a0 : A ≠ [] := by intro f; rw [f] at hk; simp at hk
  have oka := ig_at_ok okA a0
  have m1 : (k + 1) % A.length < A.length := Nat.mod_lt _ (by omega)
  have no : ¬ (∃ j, j < B.length ∧ ig_at B j = ig_at A (k + 1) ∧ ig_at B (j + 1) = ig_at A k) → post 0 S := by
    intro f
    refine p0 ?_
    cases e : mg_cs A B k with
    | false => rfl
    | true => exact absurd (mg_cs_iff.mp e) f
  unfold wp_Mo_isCommon
  rw [hA.1]
  refine ⟨⟨by omega, by omega⟩, fun v2 e2 => ?_⟩
  have e2' : v2 = (((k + 1) % A.length : Nat) : Int) := by rw [e2]; rfl
  have x := hA.at a0 (k + 1)
  rw [e2', Int.toNat_natCast, x.1, x.2]
  refine ⟨⟨by omega, by have := hA.2.1; omega⟩, ⟨by omega, by have := hA.2.1; omega⟩, sp_Mo_inB hB nB okB lB (oka (k + 1)) (fun i hi e => ?_) (fun f => ?_)⟩
  · have b0 : B ≠ [] := by intro f; rw [f] at hi; simp at hi
    have okb := ig_at_ok okB b0
    have m2 : (i + 1) % B.length < B.length := Nat.mod_lt _ (by omega)
    refine ⟨by unfold inR; omega, fun _ => ?_, fun f => absurd (by omega) f⟩
    rw [hB.1]
    refine ⟨⟨by omega, by omega⟩, ?_⟩
    rw [show (i : Int) + 1 = ((i + 1 : Nat) : Int) by omega, nmodc]
    have y := hB.at b0 (i + 1)
    have z := hA.2.2 k hk
    unfold wp_Mo_isCommon_42
    simp only [Int.toNat_natCast]
    rw [y.1, y.2, z.1, z.2]
    have ik := ok_in (oka k)
    have ji := ok_in (okb (i + 1))
    have uniq : ∀ j, j < B.length → ig_at B j = ig_at A (k + 1) → j = i := by
      intro j hj f
      have := ig_at_inj nB b0 (f.trans e.symm)
      rw [Nat.mod_eq_of_lt hj, Nat.mod_eq_of_lt hi] at this
      exact this
    refine ⟨by unfold inR; omega, fun f => by omega, fun _ => ⟨⟨by omega, by omega⟩, ⟨by omega, by omega⟩, ji.1, ik.1, fun c1 => no (fun ⟨j, g1, g2, g3⟩ => ?_), fun c1 => ⟨⟨by omega, by omega⟩, ⟨by omega, by omega⟩, ji.2, ik.2, fun c2 => no (fun ⟨j, g1, g2, g3⟩ => ?_), fun c2 => p1 (mg_cs_iff.mpr ⟨i, hi, e, Prod.ext c1 c2⟩)⟩⟩⟩
    · rw [uniq j g1 g2] at g3; exact c1 (by rw [g3])
    · rw [uniq j g1 g2] at g3; exact c2 (by rw [g3])
  · refine ⟨⟨by decide, by decide⟩, fun g => absurd g (by decide), fun _ => ?_⟩
    unfold wp_Mo_isCommon_42
    refine ⟨⟨by decide, by decide⟩, fun _ => no (fun ⟨j, g1, g2, g3⟩ => f ?_), fun g => absurd (by decide) g⟩
    have b0 : B ≠ [] := by intro q; rw [q] at g1; simp at g1
    rw [← g2]; exact ig_at_mem b0 j
end BOTH
section BOTH2
variable {S : MS} {R : AR}
theorem mfm_AB {S S' : MS} {A B : List PT} (h : mfm S S') (hA : marA S A) (hB : marB S B) : marA S' A ∧ marB S' B := by
  constructor
  · refine ⟨by rw [h.1 36 (by omega)]; exact hA.1, hA.2.1, fun k hk => ?_⟩
    rw [h.2 37 (by omega) (by omega), h.2 38 (by omega) (by omega)]; exact hA.2.2 k hk
  · refine ⟨by rw [h.1 39 (by omega)]; exact hB.1, hB.2.1, fun k hk => ?_⟩
    rw [h.2 40 (by omega) (by omega), h.2 41 (by omega) (by omega)]; exact hB.2.2 k hk
theorem sp_Mo_makeBoth {post : Int → MS → Prop} (h : MD S R) (w : WR R) {a b : Nat} (a1 : 1 ≤ a) (a2 : a ≤ R.1 7 0) (b1 : 1 ≤ b) (b2 : b ≤ R.1 7 0) (hI : ∀ z, gx_wn (rgn (aRing R a)) z + gx_wn (rgn (aRing R b)) z ≤ 1)
    (p0 : ∀ S', mfr S S' → ¬ mg_ok (ig_refine (aRing R a) (aRing R b)) (ig_refine (aRing R b) (aRing R a)) → post 0 S')
    (p1 : ∀ S' T st m s, mfr S S' → mg_ok (ig_refine (aRing R a) (aRing R b)) (ig_refine (aRing R b) (aRing R a)) → st < (ig_refine (aRing R a) (aRing R b)).length → (mg_cs (ig_refine (aRing R a) (aRing R b)) (ig_refine (aRing R b) (aRing R a)) st && !mg_cs (ig_refine (aRing R a) (aRing R b)) (ig_refine (aRing R b) (aRing R a)) (st + (ig_refine (aRing R a) (aRing R b)).length - 1)) = true → s = cntN (mg_cs (ig_refine (aRing R a) (aRing R b)) (ig_refine (aRing R b) (aRing R a))) (ig_refine (aRing R a) (aRing R b)).length → m < (ig_refine (aRing R b) (aRing R a)).length → ig_at (ig_refine (aRing R b) (aRing R a)) m = ig_at (ig_refine (aRing R a) (aRing R b)) st → mmade S' T → rote (ig_flt (ig_or (mg_out (ig_refine (aRing R a) (aRing R b)) (ig_refine (aRing R b) (aRing R a)) st s (m + (s + 1) * (ig_refine (aRing R b) (aRing R a)).length)))) T → post 1 S') : wp_Mo_makeBoth post a b S := by
  have ra := w.rg a1 a2
  have rb := w.rg b1 b2
  have geo := fun {st s M : Nat} => @mg_geo (aRing R a) (aRing R b) st s M ra.2.2.1 rb.2.2.1 ra.ne rb.ne ra.2.2.2 rb.2.2.2 hI
  obtain ⟨⟨sL, _⟩, mL, kL, _⟩ := ig_refine_spec (O := aRing R b) ra.2.2.1 ra.ne
  obtain ⟨⟨sR, _⟩, mR, kR, _⟩ := ig_refine_spec (O := aRing R a) rb.2.2.1 rb.ne
  have lenL := ig_refine_len (O := aRing R b) ra.2.2.1 ra.ne
  have lenR := ig_refine_len (O := aRing R a) rb.2.2.1 rb.ne
  have n1 := ra.2.1.2
  have n2 := rb.2.1.2
  have okL : ∀ p ∈ ig_refine (aRing R a) (aRing R b), ig_ok p := fun p hp => (mL p hp).elim (ra.1 p) (rb.1 p)
  have okR : ∀ p ∈ ig_refine (aRing R b) (aRing R a), ig_ok p := fun p hp => (mR p hp).elim (rb.1 p) (ra.1 p)
  have l0 : ig_refine (aRing R a) (aRing R b) ≠ [] := by
    intro f; have := kL _ (ig_at_mem ra.ne 0); rw [f] at this; simp at this
  have r0 : ig_refine (aRing R b) (aRing R a) ≠ [] := by
    intro f; have := kR _ (ig_at_mem rb.ne 0); rw [f] at this; simp at this
  unfold wp_Mo_makeBoth
  refine sp_Mo_refine h w a1 a2 b1 b2 true (fun S1 f1 g1 => ?_)
  refine sp_Mo_refine (h.fr f1.fr) w b1 b2 a1 a2 false (fun S3 f3 g3 => ?_)
  have g1' : marA S3 (ig_refine (aRing R a) (aRing R b)) := by
    refine ⟨by rw [f3.1 36 (by simp)]; exact g1.1, g1.2.1, fun k hk => ?_⟩
    rw [f3.2 37 (by simp) (by simp), f3.2 38 (by simp) (by simp)]; exact g1.2.2 k hk
  have g3' : marB S3 (ig_refine (aRing R b) (aRing R a)) := g3
  have fr3 : mfr S S3 := mfr_trans f1.fr f3.fr
  clear g1 g3 f1 f3
  generalize hLe : ig_refine (aRing R a) (aRing R b) = L at *
  generalize hRe : ig_refine (aRing R b) (aRing R a) = Q at *
  have nL := rgn_nodup sL
  have nQ := rgn_nodup sR
  have oL := ig_at_ok okL l0
  have oQ := ig_at_ok okR r0
  have hnL : 0 < L.length := List.length_pos_iff.mpr l0
  have hnQ : 0 < Q.length := List.length_pos_iff.mpr r0
  have hpr := cntN_runs (mg_cs_per L Q) hnL
  -- the outline
  have out : ∀ (st m s : Nat), mg_ok L Q → st < L.length → (mg_cs L Q st && !mg_cs L Q (st + L.length - 1)) = true → s = cntN (mg_cs L Q) L.length → m < Q.length → ig_at Q m = ig_at L st → ∀ S4, S4 = ms_i S3 33 0 → ∃ n0, wp_Mo_makeBoth_186 post n0 s ((st + s) % L.length : Nat) 0 S4 := by
    intro st m s hok hst hst2 hs hm hmm S4 y4
    have hline := mg_line_of nL nQ l0 r0 hst hok.1 hst2 hs (by rw [hok.2, hs]) hmm
    obtain ⟨gs, _⟩ := geo hline
    have hl1 := hline.1
    have hl2 := hline.2.1
    have hl3 := hline.2.2.1
    have f4 : mfm S3 S4 := by rw [y4]; exact mfm_i _ _
    have m4 : mmade S4 [] := ⟨by rw [y4]; simp [ms_i], by simp, fun k hk => by simp at hk⟩
    have hper : ∀ k, ig_at Q (m + (s + 1) * Q.length - 1 + 1 + k) = ig_at Q (m + k) := by
      intro k
      have : 0 < (s + 1) * Q.length := Nat.mul_pos (by omega) hnQ
      rw [show m + (s + 1) * Q.length - 1 + 1 + k = (s + 1) * Q.length + (m + k) by omega, ig_at_mul]
    have l255 : ∀ (n i : Nat) (S5 : MS), Q.length - s - i < n → i ≤ Q.length - s → mfm S3 S5 → mmade S5 (ig_seg L (st + s - 1) (L.length - s) ++ ig_seg Q (m + (s + 1) * Q.length - 1) i) → wp_Mo_makeBoth_255 post n s ((m + i) % Q.length : Nat) i S5 := by
      intro n
      induction n with
      | zero => intro i S5 hn; omega
      | succ n ih =>
        intro i S5 hn hi f5 m5
        have e1 : (i : Int) + 1 = ((i + 1 : Nat) : Int) := by omega
        obtain ⟨_, hB5⟩ := mfm_AB f5 g1' g3'
        unfold wp_Mo_makeBoth_255
        rw [hB5.1]
        have mm : (m + i) % Q.length < Q.length := Nat.mod_lt _ hnQ
        refine ⟨by unfold inR; omega, by unfold inR; omega, fun c => ?_, fun c => ?_⟩
        · have ei : i = Q.length - s := by omega
          subst ei
          refine sp_Mo_tidy m5 (by intro f; have := congrArg List.length f; simp [ig_seg_len] at this; omega) (fun p hp => ?_) gs (fun S' T q1 q2 q3 => p1 S' T st m s (mfr_trans fr3 (mfm_trans f5 q1).fr) hok hst hst2 hs hm hmm q2 q3)
          rcases List.mem_append.mp hp with q | q
          · obtain ⟨k, _, e⟩ := ig_seg_mem.mp q
            rw [← e]; exact oL _
          · obtain ⟨k, _, e⟩ := ig_seg_mem.mp q
            rw [← e]; exact oQ _
        · have x := hB5.at r0 (m + i)
          rw [Int.toNat_natCast, x.1, x.2]
          refine ⟨⟨by omega, by omega⟩, ⟨by omega, by omega⟩, sp_Mo_make m5 (by simp [ig_seg_len]; omega) (fun S6 q1 q2 => ?_)⟩
          obtain ⟨_, hB6⟩ := mfm_AB (mfm_trans f5 q1) g1' g3'
          rw [hB6.1]
          refine ⟨⟨by omega, by omega⟩, fun v7 e7 => ?_⟩
          have e7' : v7 = (((m + (i + 1)) % Q.length : Nat) : Int) := by
            rw [e7, show (((m + i) % Q.length : Nat) : Int) + 1 = (((m + i) % Q.length + 1 : Nat) : Int) by omega, nmodc, Nat.mod_add_mod, Nat.add_assoc]
          rw [e7', e1]
          refine ih (i + 1) S6 (by omega) (by omega) (mfm_trans f5 q1) ?_
          rw [ig_seg_add, ← List.append_assoc]
          have : ig_seg Q (m + (s + 1) * Q.length - 1 + i) 1 = [ig_at Q (m + i)] := by
            have := hper i
            simp only [ig_seg, List.range_one, List.map_cons, List.map_nil, Nat.add_zero]
            rw [show m + (s + 1) * Q.length - 1 + i + 1 = m + (s + 1) * Q.length - 1 + 1 + i by omega, this]
          rw [this]; exact q2
    have l186 : ∀ (n i : Nat) (S5 : MS), L.length - s - i < n → i ≤ L.length - s → mfm S3 S5 → mmade S5 (ig_seg L (st + s - 1) i) → wp_Mo_makeBoth_186 post n s ((st + s + i) % L.length : Nat) i S5 := by
      intro n
      induction n with
      | zero => intro i S5 hn; omega
      | succ n ih =>
        intro i S5 hn hi f5 m5
        have e1 : (i : Int) + 1 = ((i + 1 : Nat) : Int) := by omega
        obtain ⟨hA5, hB5⟩ := mfm_AB f5 g1' g3'
        unfold wp_Mo_makeBoth_186
        rw [hA5.1]
        have mm : (st + s + i) % L.length < L.length := Nat.mod_lt _ hnL
        have x := hA5.at l0 (st + s + i)
        rw [Int.toNat_natCast, x.1, x.2]
        refine ⟨by unfold inR; omega, by unfold inR; omega, fun c => ?_, fun c => ?_⟩
        · have ei : i = L.length - s := by omega
          subst ei
          have e5 : ig_at L (st + s + (L.length - s)) = ig_at Q m := by
            rw [show st + s + (L.length - s) = st + L.length by omega, ig_at_len, hmm]
          rw [e5]
          refine ⟨⟨by omega, by omega⟩, ⟨by omega, by omega⟩, sp_Mo_inB hB5 nQ okR (by omega) (oQ m) (fun j hj e => ?_) (fun q => absurd (ig_at_mem r0 m) q)⟩
          have ej : j = m := by
            have := ig_at_inj nQ r0 e
            rw [Nat.mod_eq_of_lt hj, Nat.mod_eq_of_lt hm] at this
            exact this
          subst ej
          have := l255 (Q.length - s + 1) 0 S5 (by omega) (by omega) f5 (by simpa [ig_seg] using m5)
          rw [show (j + 0) % Q.length = j from Nat.mod_eq_of_lt hj] at this
          exact ⟨_, this⟩
        · refine ⟨⟨by omega, by omega⟩, ⟨by omega, by omega⟩, sp_Mo_make m5 (by simp [ig_seg_len]; omega) (fun S6 q1 q2 => ?_)⟩
          obtain ⟨hA6, _⟩ := mfm_AB (mfm_trans f5 q1) g1' g3'
          rw [hA6.1]
          refine ⟨⟨by omega, by omega⟩, fun v7 e7 => ?_⟩
          have e7' : v7 = (((st + s + (i + 1)) % L.length : Nat) : Int) := by
            rw [e7, show (((st + s + i) % L.length : Nat) : Int) + 1 = (((st + s + i) % L.length + 1 : Nat) : Int) by omega, nmodc, Nat.mod_add_mod, Nat.add_assoc]
          rw [e7', e1]
          refine ih (i + 1) S6 (by omega) (by omega) (mfm_trans f5 q1) ?_
          rw [ig_seg_add]
          have : ig_seg L (st + s - 1 + i) 1 = [ig_at L (st + s + i)] := by
            simp only [ig_seg, List.range_one, List.map_cons, List.map_nil, Nat.add_zero]
            rw [show st + s - 1 + i + 1 = st + s + i by omega]
          rw [this]; exact q2
    have := l186 (L.length - s + 1) 0 S4 (by omega) (by omega) f4 m4
    exact ⟨_, this⟩
  -- the count
  have l28 : ∀ (n k : Nat) (en : Int), L.length - k < n → k ≤ L.length → (0 < cntN (fun i => mg_cs L Q i && !mg_cs L Q (i + 1)) k → ∃ i : Nat, i < k ∧ (mg_cs L Q i && !mg_cs L Q (i + 1)) = true ∧ en = (((i + 1) % L.length : Nat) : Int)) → wp_Mo_makeBoth_28 post n (cntN (mg_cs L Q) k) (cntN (fun i => mg_cs L Q i && !mg_cs L Q (i + 1)) k) (cntN (mg_cp L Q) k) en k S3 := by
    intro n
    induction n with
    | zero => intro k en hn; omega
    | succ n ih =>
      intro k en hn hk hen
      have c1 := cntN_le (mg_cs L Q) k
      have c2 := cntN_le (fun i => mg_cs L Q i && !mg_cs L Q (i + 1)) k
      have c3 := cntN_le (mg_cp L Q) k
      have e1 : (k : Int) + 1 = ((k + 1 : Nat) : Int) := by omega
      unfold wp_Mo_makeBoth_28
      rw [g1'.1]
      refine ⟨by unfold inR; omega, by unfold inR; omega, fun c => ?_, fun c => ?_⟩
      · have ek : k = L.length := by omega
        subst ek
        refine ⟨by unfold inR; omega, fun d1 => p0 S3 fr3 (fun q => d1 ?_), fun d1 => ⟨by unfold inR; omega, by unfold inR; omega, fun d2 S4 y4 => ?_, fun d2 => p0 S3 fr3 (fun q => d2 ?_)⟩⟩
        · have := q.1; rw [hpr] at this; rw [this]; rfl
        · have hok : mg_ok L Q := ⟨by rw [hpr]; omega, by omega⟩
          obtain ⟨st, hst, hst2⟩ := cntN_pos (show 0 < cntN (fun k => mg_cs L Q k && !mg_cs L Q (k + L.length - 1)) L.length by rw [hok.1]; omega)
          obtain ⟨i, hi, hi2, hi3⟩ := hen (by omega)
          obtain ⟨q1, q2, q3, q4⟩ := cntN_run1 (mg_cs_per L Q) hst hok.1 hst2 rfl
          obtain ⟨m, hm, hm1, hm2⟩ := mg_cs_iff.mp (q3 0 q1)
          rw [Nat.add_zero] at hm2
          -- the run's end
          have hend : (i + 1) % L.length = (st + cntN (mg_cs L Q) L.length) % L.length := by
            have hone : cntN (fun i => mg_cs L Q i && !mg_cs L Q (i + 1)) L.length = 1 := by rw [← hpr]; exact hok.1
            have hmod : ∀ x, mg_cs L Q (x % L.length) = mg_cs L Q x := by
              intro x
              unfold mg_cs
              rw [ig_at_mod, ← ig_at_mod L (x % L.length + 1), Nat.mod_add_mod, ig_at_mod]
            have hmod1 : ∀ x, mg_cs L Q (x % L.length + 1) = mg_cs L Q (x + 1) := by
              intro x
              rw [← hmod, Nat.mod_add_mod, hmod]
            have t1 : mg_cs L Q (st + (cntN (mg_cs L Q) L.length - 1)) = true := q3 _ (by omega)
            have t2 : mg_cs L Q (st + cntN (mg_cs L Q) L.length) = false := q4 _ (by omega) q2
            have hx : (st + (cntN (mg_cs L Q) L.length - 1)) % L.length < L.length := Nat.mod_lt _ hnL
            have := cntN_one hone hi hx hi2 (by
              rw [hmod, hmod1, t1, show st + (cntN (mg_cs L Q) L.length - 1) + 1 = st + cntN (mg_cs L Q) L.length by omega, t2]; rfl)
            rw [this, Nat.mod_add_mod]; congr 1; omega
          rw [hi3, hend]
          have hmx : (m + 1) % Q.length < Q.length := Nat.mod_lt _ hnQ
          exact out st ((m + 1) % Q.length) _ hok hst hst2 rfl hmx (by rw [ig_at_mod]; exact hm2) S4 y4
        · have := q.2; omega
      · have hk' : k < L.length := by clear hen; omega
        have hn1 : L.length - (k + 1) < n := by clear hen; omega
        have m1 : (k + 1) % L.length < L.length := Nat.mod_lt _ hnL
        have hcs1 : mg_cs L Q ((k + 1) % L.length) = mg_cs L Q (k + 1) := by
          unfold mg_cs
          rw [ig_at_mod, ← ig_at_mod L ((k + 1) % L.length + 1), Nat.mod_add_mod, ig_at_mod]
        have x := g1'.2.2 k hk'
        -- behind both tests
        have k118 : ∀ (v6 : Int), (0 < cntN (fun i => mg_cs L Q i && !mg_cs L Q (i + 1)) (k + 1) → ∃ i : Nat, i < k + 1 ∧ (mg_cs L Q i && !mg_cs L Q (i + 1)) = true ∧ v6 = (((i + 1) % L.length : Nat) : Int)) → wp_Mo_makeBoth_118 post (wp_Mo_makeBoth_28 post n) (cntN (mg_cs L Q) (k + 1)) (cntN (fun i => mg_cs L Q i && !mg_cs L Q (i + 1)) (k + 1)) (cntN (mg_cp L Q) k) k v6 S3 := by
          intro v6 hv6
          unfold wp_Mo_makeBoth_118 wp_Mo_makeBoth_150
          rw [Int.toNat_natCast, x.1, x.2, e1]
          have nx := ih (k + 1) v6 hn1 hk' hv6
          clear hv6
          refine ⟨⟨by omega, by omega⟩, ⟨by omega, by omega⟩, sp_Mo_inB g3' nQ okR (by omega) (oL k) (fun i hi e => ⟨by unfold inR; omega, fun f => by omega, fun _ => ?_⟩) (fun f => ⟨⟨by decide, by decide⟩, fun _ => ?_, fun g => absurd (by decide) g⟩)⟩
          · have hcp : mg_cp L Q k = true := by unfold mg_cp; rw [← e]; exact decide_eq_true (ig_at_mem r0 i)
            have e5 : cntN (mg_cp L Q) (k + 1) = cntN (mg_cp L Q) k + 1 := by rw [cntN, if_pos hcp]
            rw [e5] at nx
            exact nx
          · have hcp : mg_cp L Q k = false := by unfold mg_cp; exact decide_eq_false f
            have e5 : cntN (mg_cp L Q) (k + 1) = cntN (mg_cp L Q) k := by rw [cntN, if_neg (by rw [hcp]; decide), Nat.add_zero]
            rw [e5] at nx
            exact nx
        have k92 : ∀ (is th : Bool), is = mg_cs L Q k → th = mg_cs L Q (k + 1) → wp_Mo_makeBoth_72 post (wp_Mo_makeBoth_28 post n) (cntN (fun i => mg_cs L Q i && !mg_cs L Q (i + 1)) k) (cntN (mg_cp L Q) k) en k (bI is) (bI th) (cntN (mg_cs L Q) (k + 1)) S3 := by
          intro is th his hth
          have er : cntN (fun i => mg_cs L Q i && !mg_cs L Q (i + 1)) (k + 1) = cntN (fun i => mg_cs L Q i && !mg_cs L Q (i + 1)) k + if (is && !th) = true then 1 else 0 := by
            rw [cntN, his, hth]
          have keep : (is && !th) = false → (0 < cntN (fun i => mg_cs L Q i && !mg_cs L Q (i + 1)) (k + 1) → ∃ i : Nat, i < k + 1 ∧ (mg_cs L Q i && !mg_cs L Q (i + 1)) = true ∧ en = (((i + 1) % L.length : Nat) : Int)) := by
            intro f g
            rw [er, f] at g
            obtain ⟨i, i1, i2, i3⟩ := hen (by simpa using g)
            exact ⟨i, by omega, i2, i3⟩
          unfold wp_Mo_makeBoth_72 wp_Mo_makeBoth_92
          rw [g1'.1]
          refine ⟨bI_in _, fun d1 => ⟨bI_in _, fun _ => ?_, fun q => absurd d1 q⟩, fun d1 => ⟨bI_in _, fun d2 => ⟨bI_in _, fun q => absurd q d1, fun _ => ⟨bI_in _, fun _ => ?_, fun q => absurd q d2⟩⟩, fun d2 => ⟨bI_in _, fun q => absurd q d1, fun _ => ⟨bI_in _, fun q => absurd d2 q, fun _ => ⟨⟨by omega, by omega⟩, ?_⟩⟩⟩⟩⟩
          · have f : (is && !th) = false := by rw [bI_0.mp d1]; rfl
            rw [f] at er
            have := k118 en (keep f)
            rw [er] at this
            simpa using this
          · have f : (is && !th) = false := by rw [bI_ne.mp d2]; simp
            rw [f] at er
            have := k118 en (keep f)
            rw [er] at this
            simpa using this
          · have f : (is && !th) = true := by rw [bI_ne.mp d1, bI_0.mp d2]; rfl
            rw [f] at er
            have := k118 (((k + 1) % L.length : Nat) : Int) (fun _ => ⟨k, by omega, by rw [← his, ← hth]; exact f, rfl⟩)
            rw [er] at this
            rw [e1, nmodc]
            simpa using this
        have two : ∀ (is : Bool), is = mg_cs L Q k → ∀ (v : Nat), v = cntN (mg_cs L Q) (k + 1) → dvR ((k : Int) + 1) (S3.1 36) ∧ wp_Mo_isCommon (fun r_5 S_4 => inR (bI is) ∧ ((bI is) = 0 → wp_Mo_makeBoth_72 post (wp_Mo_makeBoth_28 post n) (cntN (fun i => mg_cs L Q i && !mg_cs L Q (i + 1)) k) (cntN (mg_cp L Q) k) en k (bI is) r_5 (cntN (mg_cs L Q) k) S_4) ∧ (¬ (bI is) = 0 → wp_Mo_makeBoth_72 post (wp_Mo_makeBoth_28 post n) (cntN (fun i => mg_cs L Q i && !mg_cs L Q (i + 1)) k) (cntN (mg_cp L Q) k) en k (bI is) r_5 (((cntN (mg_cs L Q) k : Nat) : Int) + 1) S_4)) (((k : Int) + 1) % (S3.1 36)) S3 := by
          intro is his v hv
          rw [g1'.1, e1, nmodc]
          refine ⟨⟨by omega, by omega⟩, ?_⟩
          have fin : ∀ th : Bool, th = mg_cs L Q (k + 1) → inR (bI is) ∧ ((bI is) = 0 → wp_Mo_makeBoth_72 post (wp_Mo_makeBoth_28 post n) (cntN (fun i => mg_cs L Q i && !mg_cs L Q (i + 1)) k) (cntN (mg_cp L Q) k) en k (bI is) (bI th) (cntN (mg_cs L Q) k) S3) ∧ (¬ (bI is) = 0 → wp_Mo_makeBoth_72 post (wp_Mo_makeBoth_28 post n) (cntN (fun i => mg_cs L Q i && !mg_cs L Q (i + 1)) k) (cntN (mg_cp L Q) k) en k (bI is) (bI th) (((cntN (mg_cs L Q) k : Nat) : Int) + 1) S3) := by
            intro th hth
            have := k92 is th his hth
            refine ⟨bI_in _, fun d => ?_, fun d => ?_⟩
            · have e5 : cntN (mg_cs L Q) (k + 1) = cntN (mg_cs L Q) k := by rw [cntN, ← his, bI_0.mp d]; rfl
              rw [e5] at this; exact this
            · have e5 : cntN (mg_cs L Q) (k + 1) = cntN (mg_cs L Q) k + 1 := by rw [cntN, ← his, bI_ne.mp d]; rfl
              rw [e5] at this; exact this
          refine sp_Mo_isCommon g1' g3' nQ okL okR (by omega) (by omega) m1 (fun q => fin true ?_) (fun q => fin false ?_)
          · rw [← hcs1, q]
          · rw [← hcs1, q]
        refine sp_Mo_isCommon g1' g3' nQ okL okR (by omega) (by omega) hk' (fun q => two true q.symm _ rfl) (fun q => two false q.symm _ rfl)
  exact ⟨L.length + 1, l28 _ 0 0 (by omega) (by omega) (fun q => by simp [cntN] at q)⟩
end BOTH2
