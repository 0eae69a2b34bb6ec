/-! Joiner.join -/
theorem nd6 {a b c d e f : Nat} (h : [a, b, c, d, e, f].Nodup) : (a ≠ b ∧ a ≠ c ∧ a ≠ d ∧ a ≠ e ∧ a ≠ f) ∧ (b ≠ c ∧ b ≠ d ∧ b ≠ e ∧ b ≠ f) ∧ (c ≠ d ∧ c ≠ e ∧ c ≠ f) ∧ (d ≠ e ∧ d ≠ f) ∧ e ≠ f := by
  simp only [List.nodup_cons, List.mem_cons, List.not_mem_nil, or_false, not_or, not_false_eq_true, List.nodup_nil, and_true] at h
  exact h
theorem mg_out_eq {L R : List PT} {st s m : Nat} (h : mg_line L R st s (m + (s + 1) * R.length)) (hm : ig_at R m = ig_at L st) : mg_out L R st s (m + (s + 1) * R.length) = ig_seg L (st + s - 1) (L.length - s + 1) ++ ig_seg R m (R.length - s - 1) := by
  obtain ⟨h1, h2, h3, _⟩ := h
  have hp : 0 < (s + 1) * R.length := Nat.mul_pos (by omega) (by omega)
  unfold mg_out
  rw [ig_seg_add, List.append_assoc]
  congr 1
  obtain ⟨c, hc⟩ : ∃ c, R.length - s = c + 1 := ⟨R.length - s - 1, by omega⟩
  rw [hc, Nat.add_sub_cancel, Nat.add_comm c 1, ig_seg_add]
  congr 1
  · simp only [ig_seg, List.range_one, List.map_cons, List.map_nil, Nat.add_zero]
    rw [show m + (s + 1) * R.length - 1 + 1 = (s + 1) * R.length + m by omega, ig_at_mul, hm, show st + s - 1 + (L.length - s) + 1 = st + L.length by omega, ig_at_len]
  · exact ig_seg_mod (l := R) (i := m + (s + 1) * R.length - 1 + 1) (j := m) (by rw [show m + (s + 1) * R.length - 1 + 1 = m + (s + 1) * R.length by omega, Nat.add_mul_mod_self_right])
section JN
variable {T : CS} {jo la lb ra rb ma oa ob za zb aa ab acap ba bb bcap : Nat} {A B : List PT}
theorem sp_B_join {post : Int → CS → Prop} (h : joAt T jo la lb ra rb ma oa ob za zb) (hA : ptsAt T aa ab A acap) (hB : ptsAt T ba bb B bcap) (nd1 : [aa, la, ra, oa, za].Nodup) (nd1' : [ba, la, ra, oa, za].Nodup) (nd2 : [ab, lb, rb, ma, ob, zb].Nodup) (nd2' : [bb, lb, rb, ma, ob, zb].Nodup) (rA : rg_ok A) (rB : rg_ok B) (hI : ∀ z, gx_wn (rgn A) z + gx_wn (rgn B) z ≤ 1)
    (p0 : ∀ T', Tw (fun a => pab la lb a ∨ pab ra rb a ∨ a = ma ∨ pab oa ob a ∨ pab za zb a) T T' → ¬ mg_ok (ig_refine A B) (ig_refine B A) → post 0 T')
    (p1 : ∀ T' K st m s, Tw (fun a => pab la lb a ∨ pab ra rb a ∨ a = ma ∨ pab oa ob a ∨ pab za zb a) T T' → mg_ok (ig_refine A B) (ig_refine B A) → st < (ig_refine A B).length → (mg_cs (ig_refine A B) (ig_refine B A) st && !mg_cs (ig_refine A B) (ig_refine B A) (st + (ig_refine A B).length - 1)) = true → s = cntN (mg_cs (ig_refine A B) (ig_refine B A)) (ig_refine A B).length → m < (ig_refine B A).length → ig_at (ig_refine B A) m = ig_at (ig_refine A B) st → ptsAt T' za zb K 240 → ig_kept (mg_out (ig_refine A B) (ig_refine B A) st s (m + (s + 1) * (ig_refine B A).length)) K → post 1 T') : wp_BJo_join post jo aa ba T := by
  have n1 := nd5 nd1
  have n1' := nd5 nd1'
  have n2 := nd6 nd2
  have n2' := nd6 nd2'
  have geo := fun {st s M : Nat} => @mg_geo A B st s M rA.2.2.1 rB.2.2.1 rA.ne rB.ne rA.2.2.2 rB.2.2.2 hI
  obtain ⟨⟨sL, _⟩, mL, kL, _⟩ := ig_refine_spec (O := B) rA.2.2.1 rA.ne
  obtain ⟨⟨sR, _⟩, mR, kR, _⟩ := ig_refine_spec (O := A) rB.2.2.1 rB.ne
  have lenL := ig_refine_len (O := B) rA.2.2.1 rA.ne
  have lenR := ig_refine_len (O := A) rB.2.2.1 rB.ne
  have okL : ∀ p ∈ ig_refine A B, ig_ok p := fun p hp => (mL p hp).elim (rA.1 p) (rB.1 p)
  have okR : ∀ p ∈ ig_refine B A, ig_ok p := fun p hp => (mR p hp).elim (rB.1 p) (rA.1 p)
  have l0 : ig_refine A B ≠ [] := by
    intro f; have := kL _ (ig_at_mem rA.ne 0); rw [f] at this; simp at this
  have r0 : ig_refine B A ≠ [] := by
    intro f; have := kR _ (ig_at_mem rB.ne 0); rw [f] at this; simp at this
  have l120 : (ig_refine A B).length ≤ 120 := by have := rA.2.1.2; have := rB.2.1.2; omega
  have r120 : (ig_refine B A).length ≤ 120 := by have := rA.2.1.2; have := rB.2.1.2; omega
  unfold wp_BJo_join
  refine ⟨h.1, la, h.2.1, sp_B_refine hA hB h.2.2.2.2.2.2.1 n1.1.1 n2.1.1 n1'.1.1 n2'.1.1 rA.ne rB.ne rA.1 rB.1 l120 rB.2.1.2 (fun T1 f1 g1 => ?_)⟩
  have h1 := h.tw f1
  have hA1 := hA.tw f1 (pts_out hA h.2.2.2.2.2.2.1 n1.1.1 n2.1.1).1 (pts_out hA h.2.2.2.2.2.2.1 n1.1.1 n2.1.1).2
  have hB1 := hB.tw f1 (pts_out hB h.2.2.2.2.2.2.1 n1'.1.1 n2'.1.1).1 (pts_out hB h.2.2.2.2.2.2.1 n1'.1.1 n2'.1.1).2
  refine ⟨h1.1, ra, h1.2.2.1, sp_B_refine hB1 hA1 h1.2.2.2.2.2.2.2.1 n1'.1.2.1 n2'.1.2.1 n1.1.2.1 n2.1.2.1 rB.ne rA.ne rB.1 rA.1 r120 rA.2.1.2 (fun T2 f2 g2 => ?_)⟩
  have h2 := h1.tw f2
  have gL2 : ptsAt T2 la lb (ig_refine A B) 120 := g1.tw f2 (pts_out g1 h1.2.2.2.2.2.2.2.1 n1.2.1.1 n2.2.1.1).1 (pts_out g1 h1.2.2.2.2.2.2.2.1 n1.2.1.1 n2.2.1.1).2
  have f12 : Tw (fun a => pab la lb a ∨ pab ra rb a ∨ a = ma ∨ pab oa ob a ∨ pab za zb a) T T2 := Tw_trans (Tw_mono f1 (fun a q => Or.inl q)) (Tw_mono f2 (fun a q => Or.inr (Or.inl q)))
  clear f1 g1 h1 hA1 hB1 f2
  generalize hLe : ig_refine A B = L at *
  generalize hRe : ig_refine B A = Q at *
  have nL := rgn_nodup sL
  have nQ := rgn_nodup sR
  have oL := ig_at_ok okL l0
  have oQ := ig_at_ok okR r0
  have hnL : 0 < L.length := List.length_pos_iff.mpr l0
  have hnQ : 0 < Q.length := List.length_pos_iff.mpr r0
  refine ⟨h2.1, sp_B_match h2 gL2 g2 (Ne.symm n2.2.1.2.1) (Ne.symm n2.2.2.1.1) l0 r0 okL okR (fun T3 f3 hm3 => ⟨L.length + 1, ?_⟩)⟩
  have h3 := h2.tw f3
  have e1 : ∀ x, tg T2 x = 2 → ¬ (x = ma) := fun x hx q => by rw [q] at hx; have := h2.2.2.2.2.2.2.2.2.1.1; omega
  have gL3 : ptsAt T3 la lb L 120 := gL2.tw f3 (e1 la gL2.1) n2.2.1.2.1
  have gR3 : ptsAt T3 ra rb Q 120 := g2.tw f3 (e1 ra g2.1) n2.2.2.1.1
  have f13 : Tw (fun a => pab la lb a ∨ pab ra rb a ∨ a = ma ∨ pab oa ob a ∨ pab za zb a) T T3 := Tw_trans f12 (Tw_mono f3 (fun a q => Or.inr (Or.inr (Or.inl q))))
  clear f12 f3 gL2 g2 h2
  -- the outline
  have out : ∀ (st m s : Nat), mg_ok L Q → st < L.length → (mg_cs L Q st && !mg_cs L Q (st + L.length - 1)) = true → s = cntN (mg_cs L Q) L.length → m < Q.length → ig_at Q m = ig_at L st → fi T3 ma st = m → tg T3 jo = 4 ∧ ∃ q_2 : Nat, fo T3 jo 3 = some q_2 ∧ (tg T3 q_2 = 2 ∧ wp_BPt_clear (fun T_3 => ∃ nn : Nat, wp_BJo_join_110 post nn jo (s : Nat) (st : Nat) (s : Nat) T_3) q_2 T3) := by
    intro st m s hok hst hst2 hs hm hmm hfi
    have hline := mg_line_of nL nQ l0 r0 hst hok.1 hst2 hs (by rw [hok.2, hs]) hmm
    obtain ⟨gs, _⟩ := geo hline
    have heq := mg_out_eq hline hmm
    have hl1 := hline.1
    have hl2 := hline.2.1
    have hl3 := hline.2.2.1
    have hlen : (mg_out L Q st s (m + (s + 1) * Q.length)).length ≤ 240 := by
      unfold mg_out
      simp only [List.length_append, ig_seg_len]; omega
    have hoL := pts_out gL3 h3.2.2.2.2.2.2.2.2.2.1 n1.2.1.2.1 n2.2.1.2.2.1
    have hoR := pts_out gR3 h3.2.2.2.2.2.2.2.2.2.1 n1.2.2.1.1 n2.2.2.1.2.1
    have maO : ¬ pab oa ob ma := by
      rintro (q | q)
      · have := h3.2.2.2.2.2.2.2.2.1.1; rw [q] at this; have := h3.2.2.2.2.2.2.2.2.2.1.1; omega
      · exact n2.2.2.2.1.1 q
    have l150 : ∀ (n k : Nat) (T5 : CS), Q.length - k < n → 1 ≤ k → k ≤ Q.length - s → Tw (pab oa ob) T3 T5 → ptsAt T5 oa ob (ig_seg L (st + s - 1) (L.length - s + 1) ++ ig_seg Q m (k - 1)) 240 → wp_BJo_join_150 post n jo (s : Nat) (st : Nat) k T5 := by
      intro n
      induction n with
      | zero => intro k T5 hn; omega
      | succ n ih =>
        intro k T5 hn k1 k2 f5 g5
        have h5 := h3.tw f5
        have gR5 := gR3.tw f5 hoR.1 hoR.2
        have e1 : (k : Int) + 1 = ((k + 1 : Nat) : Int) := by omega
        unfold wp_BJo_join_150
        refine ⟨h5.1, ra, h5.2.2.1, gR5.1, ?_⟩
        rw [gR5.sz]
        refine ⟨by unfold inR; omega, by unfold inR; omega, fun c => ⟨h5.1, oa, h5.2.2.2.2.1, h5.1, za, h5.2.2.2.2.2.1, ?_⟩, fun c => ⟨h5.1, oa, h5.2.2.2.2.1, h5.1, ra, h5.2.2.1, h5.1, ma, h5.2.2.2.1, h5.2.2.2.2.2.2.2.2.1.1, ?_⟩⟩
        · have ek : k = Q.length - s := by omega
          have g5' : ptsAt T5 oa ob (mg_out L Q st s (m + (s + 1) * Q.length)) 240 := by
            rw [heq, ← ek]; exact g5
          refine sp_B_keep g5' h5.2.2.2.2.2.2.2.2.2.2 n1.2.2.2 n2.2.2.2.2 (by intro q; have := congrArg List.length q; unfold mg_out at this; simp [ig_seg_len] at this; omega) (fun p hp => ?_) gs hlen (by omega) (fun T6 K f6 g6 hk => p1 T6 K st m s (Tw_trans f13 (Tw_trans (Tw_mono f5 (fun a q => Or.inr (Or.inr (Or.inr (Or.inl q))))) (Tw_mono f6 (fun a q => Or.inr (Or.inr (Or.inr (Or.inr q))))))) hok hst hst2 hs hm hmm g6 hk)
          unfold mg_out at hp
          rcases List.mem_append.mp hp with q | q
          · obtain ⟨x, _, e⟩ := ig_seg_mem.mp q
            rw [← e]; exact oL _
          · obtain ⟨x, _, e⟩ := ig_seg_mem.mp q
            rw [← e]; exact oQ _
        · rw [h5.2.2.2.2.2.2.2.2.1.2, Int.toNat_natCast, f5.2.2.2 ma maO, hfi, e1]
          refine ⟨⟨by omega, by omega⟩, gR5.1, ?_⟩
          rw [show (m : Int) + (k : Int) = ((m + k : Nat) : Int) by omega]
          refine sp_at_nat gR5 r0 (by omega) ⟨g5.1, sp_add g5 (by simp only [List.length_append, ig_seg_len]; omega) (fun T6 f6 g6 => ih (k + 1) T6 (by omega) (by omega) (by omega) (Tw_trans f5 f6) ?_)⟩
          obtain ⟨k', hk'⟩ : ∃ k', k = k' + 1 := ⟨k - 1, by omega⟩
          subst hk'
          have e7 : ig_seg Q m (k' + 1 + 1 - 1) = ig_seg Q m (k' + 1 - 1) ++ [ig_at Q (m + (k' + 1))] := by
            rw [Nat.add_sub_cancel, Nat.add_sub_cancel, ig_seg_add]
            simp [ig_seg, Nat.add_assoc]
          rw [e7, ← List.append_assoc]; exact g6
    have l110 : ∀ (n k : Nat) (T5 : CS), L.length + 1 - k < n → s ≤ k → k ≤ L.length + 1 → Tw (pab oa ob) T3 T5 → ptsAt T5 oa ob (ig_seg L (st + s - 1) (k - s)) 240 → wp_BJo_join_110 post n jo (s : Nat) (st : Nat) k T5 := by
      intro n
      induction n with
      | zero => intro k T5 hn; omega
      | succ n ih =>
        intro k T5 hn k1 k2 f5 g5
        have h5 := h3.tw f5
        have gL5 := gL3.tw f5 hoL.1 hoL.2
        have e1 : (k : Int) + 1 = ((k + 1 : Nat) : Int) := by omega
        unfold wp_BJo_join_110
        refine ⟨h5.1, la, h5.2.1, gL5.1, ?_⟩
        rw [gL5.sz, e1]
        refine ⟨by unfold inR; omega, by unfold inR; omega, fun c => ⟨Q.length + 1, l150 _ 1 T5 (by omega) (by omega) (by omega) f5 ?_⟩, fun c => ⟨h5.1, oa, h5.2.2.2.2.1, h5.1, la, h5.2.1, gL5.1, ?_⟩⟩
        · rw [show k - s = L.length - s + 1 by omega] at g5
          simpa [ig_seg] using g5
        · rw [show (st : Int) + (k : Int) = ((st + k : Nat) : Int) by omega]
          refine sp_at_nat gL5 l0 (by omega) ⟨g5.1, sp_add g5 (by simp only [ig_seg_len]; omega) (fun T6 f6 g6 => ih (k + 1) T6 (by omega) (by omega) (by omega) (Tw_trans f5 f6) ?_)⟩
          rw [show k + 1 - s = (k - s) + 1 by omega, ig_seg_add]
          have : ig_seg L (st + s - 1 + (k - s)) 1 = [ig_at L (st + k)] := by
            simp only [ig_seg, List.range_one, List.map_cons, List.map_nil, Nat.add_zero]
            rw [show st + s - 1 + (k - s) + 1 = st + k by omega]
          rw [this]; exact g6
    refine ⟨h3.1, oa, h3.2.2.2.2.1, h3.2.2.2.2.2.2.2.2.2.1.1, sp_clear h3.2.2.2.2.2.2.2.2.2.1 (fun T5 f5 g5 => ⟨L.length + 2, l110 _ s T5 (by omega) (by omega) (by omega) f5 ?_⟩)⟩
    rw [Nat.sub_self]; exact g5
  -- the count
  have l35 : ∀ (n k : Nat) (st : Int), L.length - k < n → k ≤ L.length → (0 < cntN (fun i => mg_cs L Q i && !mg_cs L Q (i + L.length - 1)) k → ∃ i : Nat, i < k ∧ (mg_cs L Q i && !mg_cs L Q (i + L.length - 1)) = true ∧ st = i) → wp_BJo_join_35 post n jo (cntN (mg_cp L Q) L.length : Nat) (cntN (mg_cs L Q) k : Nat) (cntN (fun i => mg_cs L Q i && !mg_cs L Q (i + L.length - 1)) k : Nat) st k T3 := by
    intro n
    induction n with
    | zero => intro k st hn; omega
    | succ n ih =>
      intro k st hn hk hst
      have c1 := cntN_le (mg_cs L Q) k
      have c2 := cntN_le (fun i => mg_cs L Q i && !mg_cs L Q (i + L.length - 1)) k
      have c3 := cntN_le (mg_cp L Q) L.length
      have e1 : (k : Int) + 1 = ((k + 1 : Nat) : Int) := by omega
      have hn1 : ¬ (L.length : Int) ≤ (k : Int) → L.length - (k + 1) < n ∧ k + 1 ≤ L.length := by clear hst; omega
      unfold wp_BJo_join_35
      refine ⟨h3.1, la, h3.2.1, gL3.1, ?_⟩
      rw [gL3.sz]
      refine ⟨by unfold inR; clear hst; omega, by unfold inR; clear hst; omega, fun c => ⟨by unfold inR; clear hst; omega, fun d1 => p0 T3 f13 (fun q => d1 ?_), fun d1 => ⟨by unfold inR; clear hst; omega, by unfold inR; clear hst; omega, fun d2 => ?_, fun d2 => p0 T3 f13 (fun q => d2 ?_)⟩⟩, fun c => ?_⟩
      · have ek : k = L.length := by clear hst; omega
        rw [ek, q.1]; rfl
      · have ek : k = L.length := by clear hst; omega
        subst ek
        have hok : mg_ok L Q := ⟨by clear hst; omega, by clear hst; omega⟩
        obtain ⟨i, hi, hi2, hi3⟩ := hst (by rw [hok.1]; exact Nat.one_pos)
        rw [hi3]
        have hmi := hm3 i hi
        have hcp : ig_at L i ∈ Q := by
          have : mg_cs L Q i = true := by cases q : mg_cs L Q i with | true => rfl | false => rw [q] at hi2; simp at hi2
          obtain ⟨j, hj, _, ej⟩ := mg_cs_iff.mp this
          rw [← ej]; exact ig_at_mem r0 _
        rcases hmi with ⟨m, hm, em, vm⟩ | ⟨q, _⟩
        · exact out i m _ hok hi hi2 rfl hm em vm
        · exact absurd hcp q
      · have ek : k = L.length := by clear hst; omega
        subst ek
        have := q.2; omega
      · have hn1 := hn1 c
        have hkl : k < L.length := hn1.2
        have hnext : ∀ (is bef : Bool), is = mg_cs L Q k → bef = mg_cs L Q (k + L.length - 1) → ∀ (v4 v5 v6 : Int), v4 = ((cntN (mg_cs L Q) k + (if is then 1 else 0) : Nat) : Int) → v5 = ((cntN (fun i => mg_cs L Q i && !mg_cs L Q (i + L.length - 1)) k + (if (is && !bef) then 1 else 0) : Nat) : Int) → v6 = (if (is && !bef) then (k : Int) else st) → wp_BJo_join_77 post (wp_BJo_join_35 post n) jo (cntN (mg_cp L Q) L.length : Nat) v4 v5 v6 k T3 := by
          intro is bef his hbef v4 v5 v6 e4 e5 e6
          have er4 : cntN (mg_cs L Q) (k + 1) = cntN (mg_cs L Q) k + (if is then 1 else 0) := by rw [cntN, his]
          have er5 : cntN (fun i => mg_cs L Q i && !mg_cs L Q (i + L.length - 1)) (k + 1) = cntN (fun i => mg_cs L Q i && !mg_cs L Q (i + L.length - 1)) k + (if (is && !bef) then 1 else 0) := by rw [cntN, his, hbef]
          have := ih (k + 1) v6 hn1.1 hn1.2 (fun q => ?_)
          · rw [er4, er5, ← e4, ← e5] at this
            unfold wp_BJo_join_77
            rw [e1]; exact this
          · by_cases b : (is && !bef) = true
            · rw [if_pos b] at e6
              exact ⟨k, Nat.lt_succ_self k, by rw [← his, ← hbef]; exact b, e6⟩
            · rw [if_neg b] at e6
              rw [er5, if_neg b, Nat.add_zero] at q
              obtain ⟨i, i1, i2, i3⟩ := hst q
              exact ⟨i, Nat.lt_succ_of_lt i1, i2, by rw [e6, i3]⟩
        clear hst
        have x1 : (k : Int) % (L.length : Int) = ((k % L.length : Nat) : Int) := rfl
        have x2 : ((k : Int) + 1) % (L.length : Int) = (((k + 1) % L.length : Nat) : Int) := by rw [e1]; rfl
        have y1 : ((k : Int) - 1) % (L.length : Int) = (((k + L.length - 1) % L.length : Nat) : Int) := by
          have : ((k + L.length - 1 : Nat) : Int) = ((k : Int) - 1) + (L.length : Int) := by omega
          rw [← nmodc, this, Int.add_emod_right]
        have y2 : ((k : Int) - 1 + 1) % (L.length : Int) = (((k + L.length - 1 + 1) % L.length : Nat) : Int) := by
          rw [show k + L.length - 1 + 1 = k + L.length by omega, Nat.add_mod_right, show (k : Int) - 1 + 1 = (k : Int) by omega]; rfl
        refine ⟨h3.1, sp_B_common h3 gL3 gR3 l0 r0 nQ hm3 ⟨by unfold inR; omega, by unfold inR; omega⟩ x1 x2 (fun q => ⟨inR_lit1, fun r => absurd r (by decide), fun _ => ⟨h3.1, ?_⟩⟩) (fun q => ⟨inR_lit0, fun _ => hnext false (mg_cs L Q (k + L.length - 1)) q.symm rfl _ _ _ (by simp) (by simp) (by simp), fun r => absurd rfl r⟩)⟩
        refine sp_B_common h3 gL3 gR3 l0 r0 nQ hm3 ⟨by unfold inR; omega, by unfold inR; omega⟩ y1 y2 (fun q2 => ⟨inR_lit1, fun _ => hnext true true q.symm q2.symm _ _ _ (by simp) (by simp) (by simp), fun r => absurd r (by decide)⟩) (fun q2 => ⟨inR_lit0, fun r => absurd rfl r, fun _ => hnext true false q.symm q2.symm _ _ _ (by simp) (by simp) (by simp)⟩)
  exact l35 (L.length + 1) 0 0 (by omega) (by omega) (fun q => by simp [cntN] at q)
end JN
